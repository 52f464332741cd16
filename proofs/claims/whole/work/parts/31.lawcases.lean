set_option maxHeartbeats 4000000 in
set_option maxRecDepth 100000 in
theorem lc_write {p : Program} {l : Launch} {e : Env} {s : State} {m : MethodId} {below : List Frame} {meth : Method} {c : Code} {dC : Nat → ClassId} {dI : Nat → Nat → Nat} {cy : Nat → ClassId} {b L q0 q1 fu : Nat} {u : Nat → Nat → Nat} {am : Nat → Nat} {xs : Nat → Int32} {Rl : Nat → (Nat → ob_T) → Prop} (hs : sx_write fu Rl) (hL : L ≤ 2048) (C0 : lw_At p s m meth c b L xs) (hK : va_K (dC, dI) vwCl (tyL cy) s) (hG : oc_G (fun q : Nat => s.heap.size ≤ q) (lo cy q0 q1 u am) 12) (n : Nat) (z : Nat → ob_T) (H : Heap) (locs : List Loc) (ls : Array Slot) (hn : 4 * n + 4 ≤ L) (hR : Rl n z) (hP : ∀ i, i < 12 → va_P (dC, dI) vwCl (lo cy q0 q1 u am i (z i)) H) (hS : va_S (fun q : Nat => s.heap.size ≤ q) s.heap H locs) (hl : lv_has ls 4 [(0, .ref b), (1, .ref q0), (2, .ref q1), (3, .int (nI (4 * n)))]) (next : ∀ (z : Nat → ob_T) (H : Heap) (locs : List Loc), Rl (n + 1) z → (∀ i, i < 12 → va_P (dC, dI) vwCl (lo cy q0 q1 u am i (z i)) H) → va_S (fun q : Nat => s.heap.size ≤ q) s.heap H locs → ∀ (ls : Array Slot), lv_has ls 4 [(0, .ref b), (1, .ref q0), (2, .ref q1), (3, .int (nI (4 * n)))] → W p l e room_1 s m #[Value.ref b] below meth c H locs 76 2657 (lw_Z below #[Value.ref b] s) (F0 m 785 ls [])) : W p l e room_1 s m #[Value.ref b] below meth c H locs 76 2657 (lw_Z below #[Value.ref b] s) (F0 m 148 ls []) := by
  obtain ⟨hx, hb, hr, hml, hown, hts, hX, hbl, hlocks, hgv⟩ := C0
  have hA : ∀ q : Nat, s.heap.size ≤ q → (fun q : Nat => s.heap.size ≤ q) q := fun _ h => h
  have hbA : ¬ (fun q : Nat => s.heap.size ≤ q) b := Nat.not_le.mpr hbl
  have hn2 : n < 512 := by omega
  refine lv_aload_n hx hb dL_law_148 rfl (lv_at hl 1 rfl) ?_
  refine lv_aload_n hx hb dL_law_149 rfl (lv_at hl 0 rfl) ?_
  refine lv_iload_n hx hb dL_law_150 rfl (lv_at hl 3 rfl) ?_
  refine lv_iconst (v := (1 : Int32)) hx hb dL_law_151 (by decide) ?_
  refine lv_iadd hx hb dL_law_152 ?_
  refine va_sld hx hb hX hbl hbA hS (lw_ix 1 (by decide) hn hL) dL_law_153 ?_
  refine lv_aload_n hx hb dL_law_154 rfl (lv_at hl 0 rfl) ?_
  refine lv_iload_n hx hb dL_law_155 rfl (lv_at hl 3 rfl) ?_
  refine lv_iconst (v := (2 : Int32)) hx hb dL_law_156 (by decide) ?_
  refine lv_iadd hx hb dL_law_157 ?_
  refine va_sld hx hb hX hbl hbA hS (lw_ix 2 (by decide) hn hL) dL_law_158 ?_
  refine lv_i2l (v := (xs (nI (4 * n) + (2 : Int32)).toNatClampNeg).toInt64) hx hb dL_law_159 rfl ?_
  refine lv_bipush (v := (32 : Int32)) hx hb dL_law_160 (by decide) ?_
  refine lv_lshl (v := ((xs (nI (4 * n) + (2 : Int32)).toNatClampNeg).toInt64) <<< (((32 : Int32)).toInt64 &&& 63)) hx hb dL_law_162 rfl ?_
  refine lv_aload_n hx hb dL_law_163 rfl (lv_at hl 0 rfl) ?_
  refine lv_iload_n hx hb dL_law_164 rfl (lv_at hl 3 rfl) ?_
  refine lv_iconst (v := (3 : Int32)) hx hb dL_law_165 (by decide) ?_
  refine lv_iadd hx hb dL_law_166 ?_
  refine va_sld hx hb hX hbl hbA hS (lw_ix 3 (by decide) hn hL) dL_law_167 ?_
  refine lv_i2l (v := (xs (nI (4 * n) + (3 : Int32)).toNatClampNeg).toInt64) hx hb dL_law_168 rfl ?_
  refine lv_ldc2 (v := (4294967295 : Int64)) hx hb hown (hts (.constantLong RL 13 (4294967295)) (List.mem_append_right _ (List.mem_append_right _ (List.mem_append_right _ (List.mem_append_right _ (List.mem_of_getElem? (i := 85) rfl)))))) dL_law_169 ?_
  refine lv_land hx hb dL_law_172 ?_
  refine lv_lor hx hb dL_law_173 ?_
  obtain ⟨R5, R6, h5, h6, hret, hR⟩ := hs n z (xs (nI (4 * n) + (1 : Int32)).toNatClampNeg) ((((xs (nI (4 * n) + (2 : Int32)).toNatClampNeg).toInt64) <<< (((32 : Int32)).toInt64 &&& 63)) ||| (((xs (nI (4 * n) + (3 : Int32)).toNatClampNeg).toInt64) &&& ((4294967295 : Int64)))) hn2 hR
  refine cl_vi (x := z) (x' := (zu z 1 R5.2)) (oc := lo cy q0 q1 u am) (N := 12) ⟨hx, hb, hml, hown, hts⟩ hK hA hG hP hS [0, 1] (by decide) (by decide) (fun i hi => by simp only [zu]; rw [if_neg (fun e => hi (by rw [e]; decide))]) (fun sz => kcX5_write l dC dI cy fu q0 (u 0) (z 0) (u 1) (z 1) (xs (nI (4 * n) + (1 : Int32)).toNatClampNeg) ((((xs (nI (4 * n) + (2 : Int32)).toNatClampNeg).toInt64) <<< (((32 : Int32)).toInt64 &&& 63)) ||| (((xs (nI (4 * n) + (3 : Int32)).toNatClampNeg).toInt64) &&& ((4294967295 : Int64)))) sz R5 h5) rfl rfl (cwV 2 hts gT_X5_write rfl rfl rfl ⟨rfl, ydX5_write⟩ ⟨Nat.le_of_ble_eq_true rfl, Nat.le_of_ble_eq_true rfl⟩) 5 0 rfl rfl rfl rfl hl.1 rfl (Nat.le_of_ble_eq_true rfl) dL_law_174 ⟨Nat.le_of_ble_eq_true rfl, Nat.le_of_ble_eq_true rfl⟩ (fun H locs hP hS => ?_)
  refine lv_aload_n hx hb dL_law_177 rfl (lv_at hl 2 rfl) ?_
  refine lv_aload_n hx hb dL_law_178 rfl (lv_at hl 0 rfl) ?_
  refine lv_iload_n hx hb dL_law_179 rfl (lv_at hl 3 rfl) ?_
  refine lv_iconst (v := (1 : Int32)) hx hb dL_law_180 (by decide) ?_
  refine lv_iadd hx hb dL_law_181 ?_
  refine va_sld hx hb hX hbl hbA hS (lw_ix 1 (by decide) hn hL) dL_law_182 ?_
  refine lv_aload_n hx hb dL_law_183 rfl (lv_at hl 0 rfl) ?_
  refine lv_iload_n hx hb dL_law_184 rfl (lv_at hl 3 rfl) ?_
  refine lv_iconst (v := (2 : Int32)) hx hb dL_law_185 (by decide) ?_
  refine lv_iadd hx hb dL_law_186 ?_
  refine va_sld hx hb hX hbl hbA hS (lw_ix 2 (by decide) hn hL) dL_law_187 ?_
  refine lv_i2l (v := (xs (nI (4 * n) + (2 : Int32)).toNatClampNeg).toInt64) hx hb dL_law_188 rfl ?_
  refine lv_bipush (v := (32 : Int32)) hx hb dL_law_189 (by decide) ?_
  refine lv_lshl (v := ((xs (nI (4 * n) + (2 : Int32)).toNatClampNeg).toInt64) <<< (((32 : Int32)).toInt64 &&& 63)) hx hb dL_law_191 rfl ?_
  refine lv_aload_n hx hb dL_law_192 rfl (lv_at hl 0 rfl) ?_
  refine lv_iload_n hx hb dL_law_193 rfl (lv_at hl 3 rfl) ?_
  refine lv_iconst (v := (3 : Int32)) hx hb dL_law_194 (by decide) ?_
  refine lv_iadd hx hb dL_law_195 ?_
  refine va_sld hx hb hX hbl hbA hS (lw_ix 3 (by decide) hn hL) dL_law_196 ?_
  refine lv_i2l (v := (xs (nI (4 * n) + (3 : Int32)).toNatClampNeg).toInt64) hx hb dL_law_197 rfl ?_
  refine lv_ldc2 (v := (4294967295 : Int64)) hx hb hown (hts (.constantLong RL 13 (4294967295)) (List.mem_append_right _ (List.mem_append_right _ (List.mem_append_right _ (List.mem_append_right _ (List.mem_of_getElem? (i := 85) rfl)))))) dL_law_198 ?_
  refine lv_land hx hb dL_law_201 ?_
  refine lv_lor hx hb dL_law_202 ?_
  refine cl_vi (x := (zu z 1 R5.2)) (x' := (zu (zu z 1 R5.2) 11 R6.2)) (oc := lo cy q0 q1 u am) (N := 12) ⟨hx, hb, hml, hown, hts⟩ hK hA hG hP hS [11] (by decide) (by decide) (fun i hi => by simp only [zu]; rw [if_neg (fun e => hi (by rw [e]; decide))]) (fun sz => kcX6_write l dC dI cy fu q1 am ((zu z 1 R5.2) 11) (xs (nI (4 * n) + (1 : Int32)).toNatClampNeg) ((((xs (nI (4 * n) + (2 : Int32)).toNatClampNeg).toInt64) <<< (((32 : Int32)).toInt64 &&& 63)) ||| (((xs (nI (4 * n) + (3 : Int32)).toNatClampNeg).toInt64) &&& ((4294967295 : Int64)))) sz R6 h6) rfl rfl (cwV 2 hts gT_X6_write rfl rfl rfl ⟨rfl, ydX6_write⟩ ⟨Nat.le_of_ble_eq_true rfl, Nat.le_of_ble_eq_true rfl⟩) 6 0 rfl rfl rfl rfl hl.1 rfl (Nat.le_of_ble_eq_true rfl) dL_law_203 ⟨Nat.le_of_ble_eq_true rfl, Nat.le_of_ble_eq_true rfl⟩ (fun H locs hP hS => ?_)
  refine lv_icmp_eq (tgt := 785) hx hb dL_law_206 (by decide) (fun hc => ?_) (fun hc => absurd hret hc)
  exact next (zu (zu z 1 R5.2) 11 R6.2) H locs hR hP hS ls hl
set_option maxHeartbeats 4000000 in
set_option maxRecDepth 100000 in
theorem lc_wipe {p : Program} {l : Launch} {e : Env} {s : State} {m : MethodId} {below : List Frame} {meth : Method} {c : Code} {dC : Nat → ClassId} {dI : Nat → Nat → Nat} {cy : Nat → ClassId} {b L q0 q1 fu : Nat} {u : Nat → Nat → Nat} {am : Nat → Nat} {xs : Nat → Int32} {Rl : Nat → (Nat → ob_T) → Prop} (hs : sx_wipe fu Rl) (hL : L ≤ 2048) (C0 : lw_At p s m meth c b L xs) (hK : va_K (dC, dI) vwCl (tyL cy) s) (hG : oc_G (fun q : Nat => s.heap.size ≤ q) (lo cy q0 q1 u am) 12) (n : Nat) (z : Nat → ob_T) (H : Heap) (locs : List Loc) (ls : Array Slot) (hn : 4 * n + 4 ≤ L) (hR : Rl n z) (hP : ∀ i, i < 12 → va_P (dC, dI) vwCl (lo cy q0 q1 u am i (z i)) H) (hS : va_S (fun q : Nat => s.heap.size ≤ q) s.heap H locs) (hl : lv_has ls 4 [(0, .ref b), (1, .ref q0), (2, .ref q1), (3, .int (nI (4 * n)))]) (next : ∀ (z : Nat → ob_T) (H : Heap) (locs : List Loc), Rl (n + 1) z → (∀ i, i < 12 → va_P (dC, dI) vwCl (lo cy q0 q1 u am i (z i)) H) → va_S (fun q : Nat => s.heap.size ≤ q) s.heap H locs → ∀ (ls : Array Slot), lv_has ls 4 [(0, .ref b), (1, .ref q0), (2, .ref q1), (3, .int (nI (4 * n)))] → W p l e room_1 s m #[Value.ref b] below meth c H locs 76 2657 (lw_Z below #[Value.ref b] s) (F0 m 785 ls [])) : W p l e room_1 s m #[Value.ref b] below meth c H locs 76 2657 (lw_Z below #[Value.ref b] s) (F0 m 211 ls []) := by
  obtain ⟨hx, hb, hr, hml, hown, hts, hX, hbl, hlocks, hgv⟩ := C0
  have hA : ∀ q : Nat, s.heap.size ≤ q → (fun q : Nat => s.heap.size ≤ q) q := fun _ h => h
  have hbA : ¬ (fun q : Nat => s.heap.size ≤ q) b := Nat.not_le.mpr hbl
  have hn2 : n < 512 := by omega
  refine lv_aload_n hx hb dL_law_211 rfl (lv_at hl 1 rfl) ?_
  obtain ⟨R5, R6, h5, h6, hret, hR⟩ := hs n z hn2 hR
  refine cl_vi (x := z) (x' := (zu z 1 R5.2)) (oc := lo cy q0 q1 u am) (N := 12) ⟨hx, hb, hml, hown, hts⟩ hK hA hG hP hS [0, 1] (by decide) (by decide) (fun i hi => by simp only [zu]; rw [if_neg (fun e => hi (by rw [e]; decide))]) (fun sz => kcX5_wipe l dC dI cy fu q0 (u 0) (z 0) (u 1) (z 1)  sz R5 h5) rfl rfl (cwV 0 hts gT_X5_wipe rfl rfl rfl ⟨rfl, ydX5_wipe⟩ ⟨Nat.le_of_ble_eq_true rfl, Nat.le_of_ble_eq_true rfl⟩) 5 0 rfl rfl rfl rfl hl.1 rfl (Nat.le_of_ble_eq_true rfl) dL_law_212 ⟨Nat.le_of_ble_eq_true rfl, Nat.le_of_ble_eq_true rfl⟩ (fun H locs hP hS => ?_)
  refine lv_aload_n hx hb dL_law_215 rfl (lv_at hl 2 rfl) ?_
  refine cl_vi (x := (zu z 1 R5.2)) (x' := (zu (zu z 1 R5.2) 11 R6.2)) (oc := lo cy q0 q1 u am) (N := 12) ⟨hx, hb, hml, hown, hts⟩ hK hA hG hP hS [11] (by decide) (by decide) (fun i hi => by simp only [zu]; rw [if_neg (fun e => hi (by rw [e]; decide))]) (fun sz => kcX6_wipe l dC dI cy fu q1 am ((zu z 1 R5.2) 11)  sz R6 h6) rfl rfl (cwV 0 hts gT_X6_wipe rfl rfl rfl ⟨rfl, ydX6_wipe⟩ ⟨Nat.le_of_ble_eq_true rfl, Nat.le_of_ble_eq_true rfl⟩) 6 0 rfl rfl rfl rfl hl.1 rfl (Nat.le_of_ble_eq_true rfl) dL_law_216 ⟨Nat.le_of_ble_eq_true rfl, Nat.le_of_ble_eq_true rfl⟩ (fun H locs hP hS => ?_)
  refine lv_icmp_eq (tgt := 785) hx hb dL_law_219 (by decide) (fun hc => ?_) (fun hc => absurd hret hc)
  exact next (zu (zu z 1 R5.2) 11 R6.2) H locs hR hP hS ls hl
set_option maxHeartbeats 4000000 in
set_option maxRecDepth 100000 in
theorem lc_fault {p : Program} {l : Launch} {e : Env} {s : State} {m : MethodId} {below : List Frame} {meth : Method} {c : Code} {dC : Nat → ClassId} {dI : Nat → Nat → Nat} {cy : Nat → ClassId} {b L q0 q1 fu : Nat} {u : Nat → Nat → Nat} {am : Nat → Nat} {xs : Nat → Int32} {Rl : Nat → (Nat → ob_T) → Prop} (hs : sx_fault fu Rl) (hL : L ≤ 2048) (C0 : lw_At p s m meth c b L xs) (hK : va_K (dC, dI) vwCl (tyL cy) s) (hG : oc_G (fun q : Nat => s.heap.size ≤ q) (lo cy q0 q1 u am) 12) (n : Nat) (z : Nat → ob_T) (H : Heap) (locs : List Loc) (ls : Array Slot) (hn : 4 * n + 4 ≤ L) (hR : Rl n z) (hP : ∀ i, i < 12 → va_P (dC, dI) vwCl (lo cy q0 q1 u am i (z i)) H) (hS : va_S (fun q : Nat => s.heap.size ≤ q) s.heap H locs) (hl : lv_has ls 4 [(0, .ref b), (1, .ref q0), (2, .ref q1), (3, .int (nI (4 * n)))]) (next : ∀ (z : Nat → ob_T) (H : Heap) (locs : List Loc), Rl (n + 1) z → (∀ i, i < 12 → va_P (dC, dI) vwCl (lo cy q0 q1 u am i (z i)) H) → va_S (fun q : Nat => s.heap.size ≤ q) s.heap H locs → ∀ (ls : Array Slot), lv_has ls 4 [(0, .ref b), (1, .ref q0), (2, .ref q1), (3, .int (nI (4 * n)))] → W p l e room_1 s m #[Value.ref b] below meth c H locs 76 2657 (lw_Z below #[Value.ref b] s) (F0 m 785 ls [])) : W p l e room_1 s m #[Value.ref b] below meth c H locs 76 2657 (lw_Z below #[Value.ref b] s) (F0 m 224 ls []) := by
  obtain ⟨hx, hb, hr, hml, hown, hts, hX, hbl, hlocks, hgv⟩ := C0
  have hA : ∀ q : Nat, s.heap.size ≤ q → (fun q : Nat => s.heap.size ≤ q) q := fun _ h => h
  have hbA : ¬ (fun q : Nat => s.heap.size ≤ q) b := Nat.not_le.mpr hbl
  have hn2 : n < 512 := by omega
  refine lv_aload_n hx hb dL_law_224 rfl (lv_at hl 1 rfl) ?_
  obtain ⟨R5, R6, h5, h6, hret, hR⟩ := hs n z hn2 hR
  refine cl_vi (x := z) (x' := (zu (zu (zu z 2 R5.2.1) 3 R5.2.2.1) 4 R5.2.2.2)) (oc := lo cy q0 q1 u am) (N := 12) ⟨hx, hb, hml, hown, hts⟩ hK hA hG hP hS [0, 1, 2, 3, 4] (by decide) (by decide) (fun i hi => by simp only [zu]; rw [if_neg (fun e => hi (by rw [e]; decide))]; rw [if_neg (fun e => hi (by rw [e]; decide))]; rw [if_neg (fun e => hi (by rw [e]; decide))]) (fun sz => kcX5_fault l dC dI cy fu q0 (u 0) (z 0) (u 1) (z 1) (u 2) (z 2) (u 3) (z 3) (u 4) (z 4)  sz R5 h5) rfl rfl (cwV 0 hts gT_X5_fault rfl rfl rfl ⟨rfl, ydX5_fault⟩ ⟨Nat.le_of_ble_eq_true rfl, Nat.le_of_ble_eq_true rfl⟩) 5 0 rfl rfl rfl rfl hl.1 rfl (Nat.le_of_ble_eq_true rfl) dL_law_225 ⟨Nat.le_of_ble_eq_true rfl, Nat.le_of_ble_eq_true rfl⟩ (fun H locs hP hS => ?_)
  refine lv_aload_n hx hb dL_law_228 rfl (lv_at hl 2 rfl) ?_
  refine cl_vi (x := (zu (zu (zu z 2 R5.2.1) 3 R5.2.2.1) 4 R5.2.2.2)) (x' := (zu (zu (zu (zu z 2 R5.2.1) 3 R5.2.2.1) 4 R5.2.2.2) 11 R6.2)) (oc := lo cy q0 q1 u am) (N := 12) ⟨hx, hb, hml, hown, hts⟩ hK hA hG hP hS [11] (by decide) (by decide) (fun i hi => by simp only [zu]; rw [if_neg (fun e => hi (by rw [e]; decide))]) (fun sz => kcX6_fault l dC dI cy fu q1 am ((zu (zu (zu z 2 R5.2.1) 3 R5.2.2.1) 4 R5.2.2.2) 11)  sz R6 h6) rfl rfl (cwV 0 hts gT_X6_fault rfl rfl rfl ⟨rfl, ydX6_fault⟩ ⟨Nat.le_of_ble_eq_true rfl, Nat.le_of_ble_eq_true rfl⟩) 6 0 rfl rfl rfl rfl hl.1 rfl (Nat.le_of_ble_eq_true rfl) dL_law_229 ⟨Nat.le_of_ble_eq_true rfl, Nat.le_of_ble_eq_true rfl⟩ (fun H locs hP hS => ?_)
  refine lv_icmp_eq (tgt := 785) hx hb dL_law_232 (by decide) (fun hc => ?_) (fun hc => absurd hret hc)
  exact next (zu (zu (zu (zu z 2 R5.2.1) 3 R5.2.2.1) 4 R5.2.2.2) 11 R6.2) H locs hR hP hS ls hl
set_option maxHeartbeats 4000000 in
set_option maxRecDepth 100000 in
theorem lc_lay {p : Program} {l : Launch} {e : Env} {s : State} {m : MethodId} {below : List Frame} {meth : Method} {c : Code} {dC : Nat → ClassId} {dI : Nat → Nat → Nat} {cy : Nat → ClassId} {b L q0 q1 fu : Nat} {u : Nat → Nat → Nat} {am : Nat → Nat} {xs : Nat → Int32} {Rl : Nat → (Nat → ob_T) → Prop} (hs : sx_lay fu Rl) (hL : L ≤ 2048) (C0 : lw_At p s m meth c b L xs) (hK : va_K (dC, dI) vwCl (tyL cy) s) (hG : oc_G (fun q : Nat => s.heap.size ≤ q) (lo cy q0 q1 u am) 12) (n : Nat) (z : Nat → ob_T) (H : Heap) (locs : List Loc) (ls : Array Slot) (hn : 4 * n + 4 ≤ L) (hR : Rl n z) (hP : ∀ i, i < 12 → va_P (dC, dI) vwCl (lo cy q0 q1 u am i (z i)) H) (hS : va_S (fun q : Nat => s.heap.size ≤ q) s.heap H locs) (hl : lv_has ls 4 [(0, .ref b), (1, .ref q0), (2, .ref q1), (3, .int (nI (4 * n)))]) (next : ∀ (z : Nat → ob_T) (H : Heap) (locs : List Loc), Rl (n + 1) z → (∀ i, i < 12 → va_P (dC, dI) vwCl (lo cy q0 q1 u am i (z i)) H) → va_S (fun q : Nat => s.heap.size ≤ q) s.heap H locs → ∀ (ls : Array Slot), lv_has ls 4 [(0, .ref b), (1, .ref q0), (2, .ref q1), (3, .int (nI (4 * n)))] → W p l e room_1 s m #[Value.ref b] below meth c H locs 76 2657 (lw_Z below #[Value.ref b] s) (F0 m 785 ls [])) : W p l e room_1 s m #[Value.ref b] below meth c H locs 76 2657 (lw_Z below #[Value.ref b] s) (F0 m 237 ls []) := by
  obtain ⟨hx, hb, hr, hml, hown, hts, hX, hbl, hlocks, hgv⟩ := C0
  have hA : ∀ q : Nat, s.heap.size ≤ q → (fun q : Nat => s.heap.size ≤ q) q := fun _ h => h
  have hbA : ¬ (fun q : Nat => s.heap.size ≤ q) b := Nat.not_le.mpr hbl
  have hn2 : n < 512 := by omega
  refine lv_aload_n hx hb dL_law_237 rfl (lv_at hl 1 rfl) ?_
  obtain ⟨R5, R6, h5, h6, hret, hR⟩ := hs n z hn2 hR
  refine cl_vi (x := z) (x' := (zu (zu (zu (zu (zu (zu z 0 R5.2.1) 2 R5.2.2.1) 3 R5.2.2.2.1) 4 R5.2.2.2.2.1) 7 R5.2.2.2.2.2.1) 6 R5.2.2.2.2.2.2)) (oc := lo cy q0 q1 u am) (N := 12) ⟨hx, hb, hml, hown, hts⟩ hK hA hG hP hS [0, 1, 2, 3, 4, 7, 6] (by decide) (by decide) (fun i hi => by simp only [zu]; rw [if_neg (fun e => hi (by rw [e]; decide))]; rw [if_neg (fun e => hi (by rw [e]; decide))]; rw [if_neg (fun e => hi (by rw [e]; decide))]; rw [if_neg (fun e => hi (by rw [e]; decide))]; rw [if_neg (fun e => hi (by rw [e]; decide))]; rw [if_neg (fun e => hi (by rw [e]; decide))]) (fun sz => kcX5_lay l dC dI cy fu q0 (u 0) (z 0) (u 1) (z 1) (u 2) (z 2) (u 3) (z 3) (u 4) (z 4) (u 7) (z 7) (u 6) (z 6)  sz R5 h5) rfl rfl (cwV 0 hts gT_X5_lay rfl rfl rfl ⟨rfl, ydX5_lay⟩ ⟨Nat.le_of_ble_eq_true rfl, Nat.le_of_ble_eq_true rfl⟩) 5 0 rfl rfl rfl rfl hl.1 rfl (Nat.le_of_ble_eq_true rfl) dL_law_238 ⟨Nat.le_of_ble_eq_true rfl, Nat.le_of_ble_eq_true rfl⟩ (fun H locs hP hS => ?_)
  refine lv_aload_n hx hb dL_law_241 rfl (lv_at hl 2 rfl) ?_
  refine cl_vi (x := (zu (zu (zu (zu (zu (zu z 0 R5.2.1) 2 R5.2.2.1) 3 R5.2.2.2.1) 4 R5.2.2.2.2.1) 7 R5.2.2.2.2.2.1) 6 R5.2.2.2.2.2.2)) (x' := (zu (zu (zu (zu (zu (zu (zu z 0 R5.2.1) 2 R5.2.2.1) 3 R5.2.2.2.1) 4 R5.2.2.2.2.1) 7 R5.2.2.2.2.2.1) 6 R5.2.2.2.2.2.2) 11 R6.2)) (oc := lo cy q0 q1 u am) (N := 12) ⟨hx, hb, hml, hown, hts⟩ hK hA hG hP hS [11] (by decide) (by decide) (fun i hi => by simp only [zu]; rw [if_neg (fun e => hi (by rw [e]; decide))]) (fun sz => kcX6_lay l dC dI cy fu q1 am ((zu (zu (zu (zu (zu (zu z 0 R5.2.1) 2 R5.2.2.1) 3 R5.2.2.2.1) 4 R5.2.2.2.2.1) 7 R5.2.2.2.2.2.1) 6 R5.2.2.2.2.2.2) 11)  sz R6 h6) rfl rfl (cwV 0 hts gT_X6_lay rfl rfl rfl ⟨rfl, ydX6_lay⟩ ⟨Nat.le_of_ble_eq_true rfl, Nat.le_of_ble_eq_true rfl⟩) 6 0 rfl rfl rfl rfl hl.1 rfl (Nat.le_of_ble_eq_true rfl) dL_law_242 ⟨Nat.le_of_ble_eq_true rfl, Nat.le_of_ble_eq_true rfl⟩ (fun H locs hP hS => ?_)
  refine lv_icmp_eq (tgt := 785) hx hb dL_law_245 (by decide) (fun hc => ?_) (fun hc => absurd hret hc)
  exact next (zu (zu (zu (zu (zu (zu (zu z 0 R5.2.1) 2 R5.2.2.1) 3 R5.2.2.2.1) 4 R5.2.2.2.2.1) 7 R5.2.2.2.2.2.1) 6 R5.2.2.2.2.2.2) 11 R6.2) H locs hR hP hS ls hl
set_option maxHeartbeats 4000000 in
set_option maxRecDepth 100000 in
theorem lc_realm {p : Program} {l : Launch} {e : Env} {s : State} {m : MethodId} {below : List Frame} {meth : Method} {c : Code} {dC : Nat → ClassId} {dI : Nat → Nat → Nat} {cy : Nat → ClassId} {b L q0 q1 fu : Nat} {u : Nat → Nat → Nat} {am : Nat → Nat} {xs : Nat → Int32} {Rl : Nat → (Nat → ob_T) → Prop} (hs : sx_realm fu Rl) (hL : L ≤ 2048) (C0 : lw_At p s m meth c b L xs) (hK : va_K (dC, dI) vwCl (tyL cy) s) (hG : oc_G (fun q : Nat => s.heap.size ≤ q) (lo cy q0 q1 u am) 12) (n : Nat) (z : Nat → ob_T) (H : Heap) (locs : List Loc) (ls : Array Slot) (hn : 4 * n + 4 ≤ L) (hR : Rl n z) (hP : ∀ i, i < 12 → va_P (dC, dI) vwCl (lo cy q0 q1 u am i (z i)) H) (hS : va_S (fun q : Nat => s.heap.size ≤ q) s.heap H locs) (hl : lv_has ls 4 [(0, .ref b), (1, .ref q0), (2, .ref q1), (3, .int (nI (4 * n)))]) (next : ∀ (z : Nat → ob_T) (H : Heap) (locs : List Loc), Rl (n + 1) z → (∀ i, i < 12 → va_P (dC, dI) vwCl (lo cy q0 q1 u am i (z i)) H) → va_S (fun q : Nat => s.heap.size ≤ q) s.heap H locs → ∀ (ls : Array Slot), lv_has ls 4 [(0, .ref b), (1, .ref q0), (2, .ref q1), (3, .int (nI (4 * n)))] → W p l e room_1 s m #[Value.ref b] below meth c H locs 76 2657 (lw_Z below #[Value.ref b] s) (F0 m 785 ls [])) : W p l e room_1 s m #[Value.ref b] below meth c H locs 76 2657 (lw_Z below #[Value.ref b] s) (F0 m 250 ls []) := by
  obtain ⟨hx, hb, hr, hml, hown, hts, hX, hbl, hlocks, hgv⟩ := C0
  have hA : ∀ q : Nat, s.heap.size ≤ q → (fun q : Nat => s.heap.size ≤ q) q := fun _ h => h
  have hbA : ¬ (fun q : Nat => s.heap.size ≤ q) b := Nat.not_le.mpr hbl
  have hn2 : n < 512 := by omega
  refine lv_aload_n hx hb dL_law_250 rfl (lv_at hl 1 rfl) ?_
  refine lv_aload_n hx hb dL_law_251 rfl (lv_at hl 0 rfl) ?_
  refine lv_iload_n hx hb dL_law_252 rfl (lv_at hl 3 rfl) ?_
  refine lv_iconst (v := (1 : Int32)) hx hb dL_law_253 (by decide) ?_
  refine lv_iadd hx hb dL_law_254 ?_
  refine va_sld hx hb hX hbl hbA hS (lw_ix 1 (by decide) hn hL) dL_law_255 ?_
  refine lv_aload_n hx hb dL_law_256 rfl (lv_at hl 0 rfl) ?_
  refine lv_iload_n hx hb dL_law_257 rfl (lv_at hl 3 rfl) ?_
  refine lv_iconst (v := (2 : Int32)) hx hb dL_law_258 (by decide) ?_
  refine lv_iadd hx hb dL_law_259 ?_
  refine va_sld hx hb hX hbl hbA hS (lw_ix 2 (by decide) hn hL) dL_law_260 ?_
  obtain ⟨R5, R6, h5, h6, hret, hR⟩ := hs n z (xs (nI (4 * n) + (1 : Int32)).toNatClampNeg) (xs (nI (4 * n) + (2 : Int32)).toNatClampNeg) hn2 hR
  refine cl_vl (x := z) (x' := z) (oc := lo cy q0 q1 u am) (N := 12) ⟨hx, hb, hml, hown, hts⟩ hK hA hG hP hS [0, 7] (by decide) (by decide) (fun i hi => by rfl) (fun sz => kcX5_realm l dC dI cy fu q0 (u 0) (z 0) (u 7) (z 7) (xs (nI (4 * n) + (1 : Int32)).toNatClampNeg) (xs (nI (4 * n) + (2 : Int32)).toNatClampNeg) sz R5 h5) rfl rfl (cwV 2 hts gT_X5_realm rfl rfl rfl ⟨rfl, ydX5_realm⟩ ⟨Nat.le_of_ble_eq_true rfl, Nat.le_of_ble_eq_true rfl⟩) 5 0 rfl rfl rfl rfl hl.1 rfl (Nat.le_of_ble_eq_true rfl) dL_law_261 ⟨Nat.le_of_ble_eq_true rfl, Nat.le_of_ble_eq_true rfl⟩ (fun H locs hP hS => ?_)
  refine lv_aload_n hx hb dL_law_264 rfl (lv_at hl 2 rfl) ?_
  refine lv_aload_n hx hb dL_law_265 rfl (lv_at hl 0 rfl) ?_
  refine lv_iload_n hx hb dL_law_266 rfl (lv_at hl 3 rfl) ?_
  refine lv_iconst (v := (1 : Int32)) hx hb dL_law_267 (by decide) ?_
  refine lv_iadd hx hb dL_law_268 ?_
  refine va_sld hx hb hX hbl hbA hS (lw_ix 1 (by decide) hn hL) dL_law_269 ?_
  refine lv_aload_n hx hb dL_law_270 rfl (lv_at hl 0 rfl) ?_
  refine lv_iload_n hx hb dL_law_271 rfl (lv_at hl 3 rfl) ?_
  refine lv_iconst (v := (2 : Int32)) hx hb dL_law_272 (by decide) ?_
  refine lv_iadd hx hb dL_law_273 ?_
  refine va_sld hx hb hX hbl hbA hS (lw_ix 2 (by decide) hn hL) dL_law_274 ?_
  refine cl_vl (x := z) (x' := z) (oc := lo cy q0 q1 u am) (N := 12) ⟨hx, hb, hml, hown, hts⟩ hK hA hG hP hS [11] (by decide) (by decide) (fun i hi => by rfl) (fun sz => kcX6_realm l dC dI cy fu q1 am (z 11) (xs (nI (4 * n) + (1 : Int32)).toNatClampNeg) (xs (nI (4 * n) + (2 : Int32)).toNatClampNeg) sz R6 h6) rfl rfl (cwV 2 hts gT_X6_realm rfl rfl rfl ⟨rfl, ydX6_realm⟩ ⟨Nat.le_of_ble_eq_true rfl, Nat.le_of_ble_eq_true rfl⟩) 6 0 rfl rfl rfl rfl hl.1 rfl (Nat.le_of_ble_eq_true rfl) dL_law_275 ⟨Nat.le_of_ble_eq_true rfl, Nat.le_of_ble_eq_true rfl⟩ (fun H locs hP hS => ?_)
  refine W.lcmp hx hb dL_law_278 ?_
  refine lv_if_eq (tgt := 785) hx hb dL_law_279 (by decide) (fun hc => ?_) (fun hc => absurd (lg_refl hret) hc)
  exact next z H locs hR hP hS ls hl
set_option maxHeartbeats 4000000 in
set_option maxRecDepth 100000 in
theorem lc_market {p : Program} {l : Launch} {e : Env} {s : State} {m : MethodId} {below : List Frame} {meth : Method} {c : Code} {dC : Nat → ClassId} {dI : Nat → Nat → Nat} {cy : Nat → ClassId} {b L q0 q1 fu : Nat} {u : Nat → Nat → Nat} {am : Nat → Nat} {xs : Nat → Int32} {Rl : Nat → (Nat → ob_T) → Prop} (hs : sx_market fu Rl) (hL : L ≤ 2048) (C0 : lw_At p s m meth c b L xs) (hK : va_K (dC, dI) vwCl (tyL cy) s) (hG : oc_G (fun q : Nat => s.heap.size ≤ q) (lo cy q0 q1 u am) 12) (n : Nat) (z : Nat → ob_T) (H : Heap) (locs : List Loc) (ls : Array Slot) (hn : 4 * n + 4 ≤ L) (hR : Rl n z) (hP : ∀ i, i < 12 → va_P (dC, dI) vwCl (lo cy q0 q1 u am i (z i)) H) (hS : va_S (fun q : Nat => s.heap.size ≤ q) s.heap H locs) (hl : lv_has ls 4 [(0, .ref b), (1, .ref q0), (2, .ref q1), (3, .int (nI (4 * n)))]) (next : ∀ (z : Nat → ob_T) (H : Heap) (locs : List Loc), Rl (n + 1) z → (∀ i, i < 12 → va_P (dC, dI) vwCl (lo cy q0 q1 u am i (z i)) H) → va_S (fun q : Nat => s.heap.size ≤ q) s.heap H locs → ∀ (ls : Array Slot), lv_has ls 4 [(0, .ref b), (1, .ref q0), (2, .ref q1), (3, .int (nI (4 * n)))] → W p l e room_1 s m #[Value.ref b] below meth c H locs 76 2657 (lw_Z below #[Value.ref b] s) (F0 m 785 ls [])) : W p l e room_1 s m #[Value.ref b] below meth c H locs 76 2657 (lw_Z below #[Value.ref b] s) (F0 m 284 ls []) := by
  obtain ⟨hx, hb, hr, hml, hown, hts, hX, hbl, hlocks, hgv⟩ := C0
  have hA : ∀ q : Nat, s.heap.size ≤ q → (fun q : Nat => s.heap.size ≤ q) q := fun _ h => h
  have hbA : ¬ (fun q : Nat => s.heap.size ≤ q) b := Nat.not_le.mpr hbl
  have hn2 : n < 512 := by omega
  refine lv_aload_n hx hb dL_law_284 rfl (lv_at hl 1 rfl) ?_
  refine lv_aload_n hx hb dL_law_285 rfl (lv_at hl 0 rfl) ?_
  refine lv_iload_n hx hb dL_law_286 rfl (lv_at hl 3 rfl) ?_
  refine lv_iconst (v := (1 : Int32)) hx hb dL_law_287 (by decide) ?_
  refine lv_iadd hx hb dL_law_288 ?_
  refine va_sld hx hb hX hbl hbA hS (lw_ix 1 (by decide) hn hL) dL_law_289 ?_
  obtain ⟨R5, R6, h5, h6, hret, hR⟩ := hs n z (xs (nI (4 * n) + (1 : Int32)).toNatClampNeg) hn2 hR
  refine cl_vl (x := z) (x' := z) (oc := lo cy q0 q1 u am) (N := 12) ⟨hx, hb, hml, hown, hts⟩ hK hA hG hP hS [0, 7] (by decide) (by decide) (fun i hi => by rfl) (fun sz => kcX5_market l dC dI cy fu q0 (u 0) (z 0) (u 7) (z 7) (xs (nI (4 * n) + (1 : Int32)).toNatClampNeg) sz R5 h5) rfl rfl (cwV 1 hts gT_X5_market rfl rfl rfl ⟨rfl, ydX5_market⟩ ⟨Nat.le_of_ble_eq_true rfl, Nat.le_of_ble_eq_true rfl⟩) 5 0 rfl rfl rfl rfl hl.1 rfl (Nat.le_of_ble_eq_true rfl) dL_law_290 ⟨Nat.le_of_ble_eq_true rfl, Nat.le_of_ble_eq_true rfl⟩ (fun H locs hP hS => ?_)
  refine lv_aload_n hx hb dL_law_293 rfl (lv_at hl 2 rfl) ?_
  refine lv_aload_n hx hb dL_law_294 rfl (lv_at hl 0 rfl) ?_
  refine lv_iload_n hx hb dL_law_295 rfl (lv_at hl 3 rfl) ?_
  refine lv_iconst (v := (1 : Int32)) hx hb dL_law_296 (by decide) ?_
  refine lv_iadd hx hb dL_law_297 ?_
  refine va_sld hx hb hX hbl hbA hS (lw_ix 1 (by decide) hn hL) dL_law_298 ?_
  refine cl_vl (x := z) (x' := z) (oc := lo cy q0 q1 u am) (N := 12) ⟨hx, hb, hml, hown, hts⟩ hK hA hG hP hS [11] (by decide) (by decide) (fun i hi => by rfl) (fun sz => kcX6_market l dC dI cy fu q1 am (z 11) (xs (nI (4 * n) + (1 : Int32)).toNatClampNeg) sz R6 h6) rfl rfl (cwV 1 hts gT_X6_market rfl rfl rfl ⟨rfl, ydX6_market⟩ ⟨Nat.le_of_ble_eq_true rfl, Nat.le_of_ble_eq_true rfl⟩) 6 0 rfl rfl rfl rfl hl.1 rfl (Nat.le_of_ble_eq_true rfl) dL_law_299 ⟨Nat.le_of_ble_eq_true rfl, Nat.le_of_ble_eq_true rfl⟩ (fun H locs hP hS => ?_)
  refine W.lcmp hx hb dL_law_302 ?_
  refine lv_if_eq (tgt := 785) hx hb dL_law_303 (by decide) (fun hc => ?_) (fun hc => absurd (lg_refl hret) hc)
  exact next z H locs hR hP hS ls hl
set_option maxHeartbeats 4000000 in
set_option maxRecDepth 100000 in
theorem lc_moves {p : Program} {l : Launch} {e : Env} {s : State} {m : MethodId} {below : List Frame} {meth : Method} {c : Code} {dC : Nat → ClassId} {dI : Nat → Nat → Nat} {cy : Nat → ClassId} {b L q0 q1 fu : Nat} {u : Nat → Nat → Nat} {am : Nat → Nat} {xs : Nat → Int32} {Rl : Nat → (Nat → ob_T) → Prop} (hs : sx_moves fu Rl) (hL : L ≤ 2048) (C0 : lw_At p s m meth c b L xs) (hK : va_K (dC, dI) vwCl (tyL cy) s) (hG : oc_G (fun q : Nat => s.heap.size ≤ q) (lo cy q0 q1 u am) 12) (n : Nat) (z : Nat → ob_T) (H : Heap) (locs : List Loc) (ls : Array Slot) (hn : 4 * n + 4 ≤ L) (hR : Rl n z) (hP : ∀ i, i < 12 → va_P (dC, dI) vwCl (lo cy q0 q1 u am i (z i)) H) (hS : va_S (fun q : Nat => s.heap.size ≤ q) s.heap H locs) (hl : lv_has ls 4 [(0, .ref b), (1, .ref q0), (2, .ref q1), (3, .int (nI (4 * n)))]) (next : ∀ (z : Nat → ob_T) (H : Heap) (locs : List Loc), Rl (n + 1) z → (∀ i, i < 12 → va_P (dC, dI) vwCl (lo cy q0 q1 u am i (z i)) H) → va_S (fun q : Nat => s.heap.size ≤ q) s.heap H locs → ∀ (ls : Array Slot), lv_has ls 4 [(0, .ref b), (1, .ref q0), (2, .ref q1), (3, .int (nI (4 * n)))] → W p l e room_1 s m #[Value.ref b] below meth c H locs 76 2657 (lw_Z below #[Value.ref b] s) (F0 m 785 ls [])) : W p l e room_1 s m #[Value.ref b] below meth c H locs 76 2657 (lw_Z below #[Value.ref b] s) (F0 m 308 ls []) := by
  obtain ⟨hx, hb, hr, hml, hown, hts, hX, hbl, hlocks, hgv⟩ := C0
  have hA : ∀ q : Nat, s.heap.size ≤ q → (fun q : Nat => s.heap.size ≤ q) q := fun _ h => h
  have hbA : ¬ (fun q : Nat => s.heap.size ≤ q) b := Nat.not_le.mpr hbl
  have hn2 : n < 512 := by omega
  refine lv_aload_n hx hb dL_law_308 rfl (lv_at hl 1 rfl) ?_
  refine lv_aload_n hx hb dL_law_309 rfl (lv_at hl 0 rfl) ?_
  refine lv_iload_n hx hb dL_law_310 rfl (lv_at hl 3 rfl) ?_
  refine lv_iconst (v := (1 : Int32)) hx hb dL_law_311 (by decide) ?_
  refine lv_iadd hx hb dL_law_312 ?_
  refine va_sld hx hb hX hbl hbA hS (lw_ix 1 (by decide) hn hL) dL_law_313 ?_
  obtain ⟨R5, R6, h5, h6, hret, hR⟩ := hs n z (xs (nI (4 * n) + (1 : Int32)).toNatClampNeg) hn2 hR
  refine cl_vi (x := z) (x' := z) (oc := lo cy q0 q1 u am) (N := 12) ⟨hx, hb, hml, hown, hts⟩ hK hA hG hP hS [0, 7] (by decide) (by decide) (fun i hi => by rfl) (fun sz => kcX5_moves l dC dI cy fu q0 (u 0) (z 0) (u 7) (z 7) (xs (nI (4 * n) + (1 : Int32)).toNatClampNeg) sz R5 h5) rfl rfl (cwV 1 hts gT_X5_moves rfl rfl rfl ⟨rfl, ydX5_moves⟩ ⟨Nat.le_of_ble_eq_true rfl, Nat.le_of_ble_eq_true rfl⟩) 5 0 rfl rfl rfl rfl hl.1 rfl (Nat.le_of_ble_eq_true rfl) dL_law_314 ⟨Nat.le_of_ble_eq_true rfl, Nat.le_of_ble_eq_true rfl⟩ (fun H locs hP hS => ?_)
  refine lv_aload_n hx hb dL_law_317 rfl (lv_at hl 2 rfl) ?_
  refine lv_aload_n hx hb dL_law_318 rfl (lv_at hl 0 rfl) ?_
  refine lv_iload_n hx hb dL_law_319 rfl (lv_at hl 3 rfl) ?_
  refine lv_iconst (v := (1 : Int32)) hx hb dL_law_320 (by decide) ?_
  refine lv_iadd hx hb dL_law_321 ?_
  refine va_sld hx hb hX hbl hbA hS (lw_ix 1 (by decide) hn hL) dL_law_322 ?_
  refine cl_vi (x := z) (x' := z) (oc := lo cy q0 q1 u am) (N := 12) ⟨hx, hb, hml, hown, hts⟩ hK hA hG hP hS [11] (by decide) (by decide) (fun i hi => by rfl) (fun sz => kcX6_moves l dC dI cy fu q1 am (z 11) (xs (nI (4 * n) + (1 : Int32)).toNatClampNeg) sz R6 h6) rfl rfl (cwV 1 hts gT_X6_moves rfl rfl rfl ⟨rfl, ydX6_moves⟩ ⟨Nat.le_of_ble_eq_true rfl, Nat.le_of_ble_eq_true rfl⟩) 6 0 rfl rfl rfl rfl hl.1 rfl (Nat.le_of_ble_eq_true rfl) dL_law_323 ⟨Nat.le_of_ble_eq_true rfl, Nat.le_of_ble_eq_true rfl⟩ (fun H locs hP hS => ?_)
  refine lv_icmp_eq (tgt := 785) hx hb dL_law_326 (by decide) (fun hc => ?_) (fun hc => absurd hret hc)
  exact next z H locs hR hP hS ls hl
set_option maxHeartbeats 4000000 in
set_option maxRecDepth 100000 in
theorem lc_ends {p : Program} {l : Launch} {e : Env} {s : State} {m : MethodId} {below : List Frame} {meth : Method} {c : Code} {dC : Nat → ClassId} {dI : Nat → Nat → Nat} {cy : Nat → ClassId} {b L q0 q1 fu : Nat} {u : Nat → Nat → Nat} {am : Nat → Nat} {xs : Nat → Int32} {Rl : Nat → (Nat → ob_T) → Prop} (hs : sx_ends fu Rl) (hL : L ≤ 2048) (C0 : lw_At p s m meth c b L xs) (hK : va_K (dC, dI) vwCl (tyL cy) s) (hG : oc_G (fun q : Nat => s.heap.size ≤ q) (lo cy q0 q1 u am) 12) (n : Nat) (z : Nat → ob_T) (H : Heap) (locs : List Loc) (ls : Array Slot) (hn : 4 * n + 4 ≤ L) (hR : Rl n z) (hP : ∀ i, i < 12 → va_P (dC, dI) vwCl (lo cy q0 q1 u am i (z i)) H) (hS : va_S (fun q : Nat => s.heap.size ≤ q) s.heap H locs) (hl : lv_has ls 4 [(0, .ref b), (1, .ref q0), (2, .ref q1), (3, .int (nI (4 * n)))]) (next : ∀ (z : Nat → ob_T) (H : Heap) (locs : List Loc), Rl (n + 1) z → (∀ i, i < 12 → va_P (dC, dI) vwCl (lo cy q0 q1 u am i (z i)) H) → va_S (fun q : Nat => s.heap.size ≤ q) s.heap H locs → ∀ (ls : Array Slot), lv_has ls 4 [(0, .ref b), (1, .ref q0), (2, .ref q1), (3, .int (nI (4 * n)))] → W p l e room_1 s m #[Value.ref b] below meth c H locs 76 2657 (lw_Z below #[Value.ref b] s) (F0 m 785 ls [])) : W p l e room_1 s m #[Value.ref b] below meth c H locs 76 2657 (lw_Z below #[Value.ref b] s) (F0 m 331 ls []) := by
  obtain ⟨hx, hb, hr, hml, hown, hts, hX, hbl, hlocks, hgv⟩ := C0
  have hA : ∀ q : Nat, s.heap.size ≤ q → (fun q : Nat => s.heap.size ≤ q) q := fun _ h => h
  have hbA : ¬ (fun q : Nat => s.heap.size ≤ q) b := Nat.not_le.mpr hbl
  have hn2 : n < 512 := by omega
  refine lv_aload_n hx hb dL_law_331 rfl (lv_at hl 1 rfl) ?_
  refine lv_aload_n hx hb dL_law_332 rfl (lv_at hl 0 rfl) ?_
  refine lv_iload_n hx hb dL_law_333 rfl (lv_at hl 3 rfl) ?_
  refine lv_iconst (v := (1 : Int32)) hx hb dL_law_334 (by decide) ?_
  refine lv_iadd hx hb dL_law_335 ?_
  refine va_sld hx hb hX hbl hbA hS (lw_ix 1 (by decide) hn hL) dL_law_336 ?_
  refine lv_aload_n hx hb dL_law_337 rfl (lv_at hl 0 rfl) ?_
  refine lv_iload_n hx hb dL_law_338 rfl (lv_at hl 3 rfl) ?_
  refine lv_iconst (v := (2 : Int32)) hx hb dL_law_339 (by decide) ?_
  refine lv_iadd hx hb dL_law_340 ?_
  refine va_sld hx hb hX hbl hbA hS (lw_ix 2 (by decide) hn hL) dL_law_341 ?_
  obtain ⟨R5, R6, h5, h6, hret, hR⟩ := hs n z (xs (nI (4 * n) + (1 : Int32)).toNatClampNeg) (xs (nI (4 * n) + (2 : Int32)).toNatClampNeg) hn2 hR
  refine cl_vi (x := z) (x' := z) (oc := lo cy q0 q1 u am) (N := 12) ⟨hx, hb, hml, hown, hts⟩ hK hA hG hP hS [0, 7] (by decide) (by decide) (fun i hi => by rfl) (fun sz => kcX5_ends l dC dI cy fu q0 (u 0) (z 0) (u 7) (z 7) (xs (nI (4 * n) + (1 : Int32)).toNatClampNeg) (xs (nI (4 * n) + (2 : Int32)).toNatClampNeg) sz R5 h5) rfl rfl (cwV 2 hts gT_X5_ends rfl rfl rfl ⟨rfl, ydX5_ends⟩ ⟨Nat.le_of_ble_eq_true rfl, Nat.le_of_ble_eq_true rfl⟩) 5 0 rfl rfl rfl rfl hl.1 rfl (Nat.le_of_ble_eq_true rfl) dL_law_342 ⟨Nat.le_of_ble_eq_true rfl, Nat.le_of_ble_eq_true rfl⟩ (fun H locs hP hS => ?_)
  refine lv_aload_n hx hb dL_law_345 rfl (lv_at hl 2 rfl) ?_
  refine lv_aload_n hx hb dL_law_346 rfl (lv_at hl 0 rfl) ?_
  refine lv_iload_n hx hb dL_law_347 rfl (lv_at hl 3 rfl) ?_
  refine lv_iconst (v := (1 : Int32)) hx hb dL_law_348 (by decide) ?_
  refine lv_iadd hx hb dL_law_349 ?_
  refine va_sld hx hb hX hbl hbA hS (lw_ix 1 (by decide) hn hL) dL_law_350 ?_
  refine lv_aload_n hx hb dL_law_351 rfl (lv_at hl 0 rfl) ?_
  refine lv_iload_n hx hb dL_law_352 rfl (lv_at hl 3 rfl) ?_
  refine lv_iconst (v := (2 : Int32)) hx hb dL_law_353 (by decide) ?_
  refine lv_iadd hx hb dL_law_354 ?_
  refine va_sld hx hb hX hbl hbA hS (lw_ix 2 (by decide) hn hL) dL_law_355 ?_
  refine cl_vi (x := z) (x' := z) (oc := lo cy q0 q1 u am) (N := 12) ⟨hx, hb, hml, hown, hts⟩ hK hA hG hP hS [11] (by decide) (by decide) (fun i hi => by rfl) (fun sz => kcX6_ends l dC dI cy fu q1 am (z 11) (xs (nI (4 * n) + (1 : Int32)).toNatClampNeg) (xs (nI (4 * n) + (2 : Int32)).toNatClampNeg) sz R6 h6) rfl rfl (cwV 2 hts gT_X6_ends rfl rfl rfl ⟨rfl, ydX6_ends⟩ ⟨Nat.le_of_ble_eq_true rfl, Nat.le_of_ble_eq_true rfl⟩) 6 0 rfl rfl rfl rfl hl.1 rfl (Nat.le_of_ble_eq_true rfl) dL_law_356 ⟨Nat.le_of_ble_eq_true rfl, Nat.le_of_ble_eq_true rfl⟩ (fun H locs hP hS => ?_)
  refine lv_icmp_eq (tgt := 785) hx hb dL_law_359 (by decide) (fun hc => ?_) (fun hc => absurd hret hc)
  exact next z H locs hR hP hS ls hl
set_option maxHeartbeats 4000000 in
set_option maxRecDepth 100000 in
theorem lc_held {p : Program} {l : Launch} {e : Env} {s : State} {m : MethodId} {below : List Frame} {meth : Method} {c : Code} {dC : Nat → ClassId} {dI : Nat → Nat → Nat} {cy : Nat → ClassId} {b L q0 q1 fu : Nat} {u : Nat → Nat → Nat} {am : Nat → Nat} {xs : Nat → Int32} {Rl : Nat → (Nat → ob_T) → Prop} (hs : sx_held fu Rl) (hL : L ≤ 2048) (C0 : lw_At p s m meth c b L xs) (hK : va_K (dC, dI) vwCl (tyL cy) s) (hG : oc_G (fun q : Nat => s.heap.size ≤ q) (lo cy q0 q1 u am) 12) (n : Nat) (z : Nat → ob_T) (H : Heap) (locs : List Loc) (ls : Array Slot) (hn : 4 * n + 4 ≤ L) (hR : Rl n z) (hP : ∀ i, i < 12 → va_P (dC, dI) vwCl (lo cy q0 q1 u am i (z i)) H) (hS : va_S (fun q : Nat => s.heap.size ≤ q) s.heap H locs) (hl : lv_has ls 4 [(0, .ref b), (1, .ref q0), (2, .ref q1), (3, .int (nI (4 * n)))]) (next : ∀ (z : Nat → ob_T) (H : Heap) (locs : List Loc), Rl (n + 1) z → (∀ i, i < 12 → va_P (dC, dI) vwCl (lo cy q0 q1 u am i (z i)) H) → va_S (fun q : Nat => s.heap.size ≤ q) s.heap H locs → ∀ (ls : Array Slot), lv_has ls 4 [(0, .ref b), (1, .ref q0), (2, .ref q1), (3, .int (nI (4 * n)))] → W p l e room_1 s m #[Value.ref b] below meth c H locs 76 2657 (lw_Z below #[Value.ref b] s) (F0 m 785 ls [])) : W p l e room_1 s m #[Value.ref b] below meth c H locs 76 2657 (lw_Z below #[Value.ref b] s) (F0 m 364 ls []) := by
  obtain ⟨hx, hb, hr, hml, hown, hts, hX, hbl, hlocks, hgv⟩ := C0
  have hA : ∀ q : Nat, s.heap.size ≤ q → (fun q : Nat => s.heap.size ≤ q) q := fun _ h => h
  have hbA : ¬ (fun q : Nat => s.heap.size ≤ q) b := Nat.not_le.mpr hbl
  have hn2 : n < 512 := by omega
  refine lv_aload_n hx hb dL_law_364 rfl (lv_at hl 1 rfl) ?_
  obtain ⟨R5, R6, h5, h6, hret, hR⟩ := hs n z hn2 hR
  refine cl_vi (x := z) (x' := z) (oc := lo cy q0 q1 u am) (N := 12) ⟨hx, hb, hml, hown, hts⟩ hK hA hG hP hS [0, 7] (by decide) (by decide) (fun i hi => by rfl) (fun sz => kcX5_held l dC dI cy fu q0 (u 0) (z 0) (u 7) (z 7)  sz R5 h5) rfl rfl (cwV 0 hts gT_X5_held rfl rfl rfl ⟨rfl, ydX5_held⟩ ⟨Nat.le_of_ble_eq_true rfl, Nat.le_of_ble_eq_true rfl⟩) 5 0 rfl rfl rfl rfl hl.1 rfl (Nat.le_of_ble_eq_true rfl) dL_law_365 ⟨Nat.le_of_ble_eq_true rfl, Nat.le_of_ble_eq_true rfl⟩ (fun H locs hP hS => ?_)
  refine lv_aload_n hx hb dL_law_368 rfl (lv_at hl 2 rfl) ?_
  refine cl_vi (x := z) (x' := z) (oc := lo cy q0 q1 u am) (N := 12) ⟨hx, hb, hml, hown, hts⟩ hK hA hG hP hS [11] (by decide) (by decide) (fun i hi => by rfl) (fun sz => kcX6_held l dC dI cy fu q1 am (z 11)  sz R6 h6) rfl rfl (cwV 0 hts gT_X6_held rfl rfl rfl ⟨rfl, ydX6_held⟩ ⟨Nat.le_of_ble_eq_true rfl, Nat.le_of_ble_eq_true rfl⟩) 6 0 rfl rfl rfl rfl hl.1 rfl (Nat.le_of_ble_eq_true rfl) dL_law_369 ⟨Nat.le_of_ble_eq_true rfl, Nat.le_of_ble_eq_true rfl⟩ (fun H locs hP hS => ?_)
  refine lv_icmp_eq (tgt := 785) hx hb dL_law_372 (by decide) (fun hc => ?_) (fun hc => absurd hret hc)
  exact next z H locs hR hP hS ls hl
set_option maxHeartbeats 4000000 in
set_option maxRecDepth 100000 in
theorem lc_year {p : Program} {l : Launch} {e : Env} {s : State} {m : MethodId} {below : List Frame} {meth : Method} {c : Code} {dC : Nat → ClassId} {dI : Nat → Nat → Nat} {cy : Nat → ClassId} {b L q0 q1 fu : Nat} {u : Nat → Nat → Nat} {am : Nat → Nat} {xs : Nat → Int32} {Rl : Nat → (Nat → ob_T) → Prop} (hs : sx_year fu Rl) (hL : L ≤ 2048) (C0 : lw_At p s m meth c b L xs) (hK : va_K (dC, dI) vwCl (tyL cy) s) (hG : oc_G (fun q : Nat => s.heap.size ≤ q) (lo cy q0 q1 u am) 12) (n : Nat) (z : Nat → ob_T) (H : Heap) (locs : List Loc) (ls : Array Slot) (hn : 4 * n + 4 ≤ L) (hR : Rl n z) (hP : ∀ i, i < 12 → va_P (dC, dI) vwCl (lo cy q0 q1 u am i (z i)) H) (hS : va_S (fun q : Nat => s.heap.size ≤ q) s.heap H locs) (hl : lv_has ls 4 [(0, .ref b), (1, .ref q0), (2, .ref q1), (3, .int (nI (4 * n)))]) (next : ∀ (z : Nat → ob_T) (H : Heap) (locs : List Loc), Rl (n + 1) z → (∀ i, i < 12 → va_P (dC, dI) vwCl (lo cy q0 q1 u am i (z i)) H) → va_S (fun q : Nat => s.heap.size ≤ q) s.heap H locs → ∀ (ls : Array Slot), lv_has ls 4 [(0, .ref b), (1, .ref q0), (2, .ref q1), (3, .int (nI (4 * n)))] → W p l e room_1 s m #[Value.ref b] below meth c H locs 76 2657 (lw_Z below #[Value.ref b] s) (F0 m 785 ls [])) : W p l e room_1 s m #[Value.ref b] below meth c H locs 76 2657 (lw_Z below #[Value.ref b] s) (F0 m 377 ls []) := by
  obtain ⟨hx, hb, hr, hml, hown, hts, hX, hbl, hlocks, hgv⟩ := C0
  have hA : ∀ q : Nat, s.heap.size ≤ q → (fun q : Nat => s.heap.size ≤ q) q := fun _ h => h
  have hbA : ¬ (fun q : Nat => s.heap.size ≤ q) b := Nat.not_le.mpr hbl
  have hn2 : n < 512 := by omega
  refine lv_aload_n hx hb dL_law_377 rfl (lv_at hl 1 rfl) ?_
  obtain ⟨R5, R6, h5, h6, hret, hR⟩ := hs n z hn2 hR
  refine cl_vi (x := z) (x' := (zu (zu z 5 R5.2.1) 7 R5.2.2)) (oc := lo cy q0 q1 u am) (N := 12) ⟨hx, hb, hml, hown, hts⟩ hK hA hG hP hS [0, 5, 7, 6] (by decide) (by decide) (fun i hi => by simp only [zu]; rw [if_neg (fun e => hi (by rw [e]; decide))]; rw [if_neg (fun e => hi (by rw [e]; decide))]) (fun sz => kcX5_year l dC dI cy fu q0 (u 0) (z 0) (u 5) (z 5) (u 7) (z 7) (u 6) (z 6)  sz R5 h5) rfl rfl (cwV 0 hts gT_X5_year rfl rfl rfl ⟨rfl, ydX5_year⟩ ⟨Nat.le_of_ble_eq_true rfl, Nat.le_of_ble_eq_true rfl⟩) 5 0 rfl rfl rfl rfl hl.1 rfl (Nat.le_of_ble_eq_true rfl) dL_law_378 ⟨Nat.le_of_ble_eq_true rfl, Nat.le_of_ble_eq_true rfl⟩ (fun H locs hP hS => ?_)
  refine lv_aload_n hx hb dL_law_381 rfl (lv_at hl 2 rfl) ?_
  refine cl_vi (x := (zu (zu z 5 R5.2.1) 7 R5.2.2)) (x' := (zu (zu (zu z 5 R5.2.1) 7 R5.2.2) 11 R6.2)) (oc := lo cy q0 q1 u am) (N := 12) ⟨hx, hb, hml, hown, hts⟩ hK hA hG hP hS [11] (by decide) (by decide) (fun i hi => by simp only [zu]; rw [if_neg (fun e => hi (by rw [e]; decide))]) (fun sz => kcX6_year l dC dI cy fu q1 am ((zu (zu z 5 R5.2.1) 7 R5.2.2) 11)  sz R6 h6) rfl rfl (cwV 0 hts gT_X6_year rfl rfl rfl ⟨rfl, ydX6_year⟩ ⟨Nat.le_of_ble_eq_true rfl, Nat.le_of_ble_eq_true rfl⟩) 6 0 rfl rfl rfl rfl hl.1 rfl (Nat.le_of_ble_eq_true rfl) dL_law_382 ⟨Nat.le_of_ble_eq_true rfl, Nat.le_of_ble_eq_true rfl⟩ (fun H locs hP hS => ?_)
  refine lv_icmp_eq (tgt := 785) hx hb dL_law_385 (by decide) (fun hc => ?_) (fun hc => absurd hret hc)
  exact next (zu (zu (zu z 5 R5.2.1) 7 R5.2.2) 11 R6.2) H locs hR hP hS ls hl
set_option maxHeartbeats 4000000 in
set_option maxRecDepth 100000 in
theorem lc_rest {p : Program} {l : Launch} {e : Env} {s : State} {m : MethodId} {below : List Frame} {meth : Method} {c : Code} {dC : Nat → ClassId} {dI : Nat → Nat → Nat} {cy : Nat → ClassId} {b L q0 q1 fu : Nat} {u : Nat → Nat → Nat} {am : Nat → Nat} {xs : Nat → Int32} {Rl : Nat → (Nat → ob_T) → Prop} (hs : sx_rest fu Rl) (hL : L ≤ 2048) (C0 : lw_At p s m meth c b L xs) (hK : va_K (dC, dI) vwCl (tyL cy) s) (hG : oc_G (fun q : Nat => s.heap.size ≤ q) (lo cy q0 q1 u am) 12) (n : Nat) (z : Nat → ob_T) (H : Heap) (locs : List Loc) (ls : Array Slot) (hn : 4 * n + 4 ≤ L) (hR : Rl n z) (hP : ∀ i, i < 12 → va_P (dC, dI) vwCl (lo cy q0 q1 u am i (z i)) H) (hS : va_S (fun q : Nat => s.heap.size ≤ q) s.heap H locs) (hl : lv_has ls 4 [(0, .ref b), (1, .ref q0), (2, .ref q1), (3, .int (nI (4 * n)))]) (next : ∀ (z : Nat → ob_T) (H : Heap) (locs : List Loc), Rl (n + 1) z → (∀ i, i < 12 → va_P (dC, dI) vwCl (lo cy q0 q1 u am i (z i)) H) → va_S (fun q : Nat => s.heap.size ≤ q) s.heap H locs → ∀ (ls : Array Slot), lv_has ls 4 [(0, .ref b), (1, .ref q0), (2, .ref q1), (3, .int (nI (4 * n)))] → W p l e room_1 s m #[Value.ref b] below meth c H locs 76 2657 (lw_Z below #[Value.ref b] s) (F0 m 785 ls [])) : W p l e room_1 s m #[Value.ref b] below meth c H locs 76 2657 (lw_Z below #[Value.ref b] s) (F0 m 390 ls []) := by
  obtain ⟨hx, hb, hr, hml, hown, hts, hX, hbl, hlocks, hgv⟩ := C0
  have hA : ∀ q : Nat, s.heap.size ≤ q → (fun q : Nat => s.heap.size ≤ q) q := fun _ h => h
  have hbA : ¬ (fun q : Nat => s.heap.size ≤ q) b := Nat.not_le.mpr hbl
  have hn2 : n < 512 := by omega
  refine lv_aload_n hx hb dL_law_390 rfl (lv_at hl 1 rfl) ?_
  obtain ⟨R5, R6, h5, h6, hret, hR⟩ := hs n z hn2 hR
  refine cl_vi (x := z) (x' := (zu (zu (zu z 5 R5.2.1) 7 R5.2.2.1) 8 R5.2.2.2)) (oc := lo cy q0 q1 u am) (N := 12) ⟨hx, hb, hml, hown, hts⟩ hK hA hG hP hS [0, 5, 7, 8] (by decide) (by decide) (fun i hi => by simp only [zu]; rw [if_neg (fun e => hi (by rw [e]; decide))]; rw [if_neg (fun e => hi (by rw [e]; decide))]; rw [if_neg (fun e => hi (by rw [e]; decide))]) (fun sz => kcX5_rest l dC dI cy fu q0 (u 0) (z 0) (u 5) (z 5) (u 7) (z 7) (u 8) (z 8)  sz R5 h5) rfl rfl (cwV 0 hts gT_X5_rest rfl rfl rfl ⟨rfl, ydX5_rest⟩ ⟨Nat.le_of_ble_eq_true rfl, Nat.le_of_ble_eq_true rfl⟩) 5 0 rfl rfl rfl rfl hl.1 rfl (Nat.le_of_ble_eq_true rfl) dL_law_391 ⟨Nat.le_of_ble_eq_true rfl, Nat.le_of_ble_eq_true rfl⟩ (fun H locs hP hS => ?_)
  refine lv_aload_n hx hb dL_law_394 rfl (lv_at hl 2 rfl) ?_
  refine cl_vi (x := (zu (zu (zu z 5 R5.2.1) 7 R5.2.2.1) 8 R5.2.2.2)) (x' := (zu (zu (zu (zu z 5 R5.2.1) 7 R5.2.2.1) 8 R5.2.2.2) 11 R6.2)) (oc := lo cy q0 q1 u am) (N := 12) ⟨hx, hb, hml, hown, hts⟩ hK hA hG hP hS [11] (by decide) (by decide) (fun i hi => by simp only [zu]; rw [if_neg (fun e => hi (by rw [e]; decide))]) (fun sz => kcX6_rest l dC dI cy fu q1 am ((zu (zu (zu z 5 R5.2.1) 7 R5.2.2.1) 8 R5.2.2.2) 11)  sz R6 h6) rfl rfl (cwV 0 hts gT_X6_rest rfl rfl rfl ⟨rfl, ydX6_rest⟩ ⟨Nat.le_of_ble_eq_true rfl, Nat.le_of_ble_eq_true rfl⟩) 6 0 rfl rfl rfl rfl hl.1 rfl (Nat.le_of_ble_eq_true rfl) dL_law_395 ⟨Nat.le_of_ble_eq_true rfl, Nat.le_of_ble_eq_true rfl⟩ (fun H locs hP hS => ?_)
  refine lv_icmp_eq (tgt := 785) hx hb dL_law_398 (by decide) (fun hc => ?_) (fun hc => absurd hret hc)
  exact next (zu (zu (zu (zu z 5 R5.2.1) 7 R5.2.2.1) 8 R5.2.2.2) 11 R6.2) H locs hR hP hS ls hl
set_option maxHeartbeats 4000000 in
set_option maxRecDepth 100000 in
theorem lc_gone {p : Program} {l : Launch} {e : Env} {s : State} {m : MethodId} {below : List Frame} {meth : Method} {c : Code} {dC : Nat → ClassId} {dI : Nat → Nat → Nat} {cy : Nat → ClassId} {b L q0 q1 fu : Nat} {u : Nat → Nat → Nat} {am : Nat → Nat} {xs : Nat → Int32} {Rl : Nat → (Nat → ob_T) → Prop} (hs : sx_gone fu Rl) (hL : L ≤ 2048) (C0 : lw_At p s m meth c b L xs) (hK : va_K (dC, dI) vwCl (tyL cy) s) (hG : oc_G (fun q : Nat => s.heap.size ≤ q) (lo cy q0 q1 u am) 12) (n : Nat) (z : Nat → ob_T) (H : Heap) (locs : List Loc) (ls : Array Slot) (hn : 4 * n + 4 ≤ L) (hR : Rl n z) (hP : ∀ i, i < 12 → va_P (dC, dI) vwCl (lo cy q0 q1 u am i (z i)) H) (hS : va_S (fun q : Nat => s.heap.size ≤ q) s.heap H locs) (hl : lv_has ls 4 [(0, .ref b), (1, .ref q0), (2, .ref q1), (3, .int (nI (4 * n)))]) (next : ∀ (z : Nat → ob_T) (H : Heap) (locs : List Loc), Rl (n + 1) z → (∀ i, i < 12 → va_P (dC, dI) vwCl (lo cy q0 q1 u am i (z i)) H) → va_S (fun q : Nat => s.heap.size ≤ q) s.heap H locs → ∀ (ls : Array Slot), lv_has ls 4 [(0, .ref b), (1, .ref q0), (2, .ref q1), (3, .int (nI (4 * n)))] → W p l e room_1 s m #[Value.ref b] below meth c H locs 76 2657 (lw_Z below #[Value.ref b] s) (F0 m 785 ls [])) : W p l e room_1 s m #[Value.ref b] below meth c H locs 76 2657 (lw_Z below #[Value.ref b] s) (F0 m 403 ls []) := by
  obtain ⟨hx, hb, hr, hml, hown, hts, hX, hbl, hlocks, hgv⟩ := C0
  have hA : ∀ q : Nat, s.heap.size ≤ q → (fun q : Nat => s.heap.size ≤ q) q := fun _ h => h
  have hbA : ¬ (fun q : Nat => s.heap.size ≤ q) b := Nat.not_le.mpr hbl
  have hn2 : n < 512 := by omega
  refine lv_aload_n hx hb dL_law_403 rfl (lv_at hl 1 rfl) ?_
  refine lv_aload_n hx hb dL_law_404 rfl (lv_at hl 0 rfl) ?_
  refine lv_iload_n hx hb dL_law_405 rfl (lv_at hl 3 rfl) ?_
  refine lv_iconst (v := (1 : Int32)) hx hb dL_law_406 (by decide) ?_
  refine lv_iadd hx hb dL_law_407 ?_
  refine va_sld hx hb hX hbl hbA hS (lw_ix 1 (by decide) hn hL) dL_law_408 ?_
  refine lv_aload_n hx hb dL_law_409 rfl (lv_at hl 0 rfl) ?_
  refine lv_iload_n hx hb dL_law_410 rfl (lv_at hl 3 rfl) ?_
  refine lv_iconst (v := (2 : Int32)) hx hb dL_law_411 (by decide) ?_
  refine lv_iadd hx hb dL_law_412 ?_
  refine va_sld hx hb hX hbl hbA hS (lw_ix 2 (by decide) hn hL) dL_law_413 ?_
  refine lv_aload_n hx hb dL_law_414 rfl (lv_at hl 0 rfl) ?_
  refine lv_iload_n hx hb dL_law_415 rfl (lv_at hl 3 rfl) ?_
  refine lv_iconst (v := (3 : Int32)) hx hb dL_law_416 (by decide) ?_
  refine lv_iadd hx hb dL_law_417 ?_
  refine va_sld hx hb hX hbl hbA hS (lw_ix 3 (by decide) hn hL) dL_law_418 ?_
  obtain ⟨R5, R6, h5, h6, hret, hR⟩ := hs n z (xs (nI (4 * n) + (1 : Int32)).toNatClampNeg) (xs (nI (4 * n) + (2 : Int32)).toNatClampNeg) (xs (nI (4 * n) + (3 : Int32)).toNatClampNeg) hn2 hR
  refine cl_vi (x := z) (x' := (zu (zu z 5 R5.2.1) 8 R5.2.2)) (oc := lo cy q0 q1 u am) (N := 12) ⟨hx, hb, hml, hown, hts⟩ hK hA hG hP hS [0, 5, 7, 8, 6] (by decide) (by decide) (fun i hi => by simp only [zu]; rw [if_neg (fun e => hi (by rw [e]; decide))]; rw [if_neg (fun e => hi (by rw [e]; decide))]) (fun sz => kcX5_gone l dC dI cy fu q0 (u 0) (z 0) (u 5) (z 5) (u 7) (z 7) (u 8) (z 8) (u 6) (z 6) (xs (nI (4 * n) + (1 : Int32)).toNatClampNeg) (xs (nI (4 * n) + (2 : Int32)).toNatClampNeg) (xs (nI (4 * n) + (3 : Int32)).toNatClampNeg) sz R5 h5) rfl rfl (cwV 3 hts gT_X5_gone rfl rfl rfl ⟨rfl, ydX5_gone⟩ ⟨Nat.le_of_ble_eq_true rfl, Nat.le_of_ble_eq_true rfl⟩) 5 0 rfl rfl rfl rfl hl.1 rfl (Nat.le_of_ble_eq_true rfl) dL_law_419 ⟨Nat.le_of_ble_eq_true rfl, Nat.le_of_ble_eq_true rfl⟩ (fun H locs hP hS => ?_)
  refine lv_aload_n hx hb dL_law_422 rfl (lv_at hl 2 rfl) ?_
  refine lv_aload_n hx hb dL_law_423 rfl (lv_at hl 0 rfl) ?_
  refine lv_iload_n hx hb dL_law_424 rfl (lv_at hl 3 rfl) ?_
  refine lv_iconst (v := (1 : Int32)) hx hb dL_law_425 (by decide) ?_
  refine lv_iadd hx hb dL_law_426 ?_
  refine va_sld hx hb hX hbl hbA hS (lw_ix 1 (by decide) hn hL) dL_law_427 ?_
  refine lv_aload_n hx hb dL_law_428 rfl (lv_at hl 0 rfl) ?_
  refine lv_iload_n hx hb dL_law_429 rfl (lv_at hl 3 rfl) ?_
  refine lv_iconst (v := (2 : Int32)) hx hb dL_law_430 (by decide) ?_
  refine lv_iadd hx hb dL_law_431 ?_
  refine va_sld hx hb hX hbl hbA hS (lw_ix 2 (by decide) hn hL) dL_law_432 ?_
  refine lv_aload_n hx hb dL_law_433 rfl (lv_at hl 0 rfl) ?_
  refine lv_iload_n hx hb dL_law_434 rfl (lv_at hl 3 rfl) ?_
  refine lv_iconst (v := (3 : Int32)) hx hb dL_law_435 (by decide) ?_
  refine lv_iadd hx hb dL_law_436 ?_
  refine va_sld hx hb hX hbl hbA hS (lw_ix 3 (by decide) hn hL) dL_law_437 ?_
  refine cl_vi (x := (zu (zu z 5 R5.2.1) 8 R5.2.2)) (x' := (zu (zu (zu z 5 R5.2.1) 8 R5.2.2) 11 R6.2)) (oc := lo cy q0 q1 u am) (N := 12) ⟨hx, hb, hml, hown, hts⟩ hK hA hG hP hS [11] (by decide) (by decide) (fun i hi => by simp only [zu]; rw [if_neg (fun e => hi (by rw [e]; decide))]) (fun sz => kcX6_gone l dC dI cy fu q1 am ((zu (zu z 5 R5.2.1) 8 R5.2.2) 11) (xs (nI (4 * n) + (1 : Int32)).toNatClampNeg) (xs (nI (4 * n) + (2 : Int32)).toNatClampNeg) (xs (nI (4 * n) + (3 : Int32)).toNatClampNeg) sz R6 h6) rfl rfl (cwV 3 hts gT_X6_gone rfl rfl rfl ⟨rfl, ydX6_gone⟩ ⟨Nat.le_of_ble_eq_true rfl, Nat.le_of_ble_eq_true rfl⟩) 6 0 rfl rfl rfl rfl hl.1 rfl (Nat.le_of_ble_eq_true rfl) dL_law_438 ⟨Nat.le_of_ble_eq_true rfl, Nat.le_of_ble_eq_true rfl⟩ (fun H locs hP hS => ?_)
  refine lv_icmp_eq (tgt := 785) hx hb dL_law_441 (by decide) (fun hc => ?_) (fun hc => absurd hret hc)
  exact next (zu (zu (zu z 5 R5.2.1) 8 R5.2.2) 11 R6.2) H locs hR hP hS ls hl
set_option maxHeartbeats 4000000 in
set_option maxRecDepth 100000 in
theorem lc_stopped {p : Program} {l : Launch} {e : Env} {s : State} {m : MethodId} {below : List Frame} {meth : Method} {c : Code} {dC : Nat → ClassId} {dI : Nat → Nat → Nat} {cy : Nat → ClassId} {b L q0 q1 fu : Nat} {u : Nat → Nat → Nat} {am : Nat → Nat} {xs : Nat → Int32} {Rl : Nat → (Nat → ob_T) → Prop} (hs : sx_stopped fu Rl) (hL : L ≤ 2048) (C0 : lw_At p s m meth c b L xs) (hK : va_K (dC, dI) vwCl (tyL cy) s) (hG : oc_G (fun q : Nat => s.heap.size ≤ q) (lo cy q0 q1 u am) 12) (n : Nat) (z : Nat → ob_T) (H : Heap) (locs : List Loc) (ls : Array Slot) (hn : 4 * n + 4 ≤ L) (hR : Rl n z) (hP : ∀ i, i < 12 → va_P (dC, dI) vwCl (lo cy q0 q1 u am i (z i)) H) (hS : va_S (fun q : Nat => s.heap.size ≤ q) s.heap H locs) (hl : lv_has ls 4 [(0, .ref b), (1, .ref q0), (2, .ref q1), (3, .int (nI (4 * n)))]) (next : ∀ (z : Nat → ob_T) (H : Heap) (locs : List Loc), Rl (n + 1) z → (∀ i, i < 12 → va_P (dC, dI) vwCl (lo cy q0 q1 u am i (z i)) H) → va_S (fun q : Nat => s.heap.size ≤ q) s.heap H locs → ∀ (ls : Array Slot), lv_has ls 4 [(0, .ref b), (1, .ref q0), (2, .ref q1), (3, .int (nI (4 * n)))] → W p l e room_1 s m #[Value.ref b] below meth c H locs 76 2657 (lw_Z below #[Value.ref b] s) (F0 m 785 ls [])) : W p l e room_1 s m #[Value.ref b] below meth c H locs 76 2657 (lw_Z below #[Value.ref b] s) (F0 m 446 ls []) := by
  obtain ⟨hx, hb, hr, hml, hown, hts, hX, hbl, hlocks, hgv⟩ := C0
  have hA : ∀ q : Nat, s.heap.size ≤ q → (fun q : Nat => s.heap.size ≤ q) q := fun _ h => h
  have hbA : ¬ (fun q : Nat => s.heap.size ≤ q) b := Nat.not_le.mpr hbl
  have hn2 : n < 512 := by omega
  refine lv_aload_n hx hb dL_law_446 rfl (lv_at hl 1 rfl) ?_
  refine lv_aload_n hx hb dL_law_447 rfl (lv_at hl 0 rfl) ?_
  refine lv_iload_n hx hb dL_law_448 rfl (lv_at hl 3 rfl) ?_
  refine lv_iconst (v := (1 : Int32)) hx hb dL_law_449 (by decide) ?_
  refine lv_iadd hx hb dL_law_450 ?_
  refine va_sld hx hb hX hbl hbA hS (lw_ix 1 (by decide) hn hL) dL_law_451 ?_
  refine lv_aload_n hx hb dL_law_452 rfl (lv_at hl 0 rfl) ?_
  refine lv_iload_n hx hb dL_law_453 rfl (lv_at hl 3 rfl) ?_
  refine lv_iconst (v := (2 : Int32)) hx hb dL_law_454 (by decide) ?_
  refine lv_iadd hx hb dL_law_455 ?_
  refine va_sld hx hb hX hbl hbA hS (lw_ix 2 (by decide) hn hL) dL_law_456 ?_
  obtain ⟨R5, R6, h5, h6, hret, hR⟩ := hs n z (xs (nI (4 * n) + (1 : Int32)).toNatClampNeg) (xs (nI (4 * n) + (2 : Int32)).toNatClampNeg) hn2 hR
  refine cl_vi (x := z) (x' := (zu (zu z 5 R5.2.1) 8 R5.2.2)) (oc := lo cy q0 q1 u am) (N := 12) ⟨hx, hb, hml, hown, hts⟩ hK hA hG hP hS [0, 5, 7, 8, 6] (by decide) (by decide) (fun i hi => by simp only [zu]; rw [if_neg (fun e => hi (by rw [e]; decide))]; rw [if_neg (fun e => hi (by rw [e]; decide))]) (fun sz => kcX5_stopped l dC dI cy fu q0 (u 0) (z 0) (u 5) (z 5) (u 7) (z 7) (u 8) (z 8) (u 6) (z 6) (xs (nI (4 * n) + (1 : Int32)).toNatClampNeg) (xs (nI (4 * n) + (2 : Int32)).toNatClampNeg) sz R5 h5) rfl rfl (cwV 2 hts gT_X5_stopped rfl rfl rfl ⟨rfl, ydX5_stopped⟩ ⟨Nat.le_of_ble_eq_true rfl, Nat.le_of_ble_eq_true rfl⟩) 5 0 rfl rfl rfl rfl hl.1 rfl (Nat.le_of_ble_eq_true rfl) dL_law_457 ⟨Nat.le_of_ble_eq_true rfl, Nat.le_of_ble_eq_true rfl⟩ (fun H locs hP hS => ?_)
  refine lv_aload_n hx hb dL_law_460 rfl (lv_at hl 2 rfl) ?_
  refine lv_aload_n hx hb dL_law_461 rfl (lv_at hl 0 rfl) ?_
  refine lv_iload_n hx hb dL_law_462 rfl (lv_at hl 3 rfl) ?_
  refine lv_iconst (v := (1 : Int32)) hx hb dL_law_463 (by decide) ?_
  refine lv_iadd hx hb dL_law_464 ?_
  refine va_sld hx hb hX hbl hbA hS (lw_ix 1 (by decide) hn hL) dL_law_465 ?_
  refine lv_aload_n hx hb dL_law_466 rfl (lv_at hl 0 rfl) ?_
  refine lv_iload_n hx hb dL_law_467 rfl (lv_at hl 3 rfl) ?_
  refine lv_iconst (v := (2 : Int32)) hx hb dL_law_468 (by decide) ?_
  refine lv_iadd hx hb dL_law_469 ?_
  refine va_sld hx hb hX hbl hbA hS (lw_ix 2 (by decide) hn hL) dL_law_470 ?_
  refine cl_vi (x := (zu (zu z 5 R5.2.1) 8 R5.2.2)) (x' := (zu (zu (zu z 5 R5.2.1) 8 R5.2.2) 11 R6.2)) (oc := lo cy q0 q1 u am) (N := 12) ⟨hx, hb, hml, hown, hts⟩ hK hA hG hP hS [11] (by decide) (by decide) (fun i hi => by simp only [zu]; rw [if_neg (fun e => hi (by rw [e]; decide))]) (fun sz => kcX6_stopped l dC dI cy fu q1 am ((zu (zu z 5 R5.2.1) 8 R5.2.2) 11) (xs (nI (4 * n) + (1 : Int32)).toNatClampNeg) (xs (nI (4 * n) + (2 : Int32)).toNatClampNeg) sz R6 h6) rfl rfl (cwV 2 hts gT_X6_stopped rfl rfl rfl ⟨rfl, ydX6_stopped⟩ ⟨Nat.le_of_ble_eq_true rfl, Nat.le_of_ble_eq_true rfl⟩) 6 0 rfl rfl rfl rfl hl.1 rfl (Nat.le_of_ble_eq_true rfl) dL_law_471 ⟨Nat.le_of_ble_eq_true rfl, Nat.le_of_ble_eq_true rfl⟩ (fun H locs hP hS => ?_)
  refine lv_icmp_eq (tgt := 785) hx hb dL_law_474 (by decide) (fun hc => ?_) (fun hc => absurd hret hc)
  exact next (zu (zu (zu z 5 R5.2.1) 8 R5.2.2) 11 R6.2) H locs hR hP hS ls hl
set_option maxHeartbeats 4000000 in
set_option maxRecDepth 100000 in
theorem lc_free {p : Program} {l : Launch} {e : Env} {s : State} {m : MethodId} {below : List Frame} {meth : Method} {c : Code} {dC : Nat → ClassId} {dI : Nat → Nat → Nat} {cy : Nat → ClassId} {b L q0 q1 fu : Nat} {u : Nat → Nat → Nat} {am : Nat → Nat} {xs : Nat → Int32} {Rl : Nat → (Nat → ob_T) → Prop} (hs : sx_free fu Rl) (hL : L ≤ 2048) (C0 : lw_At p s m meth c b L xs) (hK : va_K (dC, dI) vwCl (tyL cy) s) (hG : oc_G (fun q : Nat => s.heap.size ≤ q) (lo cy q0 q1 u am) 12) (n : Nat) (z : Nat → ob_T) (H : Heap) (locs : List Loc) (ls : Array Slot) (hn : 4 * n + 4 ≤ L) (hR : Rl n z) (hP : ∀ i, i < 12 → va_P (dC, dI) vwCl (lo cy q0 q1 u am i (z i)) H) (hS : va_S (fun q : Nat => s.heap.size ≤ q) s.heap H locs) (hl : lv_has ls 4 [(0, .ref b), (1, .ref q0), (2, .ref q1), (3, .int (nI (4 * n)))]) (next : ∀ (z : Nat → ob_T) (H : Heap) (locs : List Loc), Rl (n + 1) z → (∀ i, i < 12 → va_P (dC, dI) vwCl (lo cy q0 q1 u am i (z i)) H) → va_S (fun q : Nat => s.heap.size ≤ q) s.heap H locs → ∀ (ls : Array Slot), lv_has ls 4 [(0, .ref b), (1, .ref q0), (2, .ref q1), (3, .int (nI (4 * n)))] → W p l e room_1 s m #[Value.ref b] below meth c H locs 76 2657 (lw_Z below #[Value.ref b] s) (F0 m 785 ls [])) : W p l e room_1 s m #[Value.ref b] below meth c H locs 76 2657 (lw_Z below #[Value.ref b] s) (F0 m 479 ls []) := by
  obtain ⟨hx, hb, hr, hml, hown, hts, hX, hbl, hlocks, hgv⟩ := C0
  have hA : ∀ q : Nat, s.heap.size ≤ q → (fun q : Nat => s.heap.size ≤ q) q := fun _ h => h
  have hbA : ¬ (fun q : Nat => s.heap.size ≤ q) b := Nat.not_le.mpr hbl
  have hn2 : n < 512 := by omega
  refine lv_aload_n hx hb dL_law_479 rfl (lv_at hl 1 rfl) ?_
  refine lv_aload_n hx hb dL_law_480 rfl (lv_at hl 0 rfl) ?_
  refine lv_iload_n hx hb dL_law_481 rfl (lv_at hl 3 rfl) ?_
  refine lv_iconst (v := (1 : Int32)) hx hb dL_law_482 (by decide) ?_
  refine lv_iadd hx hb dL_law_483 ?_
  refine va_sld hx hb hX hbl hbA hS (lw_ix 1 (by decide) hn hL) dL_law_484 ?_
  obtain ⟨R5, R6, h5, h6, hret, hR⟩ := hs n z (xs (nI (4 * n) + (1 : Int32)).toNatClampNeg) hn2 hR
  refine cl_vi (x := z) (x' := (zu (zu z 5 R5.2.1) 8 R5.2.2)) (oc := lo cy q0 q1 u am) (N := 12) ⟨hx, hb, hml, hown, hts⟩ hK hA hG hP hS [0, 5, 7, 8, 6] (by decide) (by decide) (fun i hi => by simp only [zu]; rw [if_neg (fun e => hi (by rw [e]; decide))]; rw [if_neg (fun e => hi (by rw [e]; decide))]) (fun sz => kcX5_free l dC dI cy fu q0 (u 0) (z 0) (u 5) (z 5) (u 7) (z 7) (u 8) (z 8) (u 6) (z 6) (xs (nI (4 * n) + (1 : Int32)).toNatClampNeg) sz R5 h5) rfl rfl (cwV 1 hts gT_X5_free rfl rfl rfl ⟨rfl, ydX5_free⟩ ⟨Nat.le_of_ble_eq_true rfl, Nat.le_of_ble_eq_true rfl⟩) 5 0 rfl rfl rfl rfl hl.1 rfl (Nat.le_of_ble_eq_true rfl) dL_law_485 ⟨Nat.le_of_ble_eq_true rfl, Nat.le_of_ble_eq_true rfl⟩ (fun H locs hP hS => ?_)
  refine lv_aload_n hx hb dL_law_488 rfl (lv_at hl 2 rfl) ?_
  refine lv_aload_n hx hb dL_law_489 rfl (lv_at hl 0 rfl) ?_
  refine lv_iload_n hx hb dL_law_490 rfl (lv_at hl 3 rfl) ?_
  refine lv_iconst (v := (1 : Int32)) hx hb dL_law_491 (by decide) ?_
  refine lv_iadd hx hb dL_law_492 ?_
  refine va_sld hx hb hX hbl hbA hS (lw_ix 1 (by decide) hn hL) dL_law_493 ?_
  refine cl_vi (x := (zu (zu z 5 R5.2.1) 8 R5.2.2)) (x' := (zu (zu (zu z 5 R5.2.1) 8 R5.2.2) 11 R6.2)) (oc := lo cy q0 q1 u am) (N := 12) ⟨hx, hb, hml, hown, hts⟩ hK hA hG hP hS [11] (by decide) (by decide) (fun i hi => by simp only [zu]; rw [if_neg (fun e => hi (by rw [e]; decide))]) (fun sz => kcX6_free l dC dI cy fu q1 am ((zu (zu z 5 R5.2.1) 8 R5.2.2) 11) (xs (nI (4 * n) + (1 : Int32)).toNatClampNeg) sz R6 h6) rfl rfl (cwV 1 hts gT_X6_free rfl rfl rfl ⟨rfl, ydX6_free⟩ ⟨Nat.le_of_ble_eq_true rfl, Nat.le_of_ble_eq_true rfl⟩) 6 0 rfl rfl rfl rfl hl.1 rfl (Nat.le_of_ble_eq_true rfl) dL_law_494 ⟨Nat.le_of_ble_eq_true rfl, Nat.le_of_ble_eq_true rfl⟩ (fun H locs hP hS => ?_)
  refine lv_icmp_eq (tgt := 785) hx hb dL_law_497 (by decide) (fun hc => ?_) (fun hc => absurd hret hc)
  exact next (zu (zu (zu z 5 R5.2.1) 8 R5.2.2) 11 R6.2) H locs hR hP hS ls hl
set_option maxHeartbeats 4000000 in
set_option maxRecDepth 100000 in
theorem lc_ahead {p : Program} {l : Launch} {e : Env} {s : State} {m : MethodId} {below : List Frame} {meth : Method} {c : Code} {dC : Nat → ClassId} {dI : Nat → Nat → Nat} {cy : Nat → ClassId} {b L q0 q1 fu : Nat} {u : Nat → Nat → Nat} {am : Nat → Nat} {xs : Nat → Int32} {Rl : Nat → (Nat → ob_T) → Prop} (hs : sx_ahead fu Rl) (hL : L ≤ 2048) (C0 : lw_At p s m meth c b L xs) (hK : va_K (dC, dI) vwCl (tyL cy) s) (hG : oc_G (fun q : Nat => s.heap.size ≤ q) (lo cy q0 q1 u am) 12) (n : Nat) (z : Nat → ob_T) (H : Heap) (locs : List Loc) (ls : Array Slot) (hn : 4 * n + 4 ≤ L) (hR : Rl n z) (hP : ∀ i, i < 12 → va_P (dC, dI) vwCl (lo cy q0 q1 u am i (z i)) H) (hS : va_S (fun q : Nat => s.heap.size ≤ q) s.heap H locs) (hl : lv_has ls 4 [(0, .ref b), (1, .ref q0), (2, .ref q1), (3, .int (nI (4 * n)))]) (next : ∀ (z : Nat → ob_T) (H : Heap) (locs : List Loc), Rl (n + 1) z → (∀ i, i < 12 → va_P (dC, dI) vwCl (lo cy q0 q1 u am i (z i)) H) → va_S (fun q : Nat => s.heap.size ≤ q) s.heap H locs → ∀ (ls : Array Slot), lv_has ls 4 [(0, .ref b), (1, .ref q0), (2, .ref q1), (3, .int (nI (4 * n)))] → W p l e room_1 s m #[Value.ref b] below meth c H locs 76 2657 (lw_Z below #[Value.ref b] s) (F0 m 785 ls [])) : W p l e room_1 s m #[Value.ref b] below meth c H locs 76 2657 (lw_Z below #[Value.ref b] s) (F0 m 502 ls []) := by
  obtain ⟨hx, hb, hr, hml, hown, hts, hX, hbl, hlocks, hgv⟩ := C0
  have hA : ∀ q : Nat, s.heap.size ≤ q → (fun q : Nat => s.heap.size ≤ q) q := fun _ h => h
  have hbA : ¬ (fun q : Nat => s.heap.size ≤ q) b := Nat.not_le.mpr hbl
  have hn2 : n < 512 := by omega
  refine lv_aload_n hx hb dL_law_502 rfl (lv_at hl 1 rfl) ?_
  refine lv_aload_n hx hb dL_law_503 rfl (lv_at hl 0 rfl) ?_
  refine lv_iload_n hx hb dL_law_504 rfl (lv_at hl 3 rfl) ?_
  refine lv_iconst (v := (1 : Int32)) hx hb dL_law_505 (by decide) ?_
  refine lv_iadd hx hb dL_law_506 ?_
  refine va_sld hx hb hX hbl hbA hS (lw_ix 1 (by decide) hn hL) dL_law_507 ?_
  obtain ⟨R5, R6, h5, h6, hret, hR⟩ := hs n z (xs (nI (4 * n) + (1 : Int32)).toNatClampNeg) hn2 hR
  refine cl_vi (x := z) (x' := (zu (zu z 5 R5.2.1) 8 R5.2.2)) (oc := lo cy q0 q1 u am) (N := 12) ⟨hx, hb, hml, hown, hts⟩ hK hA hG hP hS [0, 5, 7, 8, 6] (by decide) (by decide) (fun i hi => by simp only [zu]; rw [if_neg (fun e => hi (by rw [e]; decide))]; rw [if_neg (fun e => hi (by rw [e]; decide))]) (fun sz => kcX5_ahead l dC dI cy fu q0 (u 0) (z 0) (u 5) (z 5) (u 7) (z 7) (u 8) (z 8) (u 6) (z 6) (xs (nI (4 * n) + (1 : Int32)).toNatClampNeg) sz R5 h5) rfl rfl (cwV 1 hts gT_X5_ahead rfl rfl rfl ⟨rfl, ydX5_ahead⟩ ⟨Nat.le_of_ble_eq_true rfl, Nat.le_of_ble_eq_true rfl⟩) 5 0 rfl rfl rfl rfl hl.1 rfl (Nat.le_of_ble_eq_true rfl) dL_law_508 ⟨Nat.le_of_ble_eq_true rfl, Nat.le_of_ble_eq_true rfl⟩ (fun H locs hP hS => ?_)
  refine lv_aload_n hx hb dL_law_511 rfl (lv_at hl 2 rfl) ?_
  refine lv_aload_n hx hb dL_law_512 rfl (lv_at hl 0 rfl) ?_
  refine lv_iload_n hx hb dL_law_513 rfl (lv_at hl 3 rfl) ?_
  refine lv_iconst (v := (1 : Int32)) hx hb dL_law_514 (by decide) ?_
  refine lv_iadd hx hb dL_law_515 ?_
  refine va_sld hx hb hX hbl hbA hS (lw_ix 1 (by decide) hn hL) dL_law_516 ?_
  refine cl_vi (x := (zu (zu z 5 R5.2.1) 8 R5.2.2)) (x' := (zu (zu (zu z 5 R5.2.1) 8 R5.2.2) 11 R6.2)) (oc := lo cy q0 q1 u am) (N := 12) ⟨hx, hb, hml, hown, hts⟩ hK hA hG hP hS [11] (by decide) (by decide) (fun i hi => by simp only [zu]; rw [if_neg (fun e => hi (by rw [e]; decide))]) (fun sz => kcX6_ahead l dC dI cy fu q1 am ((zu (zu z 5 R5.2.1) 8 R5.2.2) 11) (xs (nI (4 * n) + (1 : Int32)).toNatClampNeg) sz R6 h6) rfl rfl (cwV 1 hts gT_X6_ahead rfl rfl rfl ⟨rfl, ydX6_ahead⟩ ⟨Nat.le_of_ble_eq_true rfl, Nat.le_of_ble_eq_true rfl⟩) 6 0 rfl rfl rfl rfl hl.1 rfl (Nat.le_of_ble_eq_true rfl) dL_law_517 ⟨Nat.le_of_ble_eq_true rfl, Nat.le_of_ble_eq_true rfl⟩ (fun H locs hP hS => ?_)
  refine lv_icmp_eq (tgt := 785) hx hb dL_law_520 (by decide) (fun hc => ?_) (fun hc => absurd hret hc)
  exact next (zu (zu (zu z 5 R5.2.1) 8 R5.2.2) 11 R6.2) H locs hR hP hS ls hl
set_option maxHeartbeats 4000000 in
set_option maxRecDepth 100000 in
theorem lc_debt {p : Program} {l : Launch} {e : Env} {s : State} {m : MethodId} {below : List Frame} {meth : Method} {c : Code} {dC : Nat → ClassId} {dI : Nat → Nat → Nat} {cy : Nat → ClassId} {b L q0 q1 fu : Nat} {u : Nat → Nat → Nat} {am : Nat → Nat} {xs : Nat → Int32} {Rl : Nat → (Nat → ob_T) → Prop} (hs : sx_debt fu Rl) (hL : L ≤ 2048) (C0 : lw_At p s m meth c b L xs) (hK : va_K (dC, dI) vwCl (tyL cy) s) (hG : oc_G (fun q : Nat => s.heap.size ≤ q) (lo cy q0 q1 u am) 12) (n : Nat) (z : Nat → ob_T) (H : Heap) (locs : List Loc) (ls : Array Slot) (hn : 4 * n + 4 ≤ L) (hR : Rl n z) (hP : ∀ i, i < 12 → va_P (dC, dI) vwCl (lo cy q0 q1 u am i (z i)) H) (hS : va_S (fun q : Nat => s.heap.size ≤ q) s.heap H locs) (hl : lv_has ls 4 [(0, .ref b), (1, .ref q0), (2, .ref q1), (3, .int (nI (4 * n)))]) (next : ∀ (z : Nat → ob_T) (H : Heap) (locs : List Loc), Rl (n + 1) z → (∀ i, i < 12 → va_P (dC, dI) vwCl (lo cy q0 q1 u am i (z i)) H) → va_S (fun q : Nat => s.heap.size ≤ q) s.heap H locs → ∀ (ls : Array Slot), lv_has ls 4 [(0, .ref b), (1, .ref q0), (2, .ref q1), (3, .int (nI (4 * n)))] → W p l e room_1 s m #[Value.ref b] below meth c H locs 76 2657 (lw_Z below #[Value.ref b] s) (F0 m 785 ls [])) : W p l e room_1 s m #[Value.ref b] below meth c H locs 76 2657 (lw_Z below #[Value.ref b] s) (F0 m 525 ls []) := by
  obtain ⟨hx, hb, hr, hml, hown, hts, hX, hbl, hlocks, hgv⟩ := C0
  have hA : ∀ q : Nat, s.heap.size ≤ q → (fun q : Nat => s.heap.size ≤ q) q := fun _ h => h
  have hbA : ¬ (fun q : Nat => s.heap.size ≤ q) b := Nat.not_le.mpr hbl
  have hn2 : n < 512 := by omega
  refine lv_aload_n hx hb dL_law_525 rfl (lv_at hl 1 rfl) ?_
  refine lv_aload_n hx hb dL_law_526 rfl (lv_at hl 0 rfl) ?_
  refine lv_iload_n hx hb dL_law_527 rfl (lv_at hl 3 rfl) ?_
  refine lv_iconst (v := (1 : Int32)) hx hb dL_law_528 (by decide) ?_
  refine lv_iadd hx hb dL_law_529 ?_
  refine va_sld hx hb hX hbl hbA hS (lw_ix 1 (by decide) hn hL) dL_law_530 ?_
  refine lv_aload_n hx hb dL_law_531 rfl (lv_at hl 0 rfl) ?_
  refine lv_iload_n hx hb dL_law_532 rfl (lv_at hl 3 rfl) ?_
  refine lv_iconst (v := (2 : Int32)) hx hb dL_law_533 (by decide) ?_
  refine lv_iadd hx hb dL_law_534 ?_
  refine va_sld hx hb hX hbl hbA hS (lw_ix 2 (by decide) hn hL) dL_law_535 ?_
  refine lv_aload_n hx hb dL_law_536 rfl (lv_at hl 0 rfl) ?_
  refine lv_iload_n hx hb dL_law_537 rfl (lv_at hl 3 rfl) ?_
  refine lv_iconst (v := (3 : Int32)) hx hb dL_law_538 (by decide) ?_
  refine lv_iadd hx hb dL_law_539 ?_
  refine va_sld hx hb hX hbl hbA hS (lw_ix 3 (by decide) hn hL) dL_law_540 ?_
  obtain ⟨R5, R6, h5, h6, hret, hR⟩ := hs n z (xs (nI (4 * n) + (1 : Int32)).toNatClampNeg) (xs (nI (4 * n) + (2 : Int32)).toNatClampNeg) (xs (nI (4 * n) + (3 : Int32)).toNatClampNeg) hn2 hR
  refine cl_vi (x := z) (x' := z) (oc := lo cy q0 q1 u am) (N := 12) ⟨hx, hb, hml, hown, hts⟩ hK hA hG hP hS [0, 7] (by decide) (by decide) (fun i hi => by rfl) (fun sz => kcX5_debt l dC dI cy fu q0 (u 0) (z 0) (u 7) (z 7) (xs (nI (4 * n) + (1 : Int32)).toNatClampNeg) (xs (nI (4 * n) + (2 : Int32)).toNatClampNeg) (xs (nI (4 * n) + (3 : Int32)).toNatClampNeg) sz R5 h5) rfl rfl (cwV 3 hts gT_X5_debt rfl rfl rfl ⟨rfl, ydX5_debt⟩ ⟨Nat.le_of_ble_eq_true rfl, Nat.le_of_ble_eq_true rfl⟩) 5 0 rfl rfl rfl rfl hl.1 rfl (Nat.le_of_ble_eq_true rfl) dL_law_541 ⟨Nat.le_of_ble_eq_true rfl, Nat.le_of_ble_eq_true rfl⟩ (fun H locs hP hS => ?_)
  refine lv_aload_n hx hb dL_law_544 rfl (lv_at hl 2 rfl) ?_
  refine lv_aload_n hx hb dL_law_545 rfl (lv_at hl 0 rfl) ?_
  refine lv_iload_n hx hb dL_law_546 rfl (lv_at hl 3 rfl) ?_
  refine lv_iconst (v := (1 : Int32)) hx hb dL_law_547 (by decide) ?_
  refine lv_iadd hx hb dL_law_548 ?_
  refine va_sld hx hb hX hbl hbA hS (lw_ix 1 (by decide) hn hL) dL_law_549 ?_
  refine lv_aload_n hx hb dL_law_550 rfl (lv_at hl 0 rfl) ?_
  refine lv_iload_n hx hb dL_law_551 rfl (lv_at hl 3 rfl) ?_
  refine lv_iconst (v := (2 : Int32)) hx hb dL_law_552 (by decide) ?_
  refine lv_iadd hx hb dL_law_553 ?_
  refine va_sld hx hb hX hbl hbA hS (lw_ix 2 (by decide) hn hL) dL_law_554 ?_
  refine lv_aload_n hx hb dL_law_555 rfl (lv_at hl 0 rfl) ?_
  refine lv_iload_n hx hb dL_law_556 rfl (lv_at hl 3 rfl) ?_
  refine lv_iconst (v := (3 : Int32)) hx hb dL_law_557 (by decide) ?_
  refine lv_iadd hx hb dL_law_558 ?_
  refine va_sld hx hb hX hbl hbA hS (lw_ix 3 (by decide) hn hL) dL_law_559 ?_
  refine cl_vi (x := z) (x' := z) (oc := lo cy q0 q1 u am) (N := 12) ⟨hx, hb, hml, hown, hts⟩ hK hA hG hP hS [11] (by decide) (by decide) (fun i hi => by rfl) (fun sz => kcX6_debt l dC dI cy fu q1 am (z 11) (xs (nI (4 * n) + (1 : Int32)).toNatClampNeg) (xs (nI (4 * n) + (2 : Int32)).toNatClampNeg) (xs (nI (4 * n) + (3 : Int32)).toNatClampNeg) sz R6 h6) rfl rfl (cwV 3 hts gT_X6_debt rfl rfl rfl ⟨rfl, ydX6_debt⟩ ⟨Nat.le_of_ble_eq_true rfl, Nat.le_of_ble_eq_true rfl⟩) 6 0 rfl rfl rfl rfl hl.1 rfl (Nat.le_of_ble_eq_true rfl) dL_law_560 ⟨Nat.le_of_ble_eq_true rfl, Nat.le_of_ble_eq_true rfl⟩ (fun H locs hP hS => ?_)
  refine lv_icmp_eq (tgt := 785) hx hb dL_law_563 (by decide) (fun hc => ?_) (fun hc => absurd hret hc)
  exact next z H locs hR hP hS ls hl
set_option maxHeartbeats 4000000 in
set_option maxRecDepth 100000 in
theorem lc_pact {p : Program} {l : Launch} {e : Env} {s : State} {m : MethodId} {below : List Frame} {meth : Method} {c : Code} {dC : Nat → ClassId} {dI : Nat → Nat → Nat} {cy : Nat → ClassId} {b L q0 q1 fu : Nat} {u : Nat → Nat → Nat} {am : Nat → Nat} {xs : Nat → Int32} {Rl : Nat → (Nat → ob_T) → Prop} (hs : sx_pact fu Rl) (hL : L ≤ 2048) (C0 : lw_At p s m meth c b L xs) (hK : va_K (dC, dI) vwCl (tyL cy) s) (hG : oc_G (fun q : Nat => s.heap.size ≤ q) (lo cy q0 q1 u am) 12) (n : Nat) (z : Nat → ob_T) (H : Heap) (locs : List Loc) (ls : Array Slot) (hn : 4 * n + 4 ≤ L) (hR : Rl n z) (hP : ∀ i, i < 12 → va_P (dC, dI) vwCl (lo cy q0 q1 u am i (z i)) H) (hS : va_S (fun q : Nat => s.heap.size ≤ q) s.heap H locs) (hl : lv_has ls 4 [(0, .ref b), (1, .ref q0), (2, .ref q1), (3, .int (nI (4 * n)))]) (next : ∀ (z : Nat → ob_T) (H : Heap) (locs : List Loc), Rl (n + 1) z → (∀ i, i < 12 → va_P (dC, dI) vwCl (lo cy q0 q1 u am i (z i)) H) → va_S (fun q : Nat => s.heap.size ≤ q) s.heap H locs → ∀ (ls : Array Slot), lv_has ls 4 [(0, .ref b), (1, .ref q0), (2, .ref q1), (3, .int (nI (4 * n)))] → W p l e room_1 s m #[Value.ref b] below meth c H locs 76 2657 (lw_Z below #[Value.ref b] s) (F0 m 785 ls [])) : W p l e room_1 s m #[Value.ref b] below meth c H locs 76 2657 (lw_Z below #[Value.ref b] s) (F0 m 568 ls []) := by
  obtain ⟨hx, hb, hr, hml, hown, hts, hX, hbl, hlocks, hgv⟩ := C0
  have hA : ∀ q : Nat, s.heap.size ≤ q → (fun q : Nat => s.heap.size ≤ q) q := fun _ h => h
  have hbA : ¬ (fun q : Nat => s.heap.size ≤ q) b := Nat.not_le.mpr hbl
  have hn2 : n < 512 := by omega
  refine lv_aload_n hx hb dL_law_568 rfl (lv_at hl 1 rfl) ?_
  refine lv_aload_n hx hb dL_law_569 rfl (lv_at hl 0 rfl) ?_
  refine lv_iload_n hx hb dL_law_570 rfl (lv_at hl 3 rfl) ?_
  refine lv_iconst (v := (1 : Int32)) hx hb dL_law_571 (by decide) ?_
  refine lv_iadd hx hb dL_law_572 ?_
  refine va_sld hx hb hX hbl hbA hS (lw_ix 1 (by decide) hn hL) dL_law_573 ?_
  refine lv_aload_n hx hb dL_law_574 rfl (lv_at hl 0 rfl) ?_
  refine lv_iload_n hx hb dL_law_575 rfl (lv_at hl 3 rfl) ?_
  refine lv_iconst (v := (2 : Int32)) hx hb dL_law_576 (by decide) ?_
  refine lv_iadd hx hb dL_law_577 ?_
  refine va_sld hx hb hX hbl hbA hS (lw_ix 2 (by decide) hn hL) dL_law_578 ?_
  refine lv_aload_n hx hb dL_law_579 rfl (lv_at hl 0 rfl) ?_
  refine lv_iload_n hx hb dL_law_580 rfl (lv_at hl 3 rfl) ?_
  refine lv_iconst (v := (3 : Int32)) hx hb dL_law_581 (by decide) ?_
  refine lv_iadd hx hb dL_law_582 ?_
  refine va_sld hx hb hX hbl hbA hS (lw_ix 3 (by decide) hn hL) dL_law_583 ?_
  obtain ⟨R5, R6, h5, h6, hret, hR⟩ := hs n z (xs (nI (4 * n) + (1 : Int32)).toNatClampNeg) (xs (nI (4 * n) + (2 : Int32)).toNatClampNeg) (xs (nI (4 * n) + (3 : Int32)).toNatClampNeg) hn2 hR
  refine cl_vi (x := z) (x' := (zu (zu z 5 R5.2.1) 8 R5.2.2)) (oc := lo cy q0 q1 u am) (N := 12) ⟨hx, hb, hml, hown, hts⟩ hK hA hG hP hS [0, 5, 7, 8] (by decide) (by decide) (fun i hi => by simp only [zu]; rw [if_neg (fun e => hi (by rw [e]; decide))]; rw [if_neg (fun e => hi (by rw [e]; decide))]) (fun sz => kcX5_pact l dC dI cy fu q0 (u 0) (z 0) (u 5) (z 5) (u 7) (z 7) (u 8) (z 8) (xs (nI (4 * n) + (1 : Int32)).toNatClampNeg) (xs (nI (4 * n) + (2 : Int32)).toNatClampNeg) (xs (nI (4 * n) + (3 : Int32)).toNatClampNeg) sz R5 h5) rfl rfl (cwV 3 hts gT_X5_pact rfl rfl rfl ⟨rfl, ydX5_pact⟩ ⟨Nat.le_of_ble_eq_true rfl, Nat.le_of_ble_eq_true rfl⟩) 5 0 rfl rfl rfl rfl hl.1 rfl (Nat.le_of_ble_eq_true rfl) dL_law_584 ⟨Nat.le_of_ble_eq_true rfl, Nat.le_of_ble_eq_true rfl⟩ (fun H locs hP hS => ?_)
  refine lv_aload_n hx hb dL_law_587 rfl (lv_at hl 2 rfl) ?_
  refine lv_aload_n hx hb dL_law_588 rfl (lv_at hl 0 rfl) ?_
  refine lv_iload_n hx hb dL_law_589 rfl (lv_at hl 3 rfl) ?_
  refine lv_iconst (v := (1 : Int32)) hx hb dL_law_590 (by decide) ?_
  refine lv_iadd hx hb dL_law_591 ?_
  refine va_sld hx hb hX hbl hbA hS (lw_ix 1 (by decide) hn hL) dL_law_592 ?_
  refine lv_aload_n hx hb dL_law_593 rfl (lv_at hl 0 rfl) ?_
  refine lv_iload_n hx hb dL_law_594 rfl (lv_at hl 3 rfl) ?_
  refine lv_iconst (v := (2 : Int32)) hx hb dL_law_595 (by decide) ?_
  refine lv_iadd hx hb dL_law_596 ?_
  refine va_sld hx hb hX hbl hbA hS (lw_ix 2 (by decide) hn hL) dL_law_597 ?_
  refine lv_aload_n hx hb dL_law_598 rfl (lv_at hl 0 rfl) ?_
  refine lv_iload_n hx hb dL_law_599 rfl (lv_at hl 3 rfl) ?_
  refine lv_iconst (v := (3 : Int32)) hx hb dL_law_600 (by decide) ?_
  refine lv_iadd hx hb dL_law_601 ?_
  refine va_sld hx hb hX hbl hbA hS (lw_ix 3 (by decide) hn hL) dL_law_602 ?_
  refine cl_vi (x := (zu (zu z 5 R5.2.1) 8 R5.2.2)) (x' := (zu (zu (zu z 5 R5.2.1) 8 R5.2.2) 11 R6.2)) (oc := lo cy q0 q1 u am) (N := 12) ⟨hx, hb, hml, hown, hts⟩ hK hA hG hP hS [11] (by decide) (by decide) (fun i hi => by simp only [zu]; rw [if_neg (fun e => hi (by rw [e]; decide))]) (fun sz => kcX6_pact l dC dI cy fu q1 am ((zu (zu z 5 R5.2.1) 8 R5.2.2) 11) (xs (nI (4 * n) + (1 : Int32)).toNatClampNeg) (xs (nI (4 * n) + (2 : Int32)).toNatClampNeg) (xs (nI (4 * n) + (3 : Int32)).toNatClampNeg) sz R6 h6) rfl rfl (cwV 3 hts gT_X6_pact rfl rfl rfl ⟨rfl, ydX6_pact⟩ ⟨Nat.le_of_ble_eq_true rfl, Nat.le_of_ble_eq_true rfl⟩) 6 0 rfl rfl rfl rfl hl.1 rfl (Nat.le_of_ble_eq_true rfl) dL_law_603 ⟨Nat.le_of_ble_eq_true rfl, Nat.le_of_ble_eq_true rfl⟩ (fun H locs hP hS => ?_)
  refine lv_icmp_eq (tgt := 785) hx hb dL_law_606 (by decide) (fun hc => ?_) (fun hc => absurd hret hc)
  exact next (zu (zu (zu z 5 R5.2.1) 8 R5.2.2) 11 R6.2) H locs hR hP hS ls hl
set_option maxHeartbeats 4000000 in
set_option maxRecDepth 100000 in
theorem lc_fewest {p : Program} {l : Launch} {e : Env} {s : State} {m : MethodId} {below : List Frame} {meth : Method} {c : Code} {dC : Nat → ClassId} {dI : Nat → Nat → Nat} {cy : Nat → ClassId} {b L q0 q1 fu : Nat} {u : Nat → Nat → Nat} {am : Nat → Nat} {xs : Nat → Int32} {Rl : Nat → (Nat → ob_T) → Prop} (hs : sx_fewest fu Rl) (hL : L ≤ 2048) (C0 : lw_At p s m meth c b L xs) (hK : va_K (dC, dI) vwCl (tyL cy) s) (hG : oc_G (fun q : Nat => s.heap.size ≤ q) (lo cy q0 q1 u am) 12) (n : Nat) (z : Nat → ob_T) (H : Heap) (locs : List Loc) (ls : Array Slot) (hn : 4 * n + 4 ≤ L) (hR : Rl n z) (hP : ∀ i, i < 12 → va_P (dC, dI) vwCl (lo cy q0 q1 u am i (z i)) H) (hS : va_S (fun q : Nat => s.heap.size ≤ q) s.heap H locs) (hl : lv_has ls 4 [(0, .ref b), (1, .ref q0), (2, .ref q1), (3, .int (nI (4 * n)))]) (next : ∀ (z : Nat → ob_T) (H : Heap) (locs : List Loc), Rl (n + 1) z → (∀ i, i < 12 → va_P (dC, dI) vwCl (lo cy q0 q1 u am i (z i)) H) → va_S (fun q : Nat => s.heap.size ≤ q) s.heap H locs → ∀ (ls : Array Slot), lv_has ls 4 [(0, .ref b), (1, .ref q0), (2, .ref q1), (3, .int (nI (4 * n)))] → W p l e room_1 s m #[Value.ref b] below meth c H locs 76 2657 (lw_Z below #[Value.ref b] s) (F0 m 785 ls [])) : W p l e room_1 s m #[Value.ref b] below meth c H locs 76 2657 (lw_Z below #[Value.ref b] s) (F0 m 611 ls []) := by
  obtain ⟨hx, hb, hr, hml, hown, hts, hX, hbl, hlocks, hgv⟩ := C0
  have hA : ∀ q : Nat, s.heap.size ≤ q → (fun q : Nat => s.heap.size ≤ q) q := fun _ h => h
  have hbA : ¬ (fun q : Nat => s.heap.size ≤ q) b := Nat.not_le.mpr hbl
  have hn2 : n < 512 := by omega
  refine lv_aload_n hx hb dL_law_611 rfl (lv_at hl 1 rfl) ?_
  refine lv_aload_n hx hb dL_law_612 rfl (lv_at hl 0 rfl) ?_
  refine lv_iload_n hx hb dL_law_613 rfl (lv_at hl 3 rfl) ?_
  refine lv_iconst (v := (1 : Int32)) hx hb dL_law_614 (by decide) ?_
  refine lv_iadd hx hb dL_law_615 ?_
  refine va_sld hx hb hX hbl hbA hS (lw_ix 1 (by decide) hn hL) dL_law_616 ?_
  obtain ⟨R5, R6, h5, h6, hret, hR⟩ := hs n z (xs (nI (4 * n) + (1 : Int32)).toNatClampNeg) hn2 hR
  refine cl_vi (x := z) (x' := (zu (zu z 5 R5.2.1) 8 R5.2.2)) (oc := lo cy q0 q1 u am) (N := 12) ⟨hx, hb, hml, hown, hts⟩ hK hA hG hP hS [0, 5, 7, 8] (by decide) (by decide) (fun i hi => by simp only [zu]; rw [if_neg (fun e => hi (by rw [e]; decide))]; rw [if_neg (fun e => hi (by rw [e]; decide))]) (fun sz => kcX5_fewest l dC dI cy fu q0 (u 0) (z 0) (u 5) (z 5) (u 7) (z 7) (u 8) (z 8) (xs (nI (4 * n) + (1 : Int32)).toNatClampNeg) sz R5 h5) rfl rfl (cwV 1 hts gT_X5_fewest rfl rfl rfl ⟨rfl, ydX5_fewest⟩ ⟨Nat.le_of_ble_eq_true rfl, Nat.le_of_ble_eq_true rfl⟩) 5 0 rfl rfl rfl rfl hl.1 rfl (Nat.le_of_ble_eq_true rfl) dL_law_617 ⟨Nat.le_of_ble_eq_true rfl, Nat.le_of_ble_eq_true rfl⟩ (fun H locs hP hS => ?_)
  refine lv_aload_n hx hb dL_law_620 rfl (lv_at hl 2 rfl) ?_
  refine lv_aload_n hx hb dL_law_621 rfl (lv_at hl 0 rfl) ?_
  refine lv_iload_n hx hb dL_law_622 rfl (lv_at hl 3 rfl) ?_
  refine lv_iconst (v := (1 : Int32)) hx hb dL_law_623 (by decide) ?_
  refine lv_iadd hx hb dL_law_624 ?_
  refine va_sld hx hb hX hbl hbA hS (lw_ix 1 (by decide) hn hL) dL_law_625 ?_
  refine cl_vi (x := (zu (zu z 5 R5.2.1) 8 R5.2.2)) (x' := (zu (zu (zu z 5 R5.2.1) 8 R5.2.2) 11 R6.2)) (oc := lo cy q0 q1 u am) (N := 12) ⟨hx, hb, hml, hown, hts⟩ hK hA hG hP hS [11] (by decide) (by decide) (fun i hi => by simp only [zu]; rw [if_neg (fun e => hi (by rw [e]; decide))]) (fun sz => kcX6_fewest l dC dI cy fu q1 am ((zu (zu z 5 R5.2.1) 8 R5.2.2) 11) (xs (nI (4 * n) + (1 : Int32)).toNatClampNeg) sz R6 h6) rfl rfl (cwV 1 hts gT_X6_fewest rfl rfl rfl ⟨rfl, ydX6_fewest⟩ ⟨Nat.le_of_ble_eq_true rfl, Nat.le_of_ble_eq_true rfl⟩) 6 0 rfl rfl rfl rfl hl.1 rfl (Nat.le_of_ble_eq_true rfl) dL_law_626 ⟨Nat.le_of_ble_eq_true rfl, Nat.le_of_ble_eq_true rfl⟩ (fun H locs hP hS => ?_)
  refine lv_icmp_eq (tgt := 785) hx hb dL_law_629 (by decide) (fun hc => ?_) (fun hc => absurd hret hc)
  exact next (zu (zu (zu z 5 R5.2.1) 8 R5.2.2) 11 R6.2) H locs hR hP hS ls hl
set_option maxHeartbeats 4000000 in
set_option maxRecDepth 100000 in
theorem lc_bought {p : Program} {l : Launch} {e : Env} {s : State} {m : MethodId} {below : List Frame} {meth : Method} {c : Code} {dC : Nat → ClassId} {dI : Nat → Nat → Nat} {cy : Nat → ClassId} {b L q0 q1 fu : Nat} {u : Nat → Nat → Nat} {am : Nat → Nat} {xs : Nat → Int32} {Rl : Nat → (Nat → ob_T) → Prop} (hs : sx_bought fu Rl) (hL : L ≤ 2048) (C0 : lw_At p s m meth c b L xs) (hK : va_K (dC, dI) vwCl (tyL cy) s) (hG : oc_G (fun q : Nat => s.heap.size ≤ q) (lo cy q0 q1 u am) 12) (n : Nat) (z : Nat → ob_T) (H : Heap) (locs : List Loc) (ls : Array Slot) (hn : 4 * n + 4 ≤ L) (hR : Rl n z) (hP : ∀ i, i < 12 → va_P (dC, dI) vwCl (lo cy q0 q1 u am i (z i)) H) (hS : va_S (fun q : Nat => s.heap.size ≤ q) s.heap H locs) (hl : lv_has ls 4 [(0, .ref b), (1, .ref q0), (2, .ref q1), (3, .int (nI (4 * n)))]) (next : ∀ (z : Nat → ob_T) (H : Heap) (locs : List Loc), Rl (n + 1) z → (∀ i, i < 12 → va_P (dC, dI) vwCl (lo cy q0 q1 u am i (z i)) H) → va_S (fun q : Nat => s.heap.size ≤ q) s.heap H locs → ∀ (ls : Array Slot), lv_has ls 4 [(0, .ref b), (1, .ref q0), (2, .ref q1), (3, .int (nI (4 * n)))] → W p l e room_1 s m #[Value.ref b] below meth c H locs 76 2657 (lw_Z below #[Value.ref b] s) (F0 m 785 ls [])) : W p l e room_1 s m #[Value.ref b] below meth c H locs 76 2657 (lw_Z below #[Value.ref b] s) (F0 m 634 ls []) := by
  obtain ⟨hx, hb, hr, hml, hown, hts, hX, hbl, hlocks, hgv⟩ := C0
  have hA : ∀ q : Nat, s.heap.size ≤ q → (fun q : Nat => s.heap.size ≤ q) q := fun _ h => h
  have hbA : ¬ (fun q : Nat => s.heap.size ≤ q) b := Nat.not_le.mpr hbl
  have hn2 : n < 512 := by omega
  refine lv_aload_n hx hb dL_law_634 rfl (lv_at hl 1 rfl) ?_
  refine lv_aload_n hx hb dL_law_635 rfl (lv_at hl 0 rfl) ?_
  refine lv_iload_n hx hb dL_law_636 rfl (lv_at hl 3 rfl) ?_
  refine lv_iconst (v := (1 : Int32)) hx hb dL_law_637 (by decide) ?_
  refine lv_iadd hx hb dL_law_638 ?_
  refine va_sld hx hb hX hbl hbA hS (lw_ix 1 (by decide) hn hL) dL_law_639 ?_
  refine lv_aload_n hx hb dL_law_640 rfl (lv_at hl 0 rfl) ?_
  refine lv_iload_n hx hb dL_law_641 rfl (lv_at hl 3 rfl) ?_
  refine lv_iconst (v := (2 : Int32)) hx hb dL_law_642 (by decide) ?_
  refine lv_iadd hx hb dL_law_643 ?_
  refine va_sld hx hb hX hbl hbA hS (lw_ix 2 (by decide) hn hL) dL_law_644 ?_
  obtain ⟨R5, R6, h5, h6, hret, hR⟩ := hs n z (xs (nI (4 * n) + (1 : Int32)).toNatClampNeg) (xs (nI (4 * n) + (2 : Int32)).toNatClampNeg) hn2 hR
  refine cl_vi (x := z) (x' := (zu (zu z 5 R5.2.1) 8 R5.2.2)) (oc := lo cy q0 q1 u am) (N := 12) ⟨hx, hb, hml, hown, hts⟩ hK hA hG hP hS [0, 5, 7, 8] (by decide) (by decide) (fun i hi => by simp only [zu]; rw [if_neg (fun e => hi (by rw [e]; decide))]; rw [if_neg (fun e => hi (by rw [e]; decide))]) (fun sz => kcX5_bought l dC dI cy fu q0 (u 0) (z 0) (u 5) (z 5) (u 7) (z 7) (u 8) (z 8) (xs (nI (4 * n) + (1 : Int32)).toNatClampNeg) (xs (nI (4 * n) + (2 : Int32)).toNatClampNeg) sz R5 h5) rfl rfl (cwV 2 hts gT_X5_bought rfl rfl rfl ⟨rfl, ydX5_bought⟩ ⟨Nat.le_of_ble_eq_true rfl, Nat.le_of_ble_eq_true rfl⟩) 5 0 rfl rfl rfl rfl hl.1 rfl (Nat.le_of_ble_eq_true rfl) dL_law_645 ⟨Nat.le_of_ble_eq_true rfl, Nat.le_of_ble_eq_true rfl⟩ (fun H locs hP hS => ?_)
  refine lv_aload_n hx hb dL_law_648 rfl (lv_at hl 2 rfl) ?_
  refine lv_aload_n hx hb dL_law_649 rfl (lv_at hl 0 rfl) ?_
  refine lv_iload_n hx hb dL_law_650 rfl (lv_at hl 3 rfl) ?_
  refine lv_iconst (v := (1 : Int32)) hx hb dL_law_651 (by decide) ?_
  refine lv_iadd hx hb dL_law_652 ?_
  refine va_sld hx hb hX hbl hbA hS (lw_ix 1 (by decide) hn hL) dL_law_653 ?_
  refine lv_aload_n hx hb dL_law_654 rfl (lv_at hl 0 rfl) ?_
  refine lv_iload_n hx hb dL_law_655 rfl (lv_at hl 3 rfl) ?_
  refine lv_iconst (v := (2 : Int32)) hx hb dL_law_656 (by decide) ?_
  refine lv_iadd hx hb dL_law_657 ?_
  refine va_sld hx hb hX hbl hbA hS (lw_ix 2 (by decide) hn hL) dL_law_658 ?_
  refine cl_vi (x := (zu (zu z 5 R5.2.1) 8 R5.2.2)) (x' := (zu (zu (zu z 5 R5.2.1) 8 R5.2.2) 11 R6.2)) (oc := lo cy q0 q1 u am) (N := 12) ⟨hx, hb, hml, hown, hts⟩ hK hA hG hP hS [11] (by decide) (by decide) (fun i hi => by simp only [zu]; rw [if_neg (fun e => hi (by rw [e]; decide))]) (fun sz => kcX6_bought l dC dI cy fu q1 am ((zu (zu z 5 R5.2.1) 8 R5.2.2) 11) (xs (nI (4 * n) + (1 : Int32)).toNatClampNeg) (xs (nI (4 * n) + (2 : Int32)).toNatClampNeg) sz R6 h6) rfl rfl (cwV 2 hts gT_X6_bought rfl rfl rfl ⟨rfl, ydX6_bought⟩ ⟨Nat.le_of_ble_eq_true rfl, Nat.le_of_ble_eq_true rfl⟩) 6 0 rfl rfl rfl rfl hl.1 rfl (Nat.le_of_ble_eq_true rfl) dL_law_659 ⟨Nat.le_of_ble_eq_true rfl, Nat.le_of_ble_eq_true rfl⟩ (fun H locs hP hS => ?_)
  refine lv_icmp_eq (tgt := 785) hx hb dL_law_662 (by decide) (fun hc => ?_) (fun hc => absurd hret hc)
  exact next (zu (zu (zu z 5 R5.2.1) 8 R5.2.2) 11 R6.2) H locs hR hP hS ls hl
set_option maxHeartbeats 4000000 in
set_option maxRecDepth 100000 in
theorem lc_corner {p : Program} {l : Launch} {e : Env} {s : State} {m : MethodId} {below : List Frame} {meth : Method} {c : Code} {dC : Nat → ClassId} {dI : Nat → Nat → Nat} {cy : Nat → ClassId} {b L q0 q1 fu : Nat} {u : Nat → Nat → Nat} {am : Nat → Nat} {xs : Nat → Int32} {Rl : Nat → (Nat → ob_T) → Prop} (hs : sx_corner fu Rl) (hL : L ≤ 2048) (C0 : lw_At p s m meth c b L xs) (hK : va_K (dC, dI) vwCl (tyL cy) s) (hG : oc_G (fun q : Nat => s.heap.size ≤ q) (lo cy q0 q1 u am) 12) (n : Nat) (z : Nat → ob_T) (H : Heap) (locs : List Loc) (ls : Array Slot) (hn : 4 * n + 4 ≤ L) (hR : Rl n z) (hP : ∀ i, i < 12 → va_P (dC, dI) vwCl (lo cy q0 q1 u am i (z i)) H) (hS : va_S (fun q : Nat => s.heap.size ≤ q) s.heap H locs) (hl : lv_has ls 4 [(0, .ref b), (1, .ref q0), (2, .ref q1), (3, .int (nI (4 * n)))]) (next : ∀ (z : Nat → ob_T) (H : Heap) (locs : List Loc), Rl (n + 1) z → (∀ i, i < 12 → va_P (dC, dI) vwCl (lo cy q0 q1 u am i (z i)) H) → va_S (fun q : Nat => s.heap.size ≤ q) s.heap H locs → ∀ (ls : Array Slot), lv_has ls 4 [(0, .ref b), (1, .ref q0), (2, .ref q1), (3, .int (nI (4 * n)))] → W p l e room_1 s m #[Value.ref b] below meth c H locs 76 2657 (lw_Z below #[Value.ref b] s) (F0 m 785 ls [])) : W p l e room_1 s m #[Value.ref b] below meth c H locs 76 2657 (lw_Z below #[Value.ref b] s) (F0 m 667 ls []) := by
  obtain ⟨hx, hb, hr, hml, hown, hts, hX, hbl, hlocks, hgv⟩ := C0
  have hA : ∀ q : Nat, s.heap.size ≤ q → (fun q : Nat => s.heap.size ≤ q) q := fun _ h => h
  have hbA : ¬ (fun q : Nat => s.heap.size ≤ q) b := Nat.not_le.mpr hbl
  have hn2 : n < 512 := by omega
  refine lv_aload_n hx hb dL_law_667 rfl (lv_at hl 1 rfl) ?_
  refine lv_aload_n hx hb dL_law_668 rfl (lv_at hl 0 rfl) ?_
  refine lv_iload_n hx hb dL_law_669 rfl (lv_at hl 3 rfl) ?_
  refine lv_iconst (v := (1 : Int32)) hx hb dL_law_670 (by decide) ?_
  refine lv_iadd hx hb dL_law_671 ?_
  refine va_sld hx hb hX hbl hbA hS (lw_ix 1 (by decide) hn hL) dL_law_672 ?_
  obtain ⟨R5, R6, h5, h6, hret, hR⟩ := hs n z (xs (nI (4 * n) + (1 : Int32)).toNatClampNeg) hn2 hR
  refine cl_vi (x := z) (x' := (zu (zu z 5 R5.2.1) 8 R5.2.2)) (oc := lo cy q0 q1 u am) (N := 12) ⟨hx, hb, hml, hown, hts⟩ hK hA hG hP hS [0, 5, 7, 8] (by decide) (by decide) (fun i hi => by simp only [zu]; rw [if_neg (fun e => hi (by rw [e]; decide))]; rw [if_neg (fun e => hi (by rw [e]; decide))]) (fun sz => kcX5_corner l dC dI cy fu q0 (u 0) (z 0) (u 5) (z 5) (u 7) (z 7) (u 8) (z 8) (xs (nI (4 * n) + (1 : Int32)).toNatClampNeg) sz R5 h5) rfl rfl (cwV 1 hts gT_X5_corner rfl rfl rfl ⟨rfl, ydX5_corner⟩ ⟨Nat.le_of_ble_eq_true rfl, Nat.le_of_ble_eq_true rfl⟩) 5 0 rfl rfl rfl rfl hl.1 rfl (Nat.le_of_ble_eq_true rfl) dL_law_673 ⟨Nat.le_of_ble_eq_true rfl, Nat.le_of_ble_eq_true rfl⟩ (fun H locs hP hS => ?_)
  refine lv_aload_n hx hb dL_law_676 rfl (lv_at hl 2 rfl) ?_
  refine lv_aload_n hx hb dL_law_677 rfl (lv_at hl 0 rfl) ?_
  refine lv_iload_n hx hb dL_law_678 rfl (lv_at hl 3 rfl) ?_
  refine lv_iconst (v := (1 : Int32)) hx hb dL_law_679 (by decide) ?_
  refine lv_iadd hx hb dL_law_680 ?_
  refine va_sld hx hb hX hbl hbA hS (lw_ix 1 (by decide) hn hL) dL_law_681 ?_
  refine cl_vi (x := (zu (zu z 5 R5.2.1) 8 R5.2.2)) (x' := (zu (zu (zu z 5 R5.2.1) 8 R5.2.2) 11 R6.2)) (oc := lo cy q0 q1 u am) (N := 12) ⟨hx, hb, hml, hown, hts⟩ hK hA hG hP hS [11] (by decide) (by decide) (fun i hi => by simp only [zu]; rw [if_neg (fun e => hi (by rw [e]; decide))]) (fun sz => kcX6_corner l dC dI cy fu q1 am ((zu (zu z 5 R5.2.1) 8 R5.2.2) 11) (xs (nI (4 * n) + (1 : Int32)).toNatClampNeg) sz R6 h6) rfl rfl (cwV 1 hts gT_X6_corner rfl rfl rfl ⟨rfl, ydX6_corner⟩ ⟨Nat.le_of_ble_eq_true rfl, Nat.le_of_ble_eq_true rfl⟩) 6 0 rfl rfl rfl rfl hl.1 rfl (Nat.le_of_ble_eq_true rfl) dL_law_682 ⟨Nat.le_of_ble_eq_true rfl, Nat.le_of_ble_eq_true rfl⟩ (fun H locs hP hS => ?_)
  refine lv_icmp_eq (tgt := 785) hx hb dL_law_685 (by decide) (fun hc => ?_) (fun hc => absurd hret hc)
  exact next (zu (zu (zu z 5 R5.2.1) 8 R5.2.2) 11 R6.2) H locs hR hP hS ls hl
set_option maxHeartbeats 4000000 in
set_option maxRecDepth 100000 in
theorem lc_move {p : Program} {l : Launch} {e : Env} {s : State} {m : MethodId} {below : List Frame} {meth : Method} {c : Code} {dC : Nat → ClassId} {dI : Nat → Nat → Nat} {cy : Nat → ClassId} {b L q0 q1 fu : Nat} {u : Nat → Nat → Nat} {am : Nat → Nat} {xs : Nat → Int32} {Rl : Nat → (Nat → ob_T) → Prop} (hs : sx_move fu Rl) (hL : L ≤ 2048) (C0 : lw_At p s m meth c b L xs) (hK : va_K (dC, dI) vwCl (tyL cy) s) (hG : oc_G (fun q : Nat => s.heap.size ≤ q) (lo cy q0 q1 u am) 12) (n : Nat) (z : Nat → ob_T) (H : Heap) (locs : List Loc) (ls : Array Slot) (hn : 4 * n + 4 ≤ L) (hR : Rl n z) (hP : ∀ i, i < 12 → va_P (dC, dI) vwCl (lo cy q0 q1 u am i (z i)) H) (hS : va_S (fun q : Nat => s.heap.size ≤ q) s.heap H locs) (hl : lv_has ls 4 [(0, .ref b), (1, .ref q0), (2, .ref q1), (3, .int (nI (4 * n)))]) (next : ∀ (z : Nat → ob_T) (H : Heap) (locs : List Loc), Rl (n + 1) z → (∀ i, i < 12 → va_P (dC, dI) vwCl (lo cy q0 q1 u am i (z i)) H) → va_S (fun q : Nat => s.heap.size ≤ q) s.heap H locs → ∀ (ls : Array Slot), lv_has ls 4 [(0, .ref b), (1, .ref q0), (2, .ref q1), (3, .int (nI (4 * n)))] → W p l e room_1 s m #[Value.ref b] below meth c H locs 76 2657 (lw_Z below #[Value.ref b] s) (F0 m 785 ls [])) : W p l e room_1 s m #[Value.ref b] below meth c H locs 76 2657 (lw_Z below #[Value.ref b] s) (F0 m 690 ls []) := by
  obtain ⟨hx, hb, hr, hml, hown, hts, hX, hbl, hlocks, hgv⟩ := C0
  have hA : ∀ q : Nat, s.heap.size ≤ q → (fun q : Nat => s.heap.size ≤ q) q := fun _ h => h
  have hbA : ¬ (fun q : Nat => s.heap.size ≤ q) b := Nat.not_le.mpr hbl
  have hn2 : n < 512 := by omega
  refine lv_aload_n hx hb dL_law_690 rfl (lv_at hl 1 rfl) ?_
  refine lv_aload_n hx hb dL_law_691 rfl (lv_at hl 0 rfl) ?_
  refine lv_iload_n hx hb dL_law_692 rfl (lv_at hl 3 rfl) ?_
  refine lv_iconst (v := (1 : Int32)) hx hb dL_law_693 (by decide) ?_
  refine lv_iadd hx hb dL_law_694 ?_
  refine va_sld hx hb hX hbl hbA hS (lw_ix 1 (by decide) hn hL) dL_law_695 ?_
  refine lv_aload_n hx hb dL_law_696 rfl (lv_at hl 0 rfl) ?_
  refine lv_iload_n hx hb dL_law_697 rfl (lv_at hl 3 rfl) ?_
  refine lv_iconst (v := (2 : Int32)) hx hb dL_law_698 (by decide) ?_
  refine lv_iadd hx hb dL_law_699 ?_
  refine va_sld hx hb hX hbl hbA hS (lw_ix 2 (by decide) hn hL) dL_law_700 ?_
  obtain ⟨R5, R6, h5, h6, hret, hR⟩ := hs n z (xs (nI (4 * n) + (1 : Int32)).toNatClampNeg) (xs (nI (4 * n) + (2 : Int32)).toNatClampNeg) hn2 hR
  refine cl_vi (x := z) (x' := (zu z 7 R5.2)) (oc := lo cy q0 q1 u am) (N := 12) ⟨hx, hb, hml, hown, hts⟩ hK hA hG hP hS [0, 7] (by decide) (by decide) (fun i hi => by simp only [zu]; rw [if_neg (fun e => hi (by rw [e]; decide))]) (fun sz => kcX5_move l dC dI cy fu q0 (u 0) (z 0) (u 7) (z 7) (xs (nI (4 * n) + (1 : Int32)).toNatClampNeg) (xs (nI (4 * n) + (2 : Int32)).toNatClampNeg) sz R5 h5) rfl rfl (cwV 2 hts gT_X5_move rfl rfl rfl ⟨rfl, ydX5_move⟩ ⟨Nat.le_of_ble_eq_true rfl, Nat.le_of_ble_eq_true rfl⟩) 5 0 rfl rfl rfl rfl hl.1 rfl (Nat.le_of_ble_eq_true rfl) dL_law_701 ⟨Nat.le_of_ble_eq_true rfl, Nat.le_of_ble_eq_true rfl⟩ (fun H locs hP hS => ?_)
  refine lv_aload_n hx hb dL_law_704 rfl (lv_at hl 2 rfl) ?_
  refine lv_aload_n hx hb dL_law_705 rfl (lv_at hl 0 rfl) ?_
  refine lv_iload_n hx hb dL_law_706 rfl (lv_at hl 3 rfl) ?_
  refine lv_iconst (v := (1 : Int32)) hx hb dL_law_707 (by decide) ?_
  refine lv_iadd hx hb dL_law_708 ?_
  refine va_sld hx hb hX hbl hbA hS (lw_ix 1 (by decide) hn hL) dL_law_709 ?_
  refine lv_aload_n hx hb dL_law_710 rfl (lv_at hl 0 rfl) ?_
  refine lv_iload_n hx hb dL_law_711 rfl (lv_at hl 3 rfl) ?_
  refine lv_iconst (v := (2 : Int32)) hx hb dL_law_712 (by decide) ?_
  refine lv_iadd hx hb dL_law_713 ?_
  refine va_sld hx hb hX hbl hbA hS (lw_ix 2 (by decide) hn hL) dL_law_714 ?_
  refine cl_vi (x := (zu z 7 R5.2)) (x' := (zu (zu z 7 R5.2) 11 R6.2)) (oc := lo cy q0 q1 u am) (N := 12) ⟨hx, hb, hml, hown, hts⟩ hK hA hG hP hS [11] (by decide) (by decide) (fun i hi => by simp only [zu]; rw [if_neg (fun e => hi (by rw [e]; decide))]) (fun sz => kcX6_move l dC dI cy fu q1 am ((zu z 7 R5.2) 11) (xs (nI (4 * n) + (1 : Int32)).toNatClampNeg) (xs (nI (4 * n) + (2 : Int32)).toNatClampNeg) sz R6 h6) rfl rfl (cwV 2 hts gT_X6_move rfl rfl rfl ⟨rfl, ydX6_move⟩ ⟨Nat.le_of_ble_eq_true rfl, Nat.le_of_ble_eq_true rfl⟩) 6 0 rfl rfl rfl rfl hl.1 rfl (Nat.le_of_ble_eq_true rfl) dL_law_715 ⟨Nat.le_of_ble_eq_true rfl, Nat.le_of_ble_eq_true rfl⟩ (fun H locs hP hS => ?_)
  refine lv_icmp_eq (tgt := 785) hx hb dL_law_718 (by decide) (fun hc => ?_) (fun hc => absurd hret hc)
  exact next (zu (zu z 7 R5.2) 11 R6.2) H locs hR hP hS ls hl
set_option maxHeartbeats 4000000 in
set_option maxRecDepth 100000 in
theorem lc_melted {p : Program} {l : Launch} {e : Env} {s : State} {m : MethodId} {below : List Frame} {meth : Method} {c : Code} {dC : Nat → ClassId} {dI : Nat → Nat → Nat} {cy : Nat → ClassId} {b L q0 q1 fu : Nat} {u : Nat → Nat → Nat} {am : Nat → Nat} {xs : Nat → Int32} {Rl : Nat → (Nat → ob_T) → Prop} (hs : sx_melted fu Rl) (hL : L ≤ 2048) (C0 : lw_At p s m meth c b L xs) (hK : va_K (dC, dI) vwCl (tyL cy) s) (hG : oc_G (fun q : Nat => s.heap.size ≤ q) (lo cy q0 q1 u am) 12) (n : Nat) (z : Nat → ob_T) (H : Heap) (locs : List Loc) (ls : Array Slot) (hn : 4 * n + 4 ≤ L) (hR : Rl n z) (hP : ∀ i, i < 12 → va_P (dC, dI) vwCl (lo cy q0 q1 u am i (z i)) H) (hS : va_S (fun q : Nat => s.heap.size ≤ q) s.heap H locs) (hl : lv_has ls 4 [(0, .ref b), (1, .ref q0), (2, .ref q1), (3, .int (nI (4 * n)))]) (next : ∀ (z : Nat → ob_T) (H : Heap) (locs : List Loc), Rl (n + 1) z → (∀ i, i < 12 → va_P (dC, dI) vwCl (lo cy q0 q1 u am i (z i)) H) → va_S (fun q : Nat => s.heap.size ≤ q) s.heap H locs → ∀ (ls : Array Slot), lv_has ls 4 [(0, .ref b), (1, .ref q0), (2, .ref q1), (3, .int (nI (4 * n)))] → W p l e room_1 s m #[Value.ref b] below meth c H locs 76 2657 (lw_Z below #[Value.ref b] s) (F0 m 785 ls [])) : W p l e room_1 s m #[Value.ref b] below meth c H locs 76 2657 (lw_Z below #[Value.ref b] s) (F0 m 723 ls []) := by
  obtain ⟨hx, hb, hr, hml, hown, hts, hX, hbl, hlocks, hgv⟩ := C0
  have hA : ∀ q : Nat, s.heap.size ≤ q → (fun q : Nat => s.heap.size ≤ q) q := fun _ h => h
  have hbA : ¬ (fun q : Nat => s.heap.size ≤ q) b := Nat.not_le.mpr hbl
  have hn2 : n < 512 := by omega
  refine lv_aload_n hx hb dL_law_723 rfl (lv_at hl 1 rfl) ?_
  obtain ⟨R5, R6, h5, h6, hret, hR⟩ := hs n z hn2 hR
  refine cl_vi (x := z) (x' := z) (oc := lo cy q0 q1 u am) (N := 12) ⟨hx, hb, hml, hown, hts⟩ hK hA hG hP hS [0, 7] (by decide) (by decide) (fun i hi => by rfl) (fun sz => kcX5_melted l dC dI cy fu q0 (u 0) (z 0) (u 7) (z 7)  sz R5 h5) rfl rfl (cwV 0 hts gT_X5_melted rfl rfl rfl ⟨rfl, ydX5_melted⟩ ⟨Nat.le_of_ble_eq_true rfl, Nat.le_of_ble_eq_true rfl⟩) 5 0 rfl rfl rfl rfl hl.1 rfl (Nat.le_of_ble_eq_true rfl) dL_law_724 ⟨Nat.le_of_ble_eq_true rfl, Nat.le_of_ble_eq_true rfl⟩ (fun H locs hP hS => ?_)
  refine lv_aload_n hx hb dL_law_727 rfl (lv_at hl 2 rfl) ?_
  refine cl_vi (x := z) (x' := z) (oc := lo cy q0 q1 u am) (N := 12) ⟨hx, hb, hml, hown, hts⟩ hK hA hG hP hS [11] (by decide) (by decide) (fun i hi => by rfl) (fun sz => kcX6_melted l dC dI cy fu q1 am (z 11)  sz R6 h6) rfl rfl (cwV 0 hts gT_X6_melted rfl rfl rfl ⟨rfl, ydX6_melted⟩ ⟨Nat.le_of_ble_eq_true rfl, Nat.le_of_ble_eq_true rfl⟩) 6 0 rfl rfl rfl rfl hl.1 rfl (Nat.le_of_ble_eq_true rfl) dL_law_728 ⟨Nat.le_of_ble_eq_true rfl, Nat.le_of_ble_eq_true rfl⟩ (fun H locs hP hS => ?_)
  refine lv_icmp_eq (tgt := 785) hx hb dL_law_731 (by decide) (fun hc => ?_) (fun hc => absurd hret hc)
  exact next z H locs hR hP hS ls hl
set_option maxHeartbeats 4000000 in
set_option maxRecDepth 100000 in
theorem lc_keep {p : Program} {l : Launch} {e : Env} {s : State} {m : MethodId} {below : List Frame} {meth : Method} {c : Code} {dC : Nat → ClassId} {dI : Nat → Nat → Nat} {cy : Nat → ClassId} {b L q0 q1 fu : Nat} {u : Nat → Nat → Nat} {am : Nat → Nat} {xs : Nat → Int32} {Rl : Nat → (Nat → ob_T) → Prop} (hs : sx_keep fu Rl) (hL : L ≤ 2048) (C0 : lw_At p s m meth c b L xs) (hK : va_K (dC, dI) vwCl (tyL cy) s) (hG : oc_G (fun q : Nat => s.heap.size ≤ q) (lo cy q0 q1 u am) 12) (n : Nat) (z : Nat → ob_T) (H : Heap) (locs : List Loc) (ls : Array Slot) (hn : 4 * n + 4 ≤ L) (hR : Rl n z) (hP : ∀ i, i < 12 → va_P (dC, dI) vwCl (lo cy q0 q1 u am i (z i)) H) (hS : va_S (fun q : Nat => s.heap.size ≤ q) s.heap H locs) (hl : lv_has ls 4 [(0, .ref b), (1, .ref q0), (2, .ref q1), (3, .int (nI (4 * n)))]) (next : ∀ (z : Nat → ob_T) (H : Heap) (locs : List Loc), Rl (n + 1) z → (∀ i, i < 12 → va_P (dC, dI) vwCl (lo cy q0 q1 u am i (z i)) H) → va_S (fun q : Nat => s.heap.size ≤ q) s.heap H locs → ∀ (ls : Array Slot), lv_has ls 4 [(0, .ref b), (1, .ref q0), (2, .ref q1), (3, .int (nI (4 * n)))] → W p l e room_1 s m #[Value.ref b] below meth c H locs 76 2657 (lw_Z below #[Value.ref b] s) (F0 m 785 ls [])) : W p l e room_1 s m #[Value.ref b] below meth c H locs 76 2657 (lw_Z below #[Value.ref b] s) (F0 m 736 ls []) := by
  obtain ⟨hx, hb, hr, hml, hown, hts, hX, hbl, hlocks, hgv⟩ := C0
  have hA : ∀ q : Nat, s.heap.size ≤ q → (fun q : Nat => s.heap.size ≤ q) q := fun _ h => h
  have hbA : ¬ (fun q : Nat => s.heap.size ≤ q) b := Nat.not_le.mpr hbl
  have hn2 : n < 512 := by omega
  refine lv_aload_n hx hb dL_law_736 rfl (lv_at hl 1 rfl) ?_
  obtain ⟨R5, R6, h5, h6, hret, hR⟩ := hs n z hn2 hR
  refine cl_vi (x := z) (x' := (zu (zu (zu z 0 R5.2.1) 9 R5.2.2.1) 10 R5.2.2.2)) (oc := lo cy q0 q1 u am) (N := 12) ⟨hx, hb, hml, hown, hts⟩ hK hA hG hP hS [0, 7, 9, 10] (by decide) (by decide) (fun i hi => by simp only [zu]; rw [if_neg (fun e => hi (by rw [e]; decide))]; rw [if_neg (fun e => hi (by rw [e]; decide))]; rw [if_neg (fun e => hi (by rw [e]; decide))]) (fun sz => kcX5_keep l dC dI cy fu q0 (u 0) (z 0) (u 7) (z 7) (u 9) (z 9) (u 10) (z 10)  sz R5 h5) rfl rfl (cwV 0 hts gT_X5_keep rfl rfl rfl ⟨rfl, ydX5_keep⟩ ⟨Nat.le_of_ble_eq_true rfl, Nat.le_of_ble_eq_true rfl⟩) 5 0 rfl rfl rfl rfl hl.1 rfl (Nat.le_of_ble_eq_true rfl) dL_law_737 ⟨Nat.le_of_ble_eq_true rfl, Nat.le_of_ble_eq_true rfl⟩ (fun H locs hP hS => ?_)
  refine lv_aload_n hx hb dL_law_740 rfl (lv_at hl 2 rfl) ?_
  refine cl_vi (x := (zu (zu (zu z 0 R5.2.1) 9 R5.2.2.1) 10 R5.2.2.2)) (x' := (zu (zu (zu (zu z 0 R5.2.1) 9 R5.2.2.1) 10 R5.2.2.2) 11 R6.2)) (oc := lo cy q0 q1 u am) (N := 12) ⟨hx, hb, hml, hown, hts⟩ hK hA hG hP hS [11] (by decide) (by decide) (fun i hi => by simp only [zu]; rw [if_neg (fun e => hi (by rw [e]; decide))]) (fun sz => kcX6_keep l dC dI cy fu q1 am ((zu (zu (zu z 0 R5.2.1) 9 R5.2.2.1) 10 R5.2.2.2) 11)  sz R6 h6) rfl rfl (cwV 0 hts gT_X6_keep rfl rfl rfl ⟨rfl, ydX6_keep⟩ ⟨Nat.le_of_ble_eq_true rfl, Nat.le_of_ble_eq_true rfl⟩) 6 0 rfl rfl rfl rfl hl.1 rfl (Nat.le_of_ble_eq_true rfl) dL_law_741 ⟨Nat.le_of_ble_eq_true rfl, Nat.le_of_ble_eq_true rfl⟩ (fun H locs hP hS => ?_)
  refine lv_icmp_eq (tgt := 785) hx hb dL_law_744 (by decide) (fun hc => ?_) (fun hc => absurd hret hc)
  exact next (zu (zu (zu (zu z 0 R5.2.1) 9 R5.2.2.1) 10 R5.2.2.2) 11 R6.2) H locs hR hP hS ls hl
set_option maxHeartbeats 4000000 in
set_option maxRecDepth 100000 in
theorem lc_back {p : Program} {l : Launch} {e : Env} {s : State} {m : MethodId} {below : List Frame} {meth : Method} {c : Code} {dC : Nat → ClassId} {dI : Nat → Nat → Nat} {cy : Nat → ClassId} {b L q0 q1 fu : Nat} {u : Nat → Nat → Nat} {am : Nat → Nat} {xs : Nat → Int32} {Rl : Nat → (Nat → ob_T) → Prop} (hs : sx_back fu Rl) (hL : L ≤ 2048) (C0 : lw_At p s m meth c b L xs) (hK : va_K (dC, dI) vwCl (tyL cy) s) (hG : oc_G (fun q : Nat => s.heap.size ≤ q) (lo cy q0 q1 u am) 12) (n : Nat) (z : Nat → ob_T) (H : Heap) (locs : List Loc) (ls : Array Slot) (hn : 4 * n + 4 ≤ L) (hR : Rl n z) (hP : ∀ i, i < 12 → va_P (dC, dI) vwCl (lo cy q0 q1 u am i (z i)) H) (hS : va_S (fun q : Nat => s.heap.size ≤ q) s.heap H locs) (hl : lv_has ls 4 [(0, .ref b), (1, .ref q0), (2, .ref q1), (3, .int (nI (4 * n)))]) (next : ∀ (z : Nat → ob_T) (H : Heap) (locs : List Loc), Rl (n + 1) z → (∀ i, i < 12 → va_P (dC, dI) vwCl (lo cy q0 q1 u am i (z i)) H) → va_S (fun q : Nat => s.heap.size ≤ q) s.heap H locs → ∀ (ls : Array Slot), lv_has ls 4 [(0, .ref b), (1, .ref q0), (2, .ref q1), (3, .int (nI (4 * n)))] → W p l e room_1 s m #[Value.ref b] below meth c H locs 76 2657 (lw_Z below #[Value.ref b] s) (F0 m 785 ls [])) : W p l e room_1 s m #[Value.ref b] below meth c H locs 76 2657 (lw_Z below #[Value.ref b] s) (F0 m 749 ls []) := by
  obtain ⟨hx, hb, hr, hml, hown, hts, hX, hbl, hlocks, hgv⟩ := C0
  have hA : ∀ q : Nat, s.heap.size ≤ q → (fun q : Nat => s.heap.size ≤ q) q := fun _ h => h
  have hbA : ¬ (fun q : Nat => s.heap.size ≤ q) b := Nat.not_le.mpr hbl
  have hn2 : n < 512 := by omega
  refine lv_aload_n hx hb dL_law_749 rfl (lv_at hl 1 rfl) ?_
  obtain ⟨R5, R6, h5, h6, hret, hR⟩ := hs n z hn2 hR
  refine cl_vi (x := z) (x' := (zu (zu z 0 R5.2.1) 7 R5.2.2)) (oc := lo cy q0 q1 u am) (N := 12) ⟨hx, hb, hml, hown, hts⟩ hK hA hG hP hS [0, 7, 9, 10] (by decide) (by decide) (fun i hi => by simp only [zu]; rw [if_neg (fun e => hi (by rw [e]; decide))]; rw [if_neg (fun e => hi (by rw [e]; decide))]) (fun sz => kcX5_back l dC dI cy fu q0 (u 0) (z 0) (u 7) (z 7) (u 9) (z 9) (u 10) (z 10)  sz R5 h5) rfl rfl (cwV 0 hts gT_X5_back rfl rfl rfl ⟨rfl, ydX5_back⟩ ⟨Nat.le_of_ble_eq_true rfl, Nat.le_of_ble_eq_true rfl⟩) 5 0 rfl rfl rfl rfl hl.1 rfl (Nat.le_of_ble_eq_true rfl) dL_law_750 ⟨Nat.le_of_ble_eq_true rfl, Nat.le_of_ble_eq_true rfl⟩ (fun H locs hP hS => ?_)
  refine lv_aload_n hx hb dL_law_753 rfl (lv_at hl 2 rfl) ?_
  refine cl_vi (x := (zu (zu z 0 R5.2.1) 7 R5.2.2)) (x' := (zu (zu (zu z 0 R5.2.1) 7 R5.2.2) 11 R6.2)) (oc := lo cy q0 q1 u am) (N := 12) ⟨hx, hb, hml, hown, hts⟩ hK hA hG hP hS [11] (by decide) (by decide) (fun i hi => by simp only [zu]; rw [if_neg (fun e => hi (by rw [e]; decide))]) (fun sz => kcX6_back l dC dI cy fu q1 am ((zu (zu z 0 R5.2.1) 7 R5.2.2) 11)  sz R6 h6) rfl rfl (cwV 0 hts gT_X6_back rfl rfl rfl ⟨rfl, ydX6_back⟩ ⟨Nat.le_of_ble_eq_true rfl, Nat.le_of_ble_eq_true rfl⟩) 6 0 rfl rfl rfl rfl hl.1 rfl (Nat.le_of_ble_eq_true rfl) dL_law_754 ⟨Nat.le_of_ble_eq_true rfl, Nat.le_of_ble_eq_true rfl⟩ (fun H locs hP hS => ?_)
  refine lv_icmp_eq (tgt := 785) hx hb dL_law_757 (by decide) (fun hc => ?_) (fun hc => absurd hret hc)
  exact next (zu (zu (zu z 0 R5.2.1) 7 R5.2.2) 11 R6.2) H locs hR hP hS ls hl
set_option maxHeartbeats 4000000 in
set_option maxRecDepth 100000 in
theorem lc_count {p : Program} {l : Launch} {e : Env} {s : State} {m : MethodId} {below : List Frame} {meth : Method} {c : Code} {dC : Nat → ClassId} {dI : Nat → Nat → Nat} {cy : Nat → ClassId} {b L q0 q1 fu : Nat} {u : Nat → Nat → Nat} {am : Nat → Nat} {xs : Nat → Int32} {Rl : Nat → (Nat → ob_T) → Prop} (hs : sx_count fu Rl) (hL : L ≤ 2048) (C0 : lw_At p s m meth c b L xs) (hK : va_K (dC, dI) vwCl (tyL cy) s) (hG : oc_G (fun q : Nat => s.heap.size ≤ q) (lo cy q0 q1 u am) 12) (n : Nat) (z : Nat → ob_T) (H : Heap) (locs : List Loc) (ls : Array Slot) (hn : 4 * n + 4 ≤ L) (hR : Rl n z) (hP : ∀ i, i < 12 → va_P (dC, dI) vwCl (lo cy q0 q1 u am i (z i)) H) (hS : va_S (fun q : Nat => s.heap.size ≤ q) s.heap H locs) (hl : lv_has ls 4 [(0, .ref b), (1, .ref q0), (2, .ref q1), (3, .int (nI (4 * n)))]) (next : ∀ (z : Nat → ob_T) (H : Heap) (locs : List Loc), Rl (n + 1) z → (∀ i, i < 12 → va_P (dC, dI) vwCl (lo cy q0 q1 u am i (z i)) H) → va_S (fun q : Nat => s.heap.size ≤ q) s.heap H locs → ∀ (ls : Array Slot), lv_has ls 4 [(0, .ref b), (1, .ref q0), (2, .ref q1), (3, .int (nI (4 * n)))] → W p l e room_1 s m #[Value.ref b] below meth c H locs 76 2657 (lw_Z below #[Value.ref b] s) (F0 m 785 ls [])) : W p l e room_1 s m #[Value.ref b] below meth c H locs 76 2657 (lw_Z below #[Value.ref b] s) (F0 m 762 ls []) := by
  obtain ⟨hx, hb, hr, hml, hown, hts, hX, hbl, hlocks, hgv⟩ := C0
  have hA : ∀ q : Nat, s.heap.size ≤ q → (fun q : Nat => s.heap.size ≤ q) q := fun _ h => h
  have hbA : ¬ (fun q : Nat => s.heap.size ≤ q) b := Nat.not_le.mpr hbl
  have hn2 : n < 512 := by omega
  refine lv_aload_n hx hb dL_law_762 rfl (lv_at hl 1 rfl) ?_
  refine lv_aload_n hx hb dL_law_763 rfl (lv_at hl 0 rfl) ?_
  refine lv_iload_n hx hb dL_law_764 rfl (lv_at hl 3 rfl) ?_
  refine lv_iconst (v := (1 : Int32)) hx hb dL_law_765 (by decide) ?_
  refine lv_iadd hx hb dL_law_766 ?_
  refine va_sld hx hb hX hbl hbA hS (lw_ix 1 (by decide) hn hL) dL_law_767 ?_
  obtain ⟨R5, R6, h5, h6, hret, hR⟩ := hs n z (xs (nI (4 * n) + (1 : Int32)).toNatClampNeg) hn2 hR
  refine cl_vi (x := z) (x' := z) (oc := lo cy q0 q1 u am) (N := 12) ⟨hx, hb, hml, hown, hts⟩ hK hA hG hP hS [0, 7, 1] (by decide) (by decide) (fun i hi => by rfl) (fun sz => kcX5_count l dC dI cy fu q0 (u 0) (z 0) (u 7) (z 7) (u 1) (z 1) (xs (nI (4 * n) + (1 : Int32)).toNatClampNeg) sz R5 h5) rfl rfl (cwV 1 hts gT_X5_count rfl rfl rfl ⟨rfl, ydX5_count⟩ ⟨Nat.le_of_ble_eq_true rfl, Nat.le_of_ble_eq_true rfl⟩) 5 0 rfl rfl rfl rfl hl.1 rfl (Nat.le_of_ble_eq_true rfl) dL_law_768 ⟨Nat.le_of_ble_eq_true rfl, Nat.le_of_ble_eq_true rfl⟩ (fun H locs hP hS => ?_)
  refine lv_aload_n hx hb dL_law_771 rfl (lv_at hl 2 rfl) ?_
  refine lv_aload_n hx hb dL_law_772 rfl (lv_at hl 0 rfl) ?_
  refine lv_iload_n hx hb dL_law_773 rfl (lv_at hl 3 rfl) ?_
  refine lv_iconst (v := (1 : Int32)) hx hb dL_law_774 (by decide) ?_
  refine lv_iadd hx hb dL_law_775 ?_
  refine va_sld hx hb hX hbl hbA hS (lw_ix 1 (by decide) hn hL) dL_law_776 ?_
  refine cl_vi (x := z) (x' := z) (oc := lo cy q0 q1 u am) (N := 12) ⟨hx, hb, hml, hown, hts⟩ hK hA hG hP hS [11] (by decide) (by decide) (fun i hi => by rfl) (fun sz => kcX6_count l dC dI cy fu q1 am (z 11) (xs (nI (4 * n) + (1 : Int32)).toNatClampNeg) sz R6 h6) rfl rfl (cwV 1 hts gT_X6_count rfl rfl rfl ⟨rfl, ydX6_count⟩ ⟨Nat.le_of_ble_eq_true rfl, Nat.le_of_ble_eq_true rfl⟩) 6 0 rfl rfl rfl rfl hl.1 rfl (Nat.le_of_ble_eq_true rfl) dL_law_777 ⟨Nat.le_of_ble_eq_true rfl, Nat.le_of_ble_eq_true rfl⟩ (fun H locs hP hS => ?_)
  refine lv_icmp_eq (tgt := 785) hx hb dL_law_780 (by decide) (fun hc => ?_) (fun hc => absurd hret hc)
  exact next z H locs hR hP hS ls hl
