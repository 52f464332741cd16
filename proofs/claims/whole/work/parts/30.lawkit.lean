theorem va_Pm {D : va_G} {cl : List vw_C} {ws : va_W} {H : Heap} : va_P D cl ws H ↔ ∀ q ∈ ws, va_at D cl q H := by
  constructor
  · intro h q hq
    obtain ⟨k, hk⟩ := List.mem_iff_getElem?.mp hq
    exact h k q hk
  · intro h k q hk
    exact h q (List.mem_of_getElem? hk)
theorem va_D_app {A : Nat → Prop} {a b : va_W} (h : va_D A (a ++ b)) : va_D A a ∧ va_D A b ∧ ∀ p ∈ a, ∀ q ∈ b, p.1 ≠ q.1 := by
  refine ⟨⟨fun i j p q hp hq e => ?_, fun k q hq => ?_⟩, ⟨fun i j p q hp hq e => ?_, fun k q hq => ?_⟩, fun p hp q hq e => ?_⟩
  · have hi : i < a.length := (List.getElem?_eq_some_iff.mp hp).1
    have hj : j < a.length := (List.getElem?_eq_some_iff.mp hq).1
    exact h.1 i j p q (by rw [List.getElem?_append_left hi]; exact hp) (by rw [List.getElem?_append_left hj]; exact hq) e
  · have hi : k < a.length := (List.getElem?_eq_some_iff.mp hq).1
    exact h.2 k q (by rw [List.getElem?_append_left hi]; exact hq)
  · have := h.1 (a.length + i) (a.length + j) p q (by rw [List.getElem?_append_right (by omega)]; simpa using hp) (by rw [List.getElem?_append_right (by omega)]; simpa using hq) e
    omega
  · exact h.2 (a.length + k) q (by rw [List.getElem?_append_right (by omega)]; simpa using hq)
  · obtain ⟨i, hi⟩ := List.mem_iff_getElem?.mp hp
    obtain ⟨j, hj⟩ := List.mem_iff_getElem?.mp hq
    have hi' : i < a.length := (List.getElem?_eq_some_iff.mp hi).1
    have := h.1 i (a.length + j) p q (by rw [List.getElem?_append_left hi']; exact hi) (by rw [List.getElem?_append_right (by omega)]; simpa using hj) e
    omega
/-- the cells of some objects, one behind the other -/
def oc_cat (oc : Nat → ob_T → va_W) (x : Nat → ob_T) (js : List Nat) : va_W := js.flatMap (fun j => oc j (x j))
def oc_G (A : Nat → Prop) (oc : Nat → ob_T → va_W) (N : Nat) : Prop := (∀ i, i < N → ∀ w, va_D A (oc i w)) ∧ ∀ i j, i < N → j < N → i ≠ j → ∀ w w', ∀ p ∈ oc i w, ∀ q ∈ oc j w', p.1 ≠ q.1
def zu (z : Nat → ob_T) (i : Nat) (w : ob_T) : Nat → ob_T := fun k => if k = i then w else z k
theorem oc_mem {oc : Nat → ob_T → va_W} {x : Nat → ob_T} {js : List Nat} {q : Nat × va_E} : q ∈ oc_cat oc x js ↔ ∃ j ∈ js, q ∈ oc j (x j) := List.mem_flatMap
theorem oc_D {A : Nat → Prop} {oc : Nat → ob_T → va_W} {N : Nat} (hG : oc_G A oc N) (x : Nat → ob_T) : ∀ (js : List Nat), (∀ j ∈ js, j < N) → js.Nodup → va_D A (oc_cat oc x js) := by
  intro js
  induction js with
  | nil => intro _ _; exact ⟨fun i j p q h => by simp [oc_cat] at h, fun k q h => by simp [oc_cat] at h⟩
  | cons j js ih =>
    intro h1 h2
    have hn := List.nodup_cons.mp h2
    show va_D A (oc j (x j) ++ oc_cat oc x js)
    refine va_D.app (hG.1 j (h1 j List.mem_cons_self) (x j)) (ih (fun k hk => h1 k (List.mem_cons_of_mem _ hk)) hn.2) ?_
    intro i k p q hp hq
    obtain ⟨r, hr, hq'⟩ := oc_mem.mp (List.mem_of_getElem? hq)
    exact hG.2 j r (h1 j List.mem_cons_self) (h1 r (List.mem_cons_of_mem _ hr)) (fun e => hn.1 (e ▸ hr)) _ _ p (List.mem_of_getElem? hp) q hq'
theorem oc_G_of {A : Nat → Prop} {oc : Nat → ob_T → va_W} {x : Nat → ob_T} (had : ∀ i w w', (oc i w).map Prod.fst = (oc i w').map Prod.fst) : ∀ (js : List Nat), va_D A (oc_cat oc x js) → (∀ i ∈ js, ∀ w, va_D A (oc i w)) ∧ ∀ (a b : List Nat) (i j : Nat), js = a ++ i :: b → j ∈ b → ∀ w w', ∀ p ∈ oc i w, ∀ q ∈ oc j w', p.1 ≠ q.1 := by
  have mv : ∀ (i : Nat) (w w' : ob_T) (p : Nat × va_E), p ∈ oc i w → ∃ p' ∈ oc i w', p'.1 = p.1 := by
    intro i w w' p hp
    have h1 : p.1 ∈ (oc i w).map Prod.fst := List.mem_map.mpr ⟨p, hp, rfl⟩
    rw [had i w w'] at h1
    obtain ⟨p', h2, h3⟩ := List.mem_map.mp h1
    exact ⟨p', h2, h3⟩
  intro js
  induction js with
  | nil => intro _; exact ⟨fun i h => (by cases h), fun a b i j h => (by simp at h)⟩
  | cons k js ih =>
    intro h
    obtain ⟨h1, h2, h3⟩ := va_D_app (a := oc k (x k)) (b := oc_cat oc x js) h
    obtain ⟨g1, g2⟩ := ih h2
    refine ⟨fun i hi w => ?_, fun a b i j he hj w w' p hp q hq => ?_⟩
    · rcases List.mem_cons.mp hi with e | e
      · subst e; exact va_D_adr h1 (had _ _ _)
      · exact g1 i e w
    · cases a with
      | nil =>
        simp at he
        obtain ⟨e1, e2⟩ := he
        subst e1; subst e2
        obtain ⟨p', a1, a2⟩ := mv k w (x k) p hp
        obtain ⟨q', b1, b2⟩ := mv j w' (x j) q hq
        have := h3 p' a1 q' (oc_mem.mpr ⟨j, hj, b1⟩)
        rw [a2, b2] at this
        exact this
      | cons c a =>
        simp at he
        exact g2 a b i j he.2 hj w w' p hp q hq
section CL
variable {p : Program} {l : Launch} {e : Env} {R : Room} {s : State} {m : MethodId} {args : Array Value} {below : List Frame} {meth : Method} {c : Code} {H : Heap} {locs : List Loc} {cells slots : Nat} {Q : State → Prop}
variable {dC : Nat → ClassId} {dI : Nat → Nat → Nat} {cy : Nat → ClassId} {cc : ByteArray} {nL : Nat} {Ts : List Cond} {own : String} {A : Nat → Prop} {wc w1 : va_W} {oc : Nat → ob_T → va_W} {N : Nat} {x x' : Nat → ob_T}
variable {y : MethodName} {wsy : List Cond} {F Lc maxL index n b : Nat} {bytes : ByteArray} {ret : Option FieldType} {C : String} {As rest st : List Value} {ls : Array Slot} {pc : Nat}
/-- behind a call: all objects stand, those that it was given as it says -/
theorem oc_after {js : List Nat} {H1 : Heap} (hG : oc_G A oc N) (hP : ∀ i, i < N → va_P (dC, dI) vwCl (oc i (x i)) H) (hjs : ∀ j ∈ js, j < N) (hx : ∀ i, i ∉ js → x' i = x i) (hk : ∀ q : Nat, q < H.size → ¬ va_A (oc_cat oc x js) H.size q → H1[q]? = H[q]?) (hP1 : va_P (dC, dI) vwCl (oc_cat oc x' js) H1) : ∀ i, i < N → va_P (dC, dI) vwCl (oc i (x' i)) H1 := by
  intro i hi
  by_cases hij : i ∈ js
  · exact va_Pm.mpr (fun q hq => va_Pm.mp hP1 q (oc_mem.mpr ⟨i, hij, hq⟩))
  · rw [hx i hij]
    refine va_Pm.mpr (fun q hq => ?_)
    have h0 := va_Pm.mp (hP i hi) q hq
    refine h0.kept (hk q.1 h0.lt ?_)
    intro ha
    rcases ha with ⟨k, ev, hk2⟩ | ha
    · obtain ⟨j, hj, hq'⟩ := oc_mem.mp (List.mem_of_getElem? hk2)
      exact hG.2 i j hi (hjs j hj) (fun e => hij (e ▸ hj)) _ _ q hq _ hq' rfl
    · exact absurd h0.lt (by omega)
theorem oc_free {js : List Nat} (hG : oc_G A oc N) (hA : ∀ q : Nat, s.heap.size ≤ q → A q) (hS : va_S A s.heap H locs) (hjs : ∀ j ∈ js, j < N) : ∀ q, va_A (oc_cat oc x js) H.size q → A q := by
  intro q h
  rcases h with ⟨k, ev, hk⟩ | h
  · obtain ⟨j, hj, hq⟩ := oc_mem.mp (List.mem_of_getElem? hk)
    obtain ⟨k2, hk2⟩ := List.mem_iff_getElem?.mp hq
    exact (hG.1 j (hjs j hj) (x j)).2 k2 _ hk2
  · exact hA q (Nat.le_trans hS.1 h)
theorem cl_vi {R0 : Int32} (S : CallFix p m c cc nL s args Ts own) (hK : va_K (dC, dI) vwCl (tyL cy) s) (hA : ∀ q : Nat, s.heap.size ≤ q → A q) (hG : oc_G A oc N) (hP : ∀ i, i < N → va_P (dC, dI) vwCl (oc i (x i)) H) (hS : va_S A s.heap H locs)
    (js : List Nat) (hjs : ∀ j ∈ js, j < N) (hnd : js.Nodup) (hx : ∀ i, i ∉ js → x' i = x i) (hM : ∀ sz, Met l y wsy (rmN F Lc) (va_Pc (.ref b :: As) (cPre dC dI cy wc sz)) (va_Qi (fun (r : Int32) (_ : Unit) => r = R0) (fun _ => cPost dC dI cy wc w1 sz) (va_A wc sz)) 0 0 (va_A wc sz))
    (hC : wc = oc_cat oc x js) (hC1 : w1 = oc_cat oc x' js)
    (cw : CallW R s args own C index y bytes maxL ret wsy (rmN F Lc) 0 0 n) (ci q0 : Nat) {q : vw_C} {fs : List Value} (hcl : vwCl[ci]? = some q) (hq : q.1 = C) (hrc : wc[q0]? = some (b, .inr (ci, fs)))
    (hlen : As.length = n) (hls : ls.size = nL) (hst : st = As.reverse ++ .ref b :: rest) (hW : (rest.map fun v => v.category).sum ≤ 8) (hdg : decode cc pc = .ok (.invokevirtual index, 3)) (hf : cells ≤ R.cells ∧ slots ≤ R.slots)
    (kk : ∀ (H1 : Heap) (locs1 : List Loc), (∀ i, i < N → va_P (dC, dI) vwCl (oc i (x' i)) H1) → va_S A s.heap H1 locs1 → W p l e R s m args below meth c H1 locs1 cells slots Q (F0 m (pc + 3) ls (.int R0 :: rest))) : W p l e R s m args below meth c H locs cells slots Q (F0 m pc ls st) := by
  subst hq
  subst hC; subst hC1
  have hDc : va_D A (oc_cat oc x js) := oc_D hG x js hjs hnd
  have hPc : va_P (dC, dI) vwCl (oc_cat oc x js) H := va_Pm.mpr (fun q hq => by
    obtain ⟨j, hj, hq'⟩ := oc_mem.mp hq
    exact va_Pm.mp (hP j (hjs j hj)) q hq')
  have hFc : ∀ q, va_A (oc_cat oc x js) H.size q → A q := oc_free hG hA hS hjs
  refine va_calli (va_runV (As := As) (rest := rest) S (hM H.size) cw ⟨cPre_blind, va_recv hK hPc hcl hrc, fun U hU hW => ⟨rfl, by rw [hU], by rw [hU]; exact hPc, va_K.moved hW.alike hK, hDc.weaken (fun _ _ _ _ => trivial)⟩⟩ rfl hlen hls hst (lv_room hW) hdg hf) hS (fun q _ h => hFc q h) hFc (fun r u t H1 locs ht hvm hw hB hz1 hk1 hS => ?_)
  obtain ⟨hP1, hK1, hD1⟩ := hB
  rw [ht] at hP1
  subst hw
  exact kk H1 locs (oc_after hG hP hjs hx hk1 hP1) hS
theorem cl_vl {R0 : Int64} (S : CallFix p m c cc nL s args Ts own) (hK : va_K (dC, dI) vwCl (tyL cy) s) (hA : ∀ q : Nat, s.heap.size ≤ q → A q) (hG : oc_G A oc N) (hP : ∀ i, i < N → va_P (dC, dI) vwCl (oc i (x i)) H) (hS : va_S A s.heap H locs)
    (js : List Nat) (hjs : ∀ j ∈ js, j < N) (hnd : js.Nodup) (hx : ∀ i, i ∉ js → x' i = x i) (hM : ∀ sz, Met l y wsy (rmN F Lc) (va_Pc (.ref b :: As) (cPre dC dI cy wc sz)) (va_Ql (fun (r : Int64) (_ : Unit) => r = R0) (fun _ => cPost dC dI cy wc w1 sz) (va_A wc sz)) 0 0 (va_A wc sz))
    (hC : wc = oc_cat oc x js) (hC1 : w1 = oc_cat oc x' js)
    (cw : CallW R s args own C index y bytes maxL ret wsy (rmN F Lc) 0 0 n) (ci q0 : Nat) {q : vw_C} {fs : List Value} (hcl : vwCl[ci]? = some q) (hq : q.1 = C) (hrc : wc[q0]? = some (b, .inr (ci, fs)))
    (hlen : As.length = n) (hls : ls.size = nL) (hst : st = As.reverse ++ .ref b :: rest) (hW : (rest.map fun v => v.category).sum ≤ 8) (hdg : decode cc pc = .ok (.invokevirtual index, 3)) (hf : cells ≤ R.cells ∧ slots ≤ R.slots)
    (kk : ∀ (H1 : Heap) (locs1 : List Loc), (∀ i, i < N → va_P (dC, dI) vwCl (oc i (x' i)) H1) → va_S A s.heap H1 locs1 → W p l e R s m args below meth c H1 locs1 cells slots Q (F0 m (pc + 3) ls (.long R0 :: rest))) : W p l e R s m args below meth c H locs cells slots Q (F0 m pc ls st) := by
  subst hq
  subst hC; subst hC1
  have hDc : va_D A (oc_cat oc x js) := oc_D hG x js hjs hnd
  have hPc : va_P (dC, dI) vwCl (oc_cat oc x js) H := va_Pm.mpr (fun q hq => by
    obtain ⟨j, hj, hq'⟩ := oc_mem.mp hq
    exact va_Pm.mp (hP j (hjs j hj)) q hq')
  have hFc : ∀ q, va_A (oc_cat oc x js) H.size q → A q := oc_free hG hA hS hjs
  refine va_calll (va_runV (As := As) (rest := rest) S (hM H.size) cw ⟨cPre_blind, va_recv hK hPc hcl hrc, fun U hU hW => ⟨rfl, by rw [hU], by rw [hU]; exact hPc, va_K.moved hW.alike hK, hDc.weaken (fun _ _ _ _ => trivial)⟩⟩ rfl hlen hls hst (lv_room hW) hdg hf) hS (fun q _ h => hFc q h) hFc (fun r u t H1 locs ht hvm hw hB hz1 hk1 hS => ?_)
  obtain ⟨hP1, hK1, hD1⟩ := hB
  rw [ht] at hP1
  subst hw
  exact kk H1 locs (oc_after hG hP hjs hx hk1 hP1) hS
end CL
/-- the law's objects: 0 TwoMetals, 1 its text, 2 reader, 3 and 4 the reader's world and mines, 5 mover, 6 mines, 7 now, 8 trial, 9 and 10 kept, 11 the reference -/
def lo (cy : Nat → ClassId) (q0 q1 : Nat) (u : Nat → Nat → Nat) (am : Nat → Nat) (i : Nat) (w : ob_T) : va_W := match i with
  | 0 => o_X5 cy q0 (u 0) w
  | 1 => o_X3 cy (u 0 0) (u 1) w
  | 2 => o_X2 cy (u 0 1) (u 2) w
  | 3 => o_X4 cy (u 2 0) (u 3) w
  | 4 => o_X0 cy (u 2 1) (u 4) w
  | 5 => o_X1 cy (u 0 2) (u 5) w
  | 6 => o_X0 cy (u 0 3) (u 6) w
  | 7 => o_X4 cy (u 0 4) (u 7) w
  | 8 => o_X4 cy (u 0 5) (u 8) w
  | 9 => o_X4 cy (u 0 10) (u 9) w
  | 10 => o_X4 cy (u 0 11) (u 10) w
  | _ => o_X6 cy q1 am w
theorem lo_adr (cy : Nat → ClassId) (q0 q1 : Nat) (u : Nat → Nat → Nat) (am : Nat → Nat) : ∀ i w w', (lo cy q0 q1 u am i w).map Prod.fst = (lo cy q0 q1 u am i w').map Prod.fst := by
  intro i w w'
  match i with
  | 0 | 1 | 2 | 3 | 4 | 5 | 6 | 7 | 8 | 9 | 10 => rfl
  | n + 11 => rfl
theorem lw_ix {n L : Nat} (j : Nat) (hj : j < 4) (h : 4 * n + 4 ≤ L) (hL : L ≤ 2048) : vp_in (nI (4 * n) + nI j) L := by
  rw [nI_add]
  exact vp_in_nI (by omega) (by omega)
/-! THE CLAIM OUT OF ONE WALK OF THE LAW'S BODY. Your part is whole_start (and what it stands on); all else here is the same for every law, but numbers. -/
def R_law : String := "TwoMetalsLaw"
def lw_P (b : Addr) (xs : List Int32) (args : Array Value) (s : State) : Prop := args = #[.ref b] ∧ s.IntsAt b xs ∧ xs.length ≤ 2048 ∧ (Jvm.Cond.and given_1 narrow_1).before args s = true
def lw_Q (_ : Array Value) (s : State) (o : Outcome) (t : State) : Prop := o = .returned (some (.int 1)) ∧ Framed s o t [] 600000 7302250
def lw_Z (below : List Frame) (a : Array Value) (s : State) : State → Prop := fun t => ∃ o, t.status = .running ∧ Ended t below o ∧ lw_Q a s o t
/-- the law's own end, with 1 on the stack, nothing written that was there before, its room as the claim has it -/
theorem lw_ret {p : Program} {l : Launch} {e : Env} {s : State} {m : MethodId} {below : List Frame} {meth : Method} {c : Code} {b : Nat} (hx : p.tables.exec = Jvm.exec) (hb : c.code = code) (hr : meth.sig.returnType = ret) (hlocks : meth.locks = false) {pc : Nat} {H : Heap} {ls : Array Slot} (hdg : decode code pc = .ok (.ireturn, 1)) : W p l e room_1 s m #[Value.ref b] below meth c H [] 600000 7302250 (lw_Z below #[Value.ref b] s) (F0 m pc ls [.int 1]) := by
  intro T hT X
  obtain ⟨fs, hret, hrun, hended, hW, hframe⟩ := X.leave (v := some (.int 1)) (hlocks := hlocks) (fun h => by rw [hr] at h; cases h)
  have hmeth' : T.vm.method? m = some meth := X.method'
  refine ⟨T.setFrames fs, ?_, .returned (some (.int 1)), hrun, hended, rfl, ⟨_, rfl⟩, hW, hframe⟩
  jvm_step X.here [X.here.top, hx, hb, hdg, hmeth', hr, ret, narrow_b1]
  (try refine ⟨rfl, ?_⟩); (try refine ⟨rfl, ?_⟩)
  first | (intro acts; rw [hret _ acts rfl rfl rfl]) | rw [hret _ _ rfl rfl rfl]
  exact Steps.refl _
/-- what holds at the law's entry: the machine, the code, the tables' words (any of lw_tbl by 'hts w (by decide +kernel)'), the script of L ints xs at the cell b, what the Statement gives of the start (any of its parts by flat_of_before) -/
def lw_At (p : Program) (s : State) (m : MethodId) (meth : Method) (c : Code) (b L : Nat) (xs : Nat → Int32) : Prop :=
  p.tables.exec = Jvm.exec ∧ c.code = code ∧ meth.sig.returnType = ret ∧ c.maxLocals = 4 ∧ s.vm.findClass R_law = some m.cls ∧ (∀ w ∈ lw_tbl, w.before #[Value.ref b] s = true) ∧ va_X b L xs s s.heap ∧ b < s.heap.size ∧ meth.locks = false ∧ (Jvm.Cond.and given_1 narrow_1).before #[Value.ref b] s = true
theorem lg_refl {x y : Int64} (h : x = y) : lg_cmp x y = 0 := by subst h; simp [lg_cmp]
def sx_write (fu : Nat) (Rl : Nat → (Nat → ob_T) → Prop) : Prop := ∀ (n : Nat) (z : Nat → ob_T) (p1 : Int32) (p2 : Int64), n < 512 → Rl n z → ∃ (R5 : Int32 × ob_T) (R6 : Int32 × ob_T), mX5_write fu (z 0) (z 1) p1 p2 = some R5 ∧ mX6_write fu (z 11) p1 p2 = some R6 ∧ R5.1 = R6.1 ∧ Rl (n + 1) (zu (zu z 1 R5.2) 11 R6.2)
def sx_wipe (fu : Nat) (Rl : Nat → (Nat → ob_T) → Prop) : Prop := ∀ (n : Nat) (z : Nat → ob_T), n < 512 → Rl n z → ∃ (R5 : Int32 × ob_T) (R6 : Int32 × ob_T), mX5_wipe fu (z 0) (z 1) = some R5 ∧ mX6_wipe fu (z 11) = some R6 ∧ R5.1 = R6.1 ∧ Rl (n + 1) (zu (zu z 1 R5.2) 11 R6.2)
def sx_fault (fu : Nat) (Rl : Nat → (Nat → ob_T) → Prop) : Prop := ∀ (n : Nat) (z : Nat → ob_T), n < 512 → Rl n z → ∃ (R5 : Int32 × ob_T × ob_T × ob_T) (R6 : Int32 × ob_T), mX5_fault fu (z 0) (z 1) (z 2) (z 3) (z 4) = some R5 ∧ mX6_fault fu (z 11) = some R6 ∧ R5.1 = R6.1 ∧ Rl (n + 1) (zu (zu (zu (zu z 2 R5.2.1) 3 R5.2.2.1) 4 R5.2.2.2) 11 R6.2)
def sx_lay (fu : Nat) (Rl : Nat → (Nat → ob_T) → Prop) : Prop := ∀ (n : Nat) (z : Nat → ob_T), n < 512 → Rl n z → ∃ (R5 : Int32 × ob_T × ob_T × ob_T × ob_T × ob_T × ob_T) (R6 : Int32 × ob_T), mX5_lay fu (z 0) (z 1) (z 2) (z 3) (z 4) (z 7) (z 6) = some R5 ∧ mX6_lay fu (z 11) = some R6 ∧ R5.1 = R6.1 ∧ Rl (n + 1) (zu (zu (zu (zu (zu (zu (zu z 0 R5.2.1) 2 R5.2.2.1) 3 R5.2.2.2.1) 4 R5.2.2.2.2.1) 7 R5.2.2.2.2.2.1) 6 R5.2.2.2.2.2.2) 11 R6.2)
def sx_realm (fu : Nat) (Rl : Nat → (Nat → ob_T) → Prop) : Prop := ∀ (n : Nat) (z : Nat → ob_T) (p1 : Int32) (p2 : Int32), n < 512 → Rl n z → ∃ (R5 : Int64) (R6 : Int64), mX5_realm fu (z 0) (z 7) p1 p2 = some R5 ∧ mX6_realm fu (z 11) p1 p2 = some R6 ∧ R5 = R6 ∧ Rl (n + 1) z
def sx_market (fu : Nat) (Rl : Nat → (Nat → ob_T) → Prop) : Prop := ∀ (n : Nat) (z : Nat → ob_T) (p1 : Int32), n < 512 → Rl n z → ∃ (R5 : Int64) (R6 : Int64), mX5_market fu (z 0) (z 7) p1 = some R5 ∧ mX6_market fu (z 11) p1 = some R6 ∧ R5 = R6 ∧ Rl (n + 1) z
def sx_moves (fu : Nat) (Rl : Nat → (Nat → ob_T) → Prop) : Prop := ∀ (n : Nat) (z : Nat → ob_T) (p1 : Int32), n < 512 → Rl n z → ∃ (R5 : Int32) (R6 : Int32), mX5_moves fu (z 0) (z 7) p1 = some R5 ∧ mX6_moves fu (z 11) p1 = some R6 ∧ R5 = R6 ∧ Rl (n + 1) z
def sx_ends (fu : Nat) (Rl : Nat → (Nat → ob_T) → Prop) : Prop := ∀ (n : Nat) (z : Nat → ob_T) (p1 : Int32) (p2 : Int32), n < 512 → Rl n z → ∃ (R5 : Int32) (R6 : Int32), mX5_ends fu (z 0) (z 7) p1 p2 = some R5 ∧ mX6_ends fu (z 11) p1 p2 = some R6 ∧ R5 = R6 ∧ Rl (n + 1) z
def sx_held (fu : Nat) (Rl : Nat → (Nat → ob_T) → Prop) : Prop := ∀ (n : Nat) (z : Nat → ob_T), n < 512 → Rl n z → ∃ (R5 : Int32) (R6 : Int32), mX5_held fu (z 0) (z 7) = some R5 ∧ mX6_held fu (z 11) = some R6 ∧ R5 = R6 ∧ Rl (n + 1) z
def sx_year (fu : Nat) (Rl : Nat → (Nat → ob_T) → Prop) : Prop := ∀ (n : Nat) (z : Nat → ob_T), n < 512 → Rl n z → ∃ (R5 : Int32 × ob_T × ob_T) (R6 : Int32 × ob_T), mX5_year fu (z 0) (z 5) (z 7) (z 6) = some R5 ∧ mX6_year fu (z 11) = some R6 ∧ R5.1 = R6.1 ∧ Rl (n + 1) (zu (zu (zu z 5 R5.2.1) 7 R5.2.2) 11 R6.2)
def sx_rest (fu : Nat) (Rl : Nat → (Nat → ob_T) → Prop) : Prop := ∀ (n : Nat) (z : Nat → ob_T), n < 512 → Rl n z → ∃ (R5 : Int32 × ob_T × ob_T × ob_T) (R6 : Int32 × ob_T), mX5_rest fu (z 0) (z 5) (z 7) (z 8) = some R5 ∧ mX6_rest fu (z 11) = some R6 ∧ R5.1 = R6.1 ∧ Rl (n + 1) (zu (zu (zu (zu z 5 R5.2.1) 7 R5.2.2.1) 8 R5.2.2.2) 11 R6.2)
def sx_gone (fu : Nat) (Rl : Nat → (Nat → ob_T) → Prop) : Prop := ∀ (n : Nat) (z : Nat → ob_T) (p1 : Int32) (p2 : Int32) (p3 : Int32), n < 512 → Rl n z → ∃ (R5 : Int32 × ob_T × ob_T) (R6 : Int32 × ob_T), mX5_gone fu (z 0) (z 5) (z 7) (z 8) (z 6) p1 p2 p3 = some R5 ∧ mX6_gone fu (z 11) p1 p2 p3 = some R6 ∧ R5.1 = R6.1 ∧ Rl (n + 1) (zu (zu (zu z 5 R5.2.1) 8 R5.2.2) 11 R6.2)
def sx_stopped (fu : Nat) (Rl : Nat → (Nat → ob_T) → Prop) : Prop := ∀ (n : Nat) (z : Nat → ob_T) (p1 : Int32) (p2 : Int32), n < 512 → Rl n z → ∃ (R5 : Int32 × ob_T × ob_T) (R6 : Int32 × ob_T), mX5_stopped fu (z 0) (z 5) (z 7) (z 8) (z 6) p1 p2 = some R5 ∧ mX6_stopped fu (z 11) p1 p2 = some R6 ∧ R5.1 = R6.1 ∧ Rl (n + 1) (zu (zu (zu z 5 R5.2.1) 8 R5.2.2) 11 R6.2)
def sx_free (fu : Nat) (Rl : Nat → (Nat → ob_T) → Prop) : Prop := ∀ (n : Nat) (z : Nat → ob_T) (p1 : Int32), n < 512 → Rl n z → ∃ (R5 : Int32 × ob_T × ob_T) (R6 : Int32 × ob_T), mX5_free fu (z 0) (z 5) (z 7) (z 8) (z 6) p1 = some R5 ∧ mX6_free fu (z 11) p1 = some R6 ∧ R5.1 = R6.1 ∧ Rl (n + 1) (zu (zu (zu z 5 R5.2.1) 8 R5.2.2) 11 R6.2)
def sx_ahead (fu : Nat) (Rl : Nat → (Nat → ob_T) → Prop) : Prop := ∀ (n : Nat) (z : Nat → ob_T) (p1 : Int32), n < 512 → Rl n z → ∃ (R5 : Int32 × ob_T × ob_T) (R6 : Int32 × ob_T), mX5_ahead fu (z 0) (z 5) (z 7) (z 8) (z 6) p1 = some R5 ∧ mX6_ahead fu (z 11) p1 = some R6 ∧ R5.1 = R6.1 ∧ Rl (n + 1) (zu (zu (zu z 5 R5.2.1) 8 R5.2.2) 11 R6.2)
def sx_debt (fu : Nat) (Rl : Nat → (Nat → ob_T) → Prop) : Prop := ∀ (n : Nat) (z : Nat → ob_T) (p1 : Int32) (p2 : Int32) (p3 : Int32), n < 512 → Rl n z → ∃ (R5 : Int32) (R6 : Int32), mX5_debt fu (z 0) (z 7) p1 p2 p3 = some R5 ∧ mX6_debt fu (z 11) p1 p2 p3 = some R6 ∧ R5 = R6 ∧ Rl (n + 1) z
def sx_pact (fu : Nat) (Rl : Nat → (Nat → ob_T) → Prop) : Prop := ∀ (n : Nat) (z : Nat → ob_T) (p1 : Int32) (p2 : Int32) (p3 : Int32), n < 512 → Rl n z → ∃ (R5 : Int32 × ob_T × ob_T) (R6 : Int32 × ob_T), mX5_pact fu (z 0) (z 5) (z 7) (z 8) p1 p2 p3 = some R5 ∧ mX6_pact fu (z 11) p1 p2 p3 = some R6 ∧ R5.1 = R6.1 ∧ Rl (n + 1) (zu (zu (zu z 5 R5.2.1) 8 R5.2.2) 11 R6.2)
def sx_fewest (fu : Nat) (Rl : Nat → (Nat → ob_T) → Prop) : Prop := ∀ (n : Nat) (z : Nat → ob_T) (p1 : Int32), n < 512 → Rl n z → ∃ (R5 : Int32 × ob_T × ob_T) (R6 : Int32 × ob_T), mX5_fewest fu (z 0) (z 5) (z 7) (z 8) p1 = some R5 ∧ mX6_fewest fu (z 11) p1 = some R6 ∧ R5.1 = R6.1 ∧ Rl (n + 1) (zu (zu (zu z 5 R5.2.1) 8 R5.2.2) 11 R6.2)
def sx_bought (fu : Nat) (Rl : Nat → (Nat → ob_T) → Prop) : Prop := ∀ (n : Nat) (z : Nat → ob_T) (p1 : Int32) (p2 : Int32), n < 512 → Rl n z → ∃ (R5 : Int32 × ob_T × ob_T) (R6 : Int32 × ob_T), mX5_bought fu (z 0) (z 5) (z 7) (z 8) p1 p2 = some R5 ∧ mX6_bought fu (z 11) p1 p2 = some R6 ∧ R5.1 = R6.1 ∧ Rl (n + 1) (zu (zu (zu z 5 R5.2.1) 8 R5.2.2) 11 R6.2)
def sx_corner (fu : Nat) (Rl : Nat → (Nat → ob_T) → Prop) : Prop := ∀ (n : Nat) (z : Nat → ob_T) (p1 : Int32), n < 512 → Rl n z → ∃ (R5 : Int32 × ob_T × ob_T) (R6 : Int32 × ob_T), mX5_corner fu (z 0) (z 5) (z 7) (z 8) p1 = some R5 ∧ mX6_corner fu (z 11) p1 = some R6 ∧ R5.1 = R6.1 ∧ Rl (n + 1) (zu (zu (zu z 5 R5.2.1) 8 R5.2.2) 11 R6.2)
def sx_move (fu : Nat) (Rl : Nat → (Nat → ob_T) → Prop) : Prop := ∀ (n : Nat) (z : Nat → ob_T) (p1 : Int32) (p2 : Int32), n < 512 → Rl n z → ∃ (R5 : Int32 × ob_T) (R6 : Int32 × ob_T), mX5_move fu (z 0) (z 7) p1 p2 = some R5 ∧ mX6_move fu (z 11) p1 p2 = some R6 ∧ R5.1 = R6.1 ∧ Rl (n + 1) (zu (zu z 7 R5.2) 11 R6.2)
def sx_melted (fu : Nat) (Rl : Nat → (Nat → ob_T) → Prop) : Prop := ∀ (n : Nat) (z : Nat → ob_T), n < 512 → Rl n z → ∃ (R5 : Int32) (R6 : Int32), mX5_melted fu (z 0) (z 7) = some R5 ∧ mX6_melted fu (z 11) = some R6 ∧ R5 = R6 ∧ Rl (n + 1) z
def sx_keep (fu : Nat) (Rl : Nat → (Nat → ob_T) → Prop) : Prop := ∀ (n : Nat) (z : Nat → ob_T), n < 512 → Rl n z → ∃ (R5 : Int32 × ob_T × ob_T × ob_T) (R6 : Int32 × ob_T), mX5_keep fu (z 0) (z 7) (z 9) (z 10) = some R5 ∧ mX6_keep fu (z 11) = some R6 ∧ R5.1 = R6.1 ∧ Rl (n + 1) (zu (zu (zu (zu z 0 R5.2.1) 9 R5.2.2.1) 10 R5.2.2.2) 11 R6.2)
def sx_back (fu : Nat) (Rl : Nat → (Nat → ob_T) → Prop) : Prop := ∀ (n : Nat) (z : Nat → ob_T), n < 512 → Rl n z → ∃ (R5 : Int32 × ob_T × ob_T) (R6 : Int32 × ob_T), mX5_back fu (z 0) (z 7) (z 9) (z 10) = some R5 ∧ mX6_back fu (z 11) = some R6 ∧ R5.1 = R6.1 ∧ Rl (n + 1) (zu (zu (zu z 0 R5.2.1) 7 R5.2.2) 11 R6.2)
def sx_count (fu : Nat) (Rl : Nat → (Nat → ob_T) → Prop) : Prop := ∀ (n : Nat) (z : Nat → ob_T) (p1 : Int32), n < 512 → Rl n z → ∃ (R5 : Int32) (R6 : Int32), mX5_count fu (z 0) (z 7) (z 1) p1 = some R5 ∧ mX6_count fu (z 11) p1 = some R6 ∧ R5 = R6 ∧ Rl (n + 1) z
