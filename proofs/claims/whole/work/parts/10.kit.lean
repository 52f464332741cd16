/-- what an object holds: its int fields and arrays, its long ones, by the field's number and the place -/
abbrev ob_T : Type := (Nat → Nat → Int32) × (Nat → Nat → Int64)
def ob_I (w : ob_T) (f : Nat) (g : Nat → Int32) : ob_T := (fun k => if k = f then g else w.1 k, w.2)
def ob_L (w : ob_T) (f : Nat) (g : Nat → Int64) : ob_T := (w.1, fun k => if k = f then g else w.2 k)
abbrev tyL (cy : Nat → ClassId) : List (ClassId × FieldType) := [(cy 0, .int), (cy 1, .long), (cy 2, .byte), (cy 3, .object RX4)]
/-- Mines -/
def o_X0 (cy : Nat → ClassId) (h : Nat) (a : Nat → Nat) (w : ob_T) : va_W := [(h, .inr (0, [.ref (a 0), .ref (a 1), .ref (a 2)])), (a 0, .inl (cy 0, 100, .inl (w.1 0))), (a 1, .inl (cy 0, 100, .inl (w.1 1))), (a 2, .inl (cy 0, 100, .inl (w.1 2)))]
/-- Mover -/
def o_X1 (cy : Nat → ClassId) (h : Nat) (a : Nat → Nat) (w : ob_T) : va_W := [(h, .inr (1, [.ref (a 0), .ref (a 1)])), (a 0, .inl (cy 0, 8, .inl (w.1 0))), (a 1, .inl (cy 1, 8, .inr (.inl (w.2 1))))]
/-- Reader -/
def o_X2 (cy : Nat → ClassId) (h : Nat) (a : Nat → Nat) (w : ob_T) : va_W := [(h, .inr (2, [.ref (a 0), .ref (a 1), .ref (a 2), .int (w.1 3 0)])), (a 2, .inl (cy 0, 7, .inl (w.1 2)))]
/-- Text -/
def o_X3 (cy : Nat → ClassId) (h : Nat) (a : Nat → Nat) (w : ob_T) : va_W := [(h, .inr (3, [.ref (a 0), .int (w.1 1 0)])), (a 0, .inl (cy 2, 400, .inl (w.1 0)))]
/-- World -/
def o_X4 (cy : Nat → ClassId) (h : Nat) (a : Nat → Nat) (w : ob_T) : va_W := [(h, .inr (4, [.ref (a 0), .ref (a 1), .ref (a 2), .ref (a 3), .ref (a 4), .ref (a 5), .ref (a 6), .ref (a 7), .ref (a 8), .int (w.1 9 0), .int (w.1 10 0), .int (w.1 11 0), .long (w.2 12 0), .long (w.2 13 0), .int (w.1 14 0), .int (w.1 15 0), .int (w.1 16 0)])), (a 0, .inl (cy 0, 8, .inl (w.1 0))), (a 1, .inl (cy 0, 8, .inl (w.1 1))), (a 2, .inl (cy 0, 8, .inl (w.1 2))), (a 3, .inl (cy 0, 8, .inl (w.1 3))), (a 4, .inl (cy 0, 8, .inl (w.1 4))), (a 5, .inl (cy 0, 8, .inl (w.1 5))), (a 6, .inl (cy 0, 8, .inl (w.1 6))), (a 7, .inl (cy 1, 8, .inr (.inl (w.2 7)))), (a 8, .inl (cy 1, 8, .inr (.inl (w.2 8))))]
/-- TwoMetals -/
def o_X5 (cy : Nat → ClassId) (h : Nat) (a : Nat → Nat) (w : ob_T) : va_W := [(h, .inr (5, [.ref (a 0), .ref (a 1), .ref (a 2), .ref (a 3), .ref (a 4), .ref (a 5), .ref (a 6), .int (w.1 7 0)])), (a 6, .inl (cy 3, 2, .inr (.inr (.inr (.inr (fun j => some (a (10 + j))))))))]
/-- TwoMetalsModel -/
def o_X6 (cy : Nat → ClassId) (h : Nat) (a : Nat → Nat) (w : ob_T) : va_W := [(h, .inr (6, [.int (w.1 0 0), .ref (a 1), .ref (a 2), .ref (a 3), .ref (a 4), .ref (a 5), .ref (a 6), .int (w.1 7 0), .int (w.1 8 0), .ref (a 9), .ref (a 10)])), (a 1, .inl (cy 0, 400, .inl (w.1 1))), (a 2, .inl (cy 1, 360, .inr (.inl (w.2 2)))), (a 3, .inl (cy 1, 15, .inr (.inl (w.2 3)))), (a 4, .inl (cy 0, 2, .inl (w.1 4))), (a 5, .inl (cy 0, 2, .inl (w.1 5))), (a 6, .inl (cy 0, 360, .inl (w.1 6))), (a 9, .inl (cy 0, 7, .inl (w.1 9))), (a 10, .inl (cy 0, 8, .inl (w.1 10)))]
/-- an array of ints by itself -/
def o_X7 (cy : Nat → ClassId) (n : Nat) (h : Nat) (w : ob_T) : va_W := [(h, .inl (cy 0, n, .inl (w.1 0)))]
/-- a number or a state gets a name -/
def bnd {α β : Type} (v : α) (f : α → Option β) : Option β := f v
theorem bn_at {α β : Type} {v x : α} {f : α → Option β} {R : β} (e : x = v) (h : bnd v f = some R) : f x = some R := by subst e; exact h
theorem bn_ob {α β : Type} {v : α} {f : α → Option β} {R : β} {P : α → Prop} (h : bnd v f = some R) (hP : P v) : ∃ x, P x ∧ f x = some R := ⟨v, hP, h⟩
theorem bn_call {α β : Type} {x : Option α} {f : α → Option β} {R : β} (h : Option.bind x f = some R) : ∃ r, x = some r ∧ f r = some R := Option.bind_eq_some_iff.mp h
theorem ck_in {i : Int32} {n : Nat} {β : Type} {x : Option β} {R : β} (h : (if (i < 0 ∨ n ≤ i.toNatClampNeg) then none else x) = some R) : vp_in i n ∧ x = some R := by
  by_cases c : (i < 0 ∨ n ≤ i.toNatClampNeg)
  · rw [if_pos c] at h; cases h
  · rw [if_neg c] at h; exact ⟨c, h⟩
theorem ck_dv {y : Int64} {β : Type} {x : Option β} {R : β} (h : (if y = 0 then none else x) = some R) : ¬ y = 0 ∧ x = some R := by
  by_cases c : y = 0
  · rw [if_pos c] at h; cases h
  · rw [if_neg c] at h; exact ⟨c, h⟩
theorem ck_dvi {y : Int32} {β : Type} {x : Option β} {R : β} (h : (if y = 0 then none else x) = some R) : ¬ y = 0 ∧ x = some R := by
  by_cases c : y = 0
  · rw [if_pos c] at h; cases h
  · rw [if_neg c] at h; exact ⟨c, h⟩
theorem ck_zb {v : Int32} {β : Type} {x : Option β} {R : β} (h : (if v &&& 1 = v then x else none) = some R) : narrow .boolean (.int v) = .int v ∧ x = some R := by
  by_cases c : v &&& 1 = v
  · rw [if_pos c] at h; exact ⟨by simp [narrow, c], h⟩
  · rw [if_neg c] at h; cases h
theorem va_D_adr {A : Nat → Prop} {ws ws' : va_W} (hD : va_D A ws) (h : ws'.map Prod.fst = ws.map Prod.fst) : va_D A ws' := by
  have at' : ∀ (i : Nat) (p : Nat × va_E), ws'[i]? = some p → ∃ p0 : Nat × va_E, ws[i]? = some p0 ∧ p0.1 = p.1 := by
    intro i p hp
    have h1 : (ws'.map Prod.fst)[i]? = some p.1 := by rw [List.getElem?_map, hp]; rfl
    rw [h, List.getElem?_map] at h1
    cases hq : ws[i]? with
    | none => rw [hq] at h1; cases h1
    | some q => rw [hq] at h1; exact ⟨q, rfl, Option.some.inj h1⟩
  refine ⟨fun i j p q hp hq e => ?_, fun k q hq => ?_⟩
  · obtain ⟨p0, g1, g2⟩ := at' i p hp
    obtain ⟨q0, g3, g4⟩ := at' j q hq
    exact hD.1 i j p0 q0 g1 g3 (by rw [g2, g4]; exact e)
  · obtain ⟨q0, g3, g4⟩ := at' k q hq
    rw [← g4]
    exact hD.2 k q0 g3
abbrev rmN (F Lc : Nat) : Room := { frames := F, cells := 0, slots := 0, locals := Lc }
def cPre (dC : Nat → ClassId) (dI : Nat → Nat → Nat) (cy : Nat → ClassId) (ws : va_W) (sz : Nat) (U : State) : Prop := U.heap.size = sz ∧ va_P (dC, dI) vwCl ws U.heap ∧ va_K (dC, dI) vwCl (tyL cy) U ∧ va_D (fun _ => True) ws
def cPost (dC : Nat → ClassId) (dI : Nat → Nat → Nat) (cy : Nat → ClassId) (ws0 ws1 : va_W) (sz : Nat) (t : State) : Prop := va_P (dC, dI) vwCl ws1 t.heap ∧ va_K (dC, dI) vwCl (tyL cy) t ∧ va_D (va_A ws0 sz) ws1
theorem cPre_blind {dC : Nat → ClassId} {dI : Nat → Nat → Nat} {cy : Nat → ClassId} {av : List Value} {ws : va_W} {sz : Nat} : FrameBlind (va_Pc av (cPre dC dI cy ws sz)) := by
  intro a U g mk q
  obtain ⟨q0, q1, qP, qK, qD⟩ := q
  exact ⟨q0, q1, qP, va_K.moved (u := U) (U := U.calling g mk a) (Vm.Alike.refl U.vm) qK, qD⟩
section MT
variable {l : Launch} {dC : Nat → ClassId} {dI : Nat → Nat → Nat} {cy : Nat → ClassId} {y : MethodName} {ws ws' : List Cond} {F Lc : Nat} {cc : ByteArray} {maxL : Nat} {av : List Value} {ws0 ws1 : va_W} {sz : Nat}
theorem mt_i {R0 : Int32} (hy : plainName y.cls = true) (hw : ws = Cond.code y cc maxL (some .int) :: ws') (hlen : (lg_sl av).length ≤ maxL) (hadr : ws1.map Prod.fst = ws0.map Prod.fst)
    (body : ∀ (p : Program) (e : Env) (s : State) (m : MethodId) (below : List Frame) (meth : Method) (c : Code) (Q : State → Prop) (A : Nat → Prop), p.tables.exec = Jvm.exec → c.code = cc → c.maxLocals = maxL → s.vm.findClass y.cls = some m.cls → (∀ w ∈ ws, w.before av.toArray s = true) → va_K (dC, dI) vwCl (tyL cy) s → (∀ q : Nat, s.heap.size ≤ q → A q) → va_D A ws0 → va_P (dC, dI) vwCl ws0 s.heap →
      (∀ (pc : Nat) (ls : Array Slot) (H : Heap) (locs : List Loc), decode cc pc = .ok (.ireturn, 1) → va_P (dC, dI) vwCl ws1 H → va_S A s.heap H locs → W p l e (rmN F Lc) s m av.toArray below meth c H locs 0 0 Q (F0 m pc ls [.int R0])) →
      ∀ (ls : Array Slot), lv_has ls maxL (lv_args 0 av) → W p l e (rmN F Lc) s m av.toArray below meth c s.heap [] 0 0 Q (F0 m 0 ls [])) :
    Met l y ws (rmN F Lc) (va_Pc av (cPre dC dI cy ws0 sz)) (va_Qi (fun (r : Int32) (_ : Unit) => r = R0) (fun _ => cPost dC dI cy ws0 ws1 sz) (va_A ws0 sz)) 0 0 (va_A ws0 sz) := by
  refine Met.ofW (cc := cc) (maxL := maxL) (ret := some .int) hy hw ?_
  intro p e s m args below meth c s₁ B hml hv
  obtain ⟨rfl, hsz, hP, hK, hD0⟩ := hv
  have hts := atoms_spec (ws := ws) B.pre
  have hown : s.vm.findClass y.cls = some m.cls := findClass_of_methodNamed B.named
  subst hsz
  have hD := hD0.self (sz := s.heap.size)
  have hl := lv_entry av (n := maxL) hlen
  rw [lg_entry_eq]
  refine body p e s m below meth c _ (va_A ws0 s.heap.size) B.exec B.bytes hml hown hts hK (fun q h => Or.inr h) hD hP ?_ _ hl
  intro pc ls H locs hdg hP1 hS
  exact W.iret B.exec B.bytes B.returns (fun t ht hW => ⟨⟨R0, (), rfl, rfl, by rw [ht]; exact hP1, va_K.moved hW.alike hK, va_D_adr hD hadr⟩, hS.F ht⟩) hS.2.2 hdg B.notSynchronized
theorem mt_z {R0 : Int32} (hy : plainName y.cls = true) (hw : ws = Cond.code y cc maxL (some .boolean) :: ws') (hlen : (lg_sl av).length ≤ maxL) (hadr : ws1.map Prod.fst = ws0.map Prod.fst)
    (body : ∀ (p : Program) (e : Env) (s : State) (m : MethodId) (below : List Frame) (meth : Method) (c : Code) (Q : State → Prop) (A : Nat → Prop), p.tables.exec = Jvm.exec → c.code = cc → c.maxLocals = maxL → s.vm.findClass y.cls = some m.cls → (∀ w ∈ ws, w.before av.toArray s = true) → va_K (dC, dI) vwCl (tyL cy) s → (∀ q : Nat, s.heap.size ≤ q → A q) → va_D A ws0 → va_P (dC, dI) vwCl ws0 s.heap →
      (∀ (pc : Nat) (ls : Array Slot) (H : Heap) (locs : List Loc), decode cc pc = .ok (.ireturn, 1) → narrow .boolean (.int R0) = .int R0 → va_P (dC, dI) vwCl ws1 H → va_S A s.heap H locs → W p l e (rmN F Lc) s m av.toArray below meth c H locs 0 0 Q (F0 m pc ls [.int R0])) →
      ∀ (ls : Array Slot), lv_has ls maxL (lv_args 0 av) → W p l e (rmN F Lc) s m av.toArray below meth c s.heap [] 0 0 Q (F0 m 0 ls [])) :
    Met l y ws (rmN F Lc) (va_Pc av (cPre dC dI cy ws0 sz)) (va_Qi (fun (r : Int32) (_ : Unit) => r = R0) (fun _ => cPost dC dI cy ws0 ws1 sz) (va_A ws0 sz)) 0 0 (va_A ws0 sz) := by
  refine Met.ofW (cc := cc) (maxL := maxL) (ret := some .boolean) hy hw ?_
  intro p e s m args below meth c s₁ B hml hv
  obtain ⟨rfl, hsz, hP, hK, hD0⟩ := hv
  have hts := atoms_spec (ws := ws) B.pre
  have hown : s.vm.findClass y.cls = some m.cls := findClass_of_methodNamed B.named
  subst hsz
  have hD := hD0.self (sz := s.heap.size)
  have hl := lv_entry av (n := maxL) hlen
  rw [lg_entry_eq]
  refine body p e s m below meth c _ (va_A ws0 s.heap.size) B.exec B.bytes hml hown hts hK (fun q h => Or.inr h) hD hP ?_ _ hl
  intro pc ls H locs hdg hnar hP1 hS
  exact W.zret B.exec B.bytes B.returns hnar (fun t ht hW => ⟨⟨R0, (), rfl, rfl, by rw [ht]; exact hP1, va_K.moved hW.alike hK, va_D_adr hD hadr⟩, hS.F ht⟩) hS.2.2 hdg B.notSynchronized
theorem mt_l {R0 : Int64} (hy : plainName y.cls = true) (hw : ws = Cond.code y cc maxL (some .long) :: ws') (hlen : (lg_sl av).length ≤ maxL) (hadr : ws1.map Prod.fst = ws0.map Prod.fst)
    (body : ∀ (p : Program) (e : Env) (s : State) (m : MethodId) (below : List Frame) (meth : Method) (c : Code) (Q : State → Prop) (A : Nat → Prop), p.tables.exec = Jvm.exec → c.code = cc → c.maxLocals = maxL → s.vm.findClass y.cls = some m.cls → (∀ w ∈ ws, w.before av.toArray s = true) → va_K (dC, dI) vwCl (tyL cy) s → (∀ q : Nat, s.heap.size ≤ q → A q) → va_D A ws0 → va_P (dC, dI) vwCl ws0 s.heap →
      (∀ (pc : Nat) (ls : Array Slot) (H : Heap) (locs : List Loc), decode cc pc = .ok (.lreturn, 1) → va_P (dC, dI) vwCl ws1 H → va_S A s.heap H locs → W p l e (rmN F Lc) s m av.toArray below meth c H locs 0 0 Q (F0 m pc ls [.long R0])) →
      ∀ (ls : Array Slot), lv_has ls maxL (lv_args 0 av) → W p l e (rmN F Lc) s m av.toArray below meth c s.heap [] 0 0 Q (F0 m 0 ls [])) :
    Met l y ws (rmN F Lc) (va_Pc av (cPre dC dI cy ws0 sz)) (va_Ql (fun (r : Int64) (_ : Unit) => r = R0) (fun _ => cPost dC dI cy ws0 ws1 sz) (va_A ws0 sz)) 0 0 (va_A ws0 sz) := by
  refine Met.ofW (cc := cc) (maxL := maxL) (ret := some .long) hy hw ?_
  intro p e s m args below meth c s₁ B hml hv
  obtain ⟨rfl, hsz, hP, hK, hD0⟩ := hv
  have hts := atoms_spec (ws := ws) B.pre
  have hown : s.vm.findClass y.cls = some m.cls := findClass_of_methodNamed B.named
  subst hsz
  have hD := hD0.self (sz := s.heap.size)
  have hl := lv_entry av (n := maxL) hlen
  rw [lg_entry_eq]
  refine body p e s m below meth c _ (va_A ws0 s.heap.size) B.exec B.bytes hml hown hts hK (fun q h => Or.inr h) hD hP ?_ _ hl
  intro pc ls H locs hdg hP1 hS
  exact W.lret B.exec B.bytes B.returns (fun t ht hW => ⟨⟨R0, (), rfl, rfl, by rw [ht]; exact hP1, va_K.moved hW.alike hK, va_D_adr hD hadr⟩, hS.F ht⟩) hS.2.2 hdg B.notSynchronized
theorem mt_v (hy : plainName y.cls = true) (hw : ws = Cond.code y cc maxL none :: ws') (hlen : (lg_sl av).length ≤ maxL) (hadr : ws1.map Prod.fst = ws0.map Prod.fst)
    (body : ∀ (p : Program) (e : Env) (s : State) (m : MethodId) (below : List Frame) (meth : Method) (c : Code) (Q : State → Prop) (A : Nat → Prop), p.tables.exec = Jvm.exec → c.code = cc → c.maxLocals = maxL → s.vm.findClass y.cls = some m.cls → (∀ w ∈ ws, w.before av.toArray s = true) → va_K (dC, dI) vwCl (tyL cy) s → (∀ q : Nat, s.heap.size ≤ q → A q) → va_D A ws0 → va_P (dC, dI) vwCl ws0 s.heap →
      (∀ (pc : Nat) (ls : Array Slot) (H : Heap) (locs : List Loc), decode cc pc = .ok (.return_, 1) → va_P (dC, dI) vwCl ws1 H → va_S A s.heap H locs → W p l e (rmN F Lc) s m av.toArray below meth c H locs 0 0 Q (F0 m pc ls [])) →
      ∀ (ls : Array Slot), lv_has ls maxL (lv_args 0 av) → W p l e (rmN F Lc) s m av.toArray below meth c s.heap [] 0 0 Q (F0 m 0 ls [])) :
    Met l y ws (rmN F Lc) (va_Pc av (cPre dC dI cy ws0 sz)) (va_Qv (fun (_ : Unit) => True) (fun _ => cPost dC dI cy ws0 ws1 sz) (va_A ws0 sz)) 0 0 (va_A ws0 sz) := by
  refine Met.ofW (cc := cc) (maxL := maxL) (ret := none) hy hw ?_
  intro p e s m args below meth c s₁ B hml hv
  obtain ⟨rfl, hsz, hP, hK, hD0⟩ := hv
  have hts := atoms_spec (ws := ws) B.pre
  have hown : s.vm.findClass y.cls = some m.cls := findClass_of_methodNamed B.named
  subst hsz
  have hD := hD0.self (sz := s.heap.size)
  have hl := lv_entry av (n := maxL) hlen
  rw [lg_entry_eq]
  refine body p e s m below meth c _ (va_A ws0 s.heap.size) B.exec B.bytes hml hown hts hK (fun q h => Or.inr h) hD hP ?_ _ hl
  intro pc ls H locs hdg hP1 hS
  exact W.vret B.exec B.bytes B.returns (fun t ht hW => ⟨⟨(), rfl, trivial, by rw [ht]; exact hP1, va_K.moved hW.alike hK, va_D_adr hD hadr⟩, hS.F ht⟩) hS.2.2 hdg B.notSynchronized
end MT
section CA
variable {p : Program} {l : Launch} {e : Env} {R : Room} {s : State} {m : MethodId} {args : Array Value} {below : List Frame} {meth : Method} {c : Code} {H : Heap} {locs : List Loc} {cells slots : Nat} {Q : State → Prop}
variable {dC : Nat → ClassId} {dI : Nat → Nat → Nat} {cy : Nat → ClassId} {cc : ByteArray} {nL : Nat} {Ts : List Cond} {own : String} {A : Nat → Prop} {ws wc wr w1 wn : va_W}
variable {y : MethodName} {wsy : List Cond} {F Lc maxL index n b : Nat} {bytes : ByteArray} {ret : Option FieldType} {C : String} {As rest st : List Value} {ls : Array Slot} {pc : Nat}
theorem ca_vi {R0 : Int32} (S : CallFix p m c cc nL s args Ts own) (hK : va_K (dC, dI) vwCl (tyL cy) s) (hA : ∀ q : Nat, s.heap.size ≤ q → A q) (hD : va_D A ws) (hP : va_P (dC, dI) vwCl ws H) (hS : va_S A s.heap H locs)
    (isC isR perm : List Nat) (hM : ∀ sz, Met l y wsy (rmN F Lc) (va_Pc (.ref b :: As) (cPre dC dI cy wc sz)) (va_Qi (fun (r : Int32) (_ : Unit) => r = R0) (fun _ => cPost dC dI cy wc w1 sz) (va_A wc sz)) 0 0 (va_A wc sz))
    (hC : isC.map (fun i => ws[i]?) = wc.map some) (hR : isR.map (fun i => ws[i]?) = wr.map some) (hnC : va_nd isC = true) (hn : va_nd isR = true) (hdis : ∀ i ∈ isR, i ∉ isC) (hpm : perm.filterMap (fun i => (wr ++ w1)[i]?) = wn)
    (cw : CallW R s args own C index y bytes maxL ret wsy (rmN F Lc) 0 0 n) (ci q0 : Nat) {q : vw_C} {fs : List Value} (hcl : vwCl[ci]? = some q) (hq : q.1 = C) (hrc : wc[q0]? = some (b, .inr (ci, fs)))
    (hlen : As.length = n) (hls : ls.size = nL) (hst : st = As.reverse ++ .ref b :: rest) (hW : (rest.map fun v => v.category).sum ≤ 8) (hdg : decode cc pc = .ok (.invokevirtual index, 3)) (hf : cells ≤ R.cells ∧ slots ≤ R.slots)
    (kk : ∀ (H1 : Heap) (locs1 : List Loc), va_P (dC, dI) vwCl wn H1 → va_S A s.heap H1 locs1 → W p l e R s m args below meth c H1 locs1 cells slots Q (F0 m (pc + 3) ls (.int R0 :: rest))) : W p l e R s m args below meth c H locs cells slots Q (F0 m pc ls st) := by
  subst hq
  have hDc : va_D A wc := hD.sub isC hnC hC
  have hPc : va_P (dC, dI) vwCl wc H := fun k x hx => by
    have h1 : (isC.map (fun i => ws[i]?))[k]? = some (some x) := by rw [hC, List.getElem?_map, hx]; rfl
    rw [List.getElem?_map] at h1
    cases hi : isC[k]? with
    | none => rw [hi] at h1; cases h1
    | some i => rw [hi] at h1; exact hP i x (Option.some.inj h1)
  have hFc := va_free (wc := wc) hD hS hA isC hC
  refine va_calli (va_runV (As := As) (rest := rest) S (hM H.size) cw ⟨cPre_blind, va_recv hK hPc hcl hrc, fun U hU hW => ⟨rfl, by rw [hU], by rw [hU]; exact hPc, va_K.moved hW.alike hK, hDc.weaken (fun _ _ _ _ => trivial)⟩⟩ rfl hlen hls hst (lv_room hW) hdg hf) hS (fun q _ h => hFc q h) hFc (fun r u t H1 locs ht hvm hw hB hz1 hk1 hS => ?_)
  obtain ⟨hP1, hK1, hD1⟩ := hB
  rw [ht] at hP1
  obtain ⟨hP2, hD2⟩ := va_join (wr := wr) (w1 := w1) hP hD isC isR hC hR hn hdis hk1 hFc hP1 hD1
  subst hw
  exact kk H1 locs (hP2.sub perm hpm) hS
theorem ca_vl {R0 : Int64} (S : CallFix p m c cc nL s args Ts own) (hK : va_K (dC, dI) vwCl (tyL cy) s) (hA : ∀ q : Nat, s.heap.size ≤ q → A q) (hD : va_D A ws) (hP : va_P (dC, dI) vwCl ws H) (hS : va_S A s.heap H locs)
    (isC isR perm : List Nat) (hM : ∀ sz, Met l y wsy (rmN F Lc) (va_Pc (.ref b :: As) (cPre dC dI cy wc sz)) (va_Ql (fun (r : Int64) (_ : Unit) => r = R0) (fun _ => cPost dC dI cy wc w1 sz) (va_A wc sz)) 0 0 (va_A wc sz))
    (hC : isC.map (fun i => ws[i]?) = wc.map some) (hR : isR.map (fun i => ws[i]?) = wr.map some) (hnC : va_nd isC = true) (hn : va_nd isR = true) (hdis : ∀ i ∈ isR, i ∉ isC) (hpm : perm.filterMap (fun i => (wr ++ w1)[i]?) = wn)
    (cw : CallW R s args own C index y bytes maxL ret wsy (rmN F Lc) 0 0 n) (ci q0 : Nat) {q : vw_C} {fs : List Value} (hcl : vwCl[ci]? = some q) (hq : q.1 = C) (hrc : wc[q0]? = some (b, .inr (ci, fs)))
    (hlen : As.length = n) (hls : ls.size = nL) (hst : st = As.reverse ++ .ref b :: rest) (hW : (rest.map fun v => v.category).sum ≤ 8) (hdg : decode cc pc = .ok (.invokevirtual index, 3)) (hf : cells ≤ R.cells ∧ slots ≤ R.slots)
    (kk : ∀ (H1 : Heap) (locs1 : List Loc), va_P (dC, dI) vwCl wn H1 → va_S A s.heap H1 locs1 → W p l e R s m args below meth c H1 locs1 cells slots Q (F0 m (pc + 3) ls (.long R0 :: rest))) : W p l e R s m args below meth c H locs cells slots Q (F0 m pc ls st) := by
  subst hq
  have hDc : va_D A wc := hD.sub isC hnC hC
  have hPc : va_P (dC, dI) vwCl wc H := fun k x hx => by
    have h1 : (isC.map (fun i => ws[i]?))[k]? = some (some x) := by rw [hC, List.getElem?_map, hx]; rfl
    rw [List.getElem?_map] at h1
    cases hi : isC[k]? with
    | none => rw [hi] at h1; cases h1
    | some i => rw [hi] at h1; exact hP i x (Option.some.inj h1)
  have hFc := va_free (wc := wc) hD hS hA isC hC
  refine va_calll (va_runV (As := As) (rest := rest) S (hM H.size) cw ⟨cPre_blind, va_recv hK hPc hcl hrc, fun U hU hW => ⟨rfl, by rw [hU], by rw [hU]; exact hPc, va_K.moved hW.alike hK, hDc.weaken (fun _ _ _ _ => trivial)⟩⟩ rfl hlen hls hst (lv_room hW) hdg hf) hS (fun q _ h => hFc q h) hFc (fun r u t H1 locs ht hvm hw hB hz1 hk1 hS => ?_)
  obtain ⟨hP1, hK1, hD1⟩ := hB
  rw [ht] at hP1
  obtain ⟨hP2, hD2⟩ := va_join (wr := wr) (w1 := w1) hP hD isC isR hC hR hn hdis hk1 hFc hP1 hD1
  subst hw
  exact kk H1 locs (hP2.sub perm hpm) hS
theorem ca_vv (S : CallFix p m c cc nL s args Ts own) (hK : va_K (dC, dI) vwCl (tyL cy) s) (hA : ∀ q : Nat, s.heap.size ≤ q → A q) (hD : va_D A ws) (hP : va_P (dC, dI) vwCl ws H) (hS : va_S A s.heap H locs)
    (isC isR perm : List Nat) (hM : ∀ sz, Met l y wsy (rmN F Lc) (va_Pc (.ref b :: As) (cPre dC dI cy wc sz)) (va_Qv (fun (_ : Unit) => True) (fun _ => cPost dC dI cy wc w1 sz) (va_A wc sz)) 0 0 (va_A wc sz))
    (hC : isC.map (fun i => ws[i]?) = wc.map some) (hR : isR.map (fun i => ws[i]?) = wr.map some) (hnC : va_nd isC = true) (hn : va_nd isR = true) (hdis : ∀ i ∈ isR, i ∉ isC) (hpm : perm.filterMap (fun i => (wr ++ w1)[i]?) = wn)
    (cw : CallW R s args own C index y bytes maxL ret wsy (rmN F Lc) 0 0 n) (ci q0 : Nat) {q : vw_C} {fs : List Value} (hcl : vwCl[ci]? = some q) (hq : q.1 = C) (hrc : wc[q0]? = some (b, .inr (ci, fs)))
    (hlen : As.length = n) (hls : ls.size = nL) (hst : st = As.reverse ++ .ref b :: rest) (hW : (rest.map fun v => v.category).sum ≤ 8) (hdg : decode cc pc = .ok (.invokevirtual index, 3)) (hf : cells ≤ R.cells ∧ slots ≤ R.slots)
    (kk : ∀ (H1 : Heap) (locs1 : List Loc), va_P (dC, dI) vwCl wn H1 → va_S A s.heap H1 locs1 → W p l e R s m args below meth c H1 locs1 cells slots Q (F0 m (pc + 3) ls rest)) : W p l e R s m args below meth c H locs cells slots Q (F0 m pc ls st) := by
  subst hq
  have hDc : va_D A wc := hD.sub isC hnC hC
  have hPc : va_P (dC, dI) vwCl wc H := fun k x hx => by
    have h1 : (isC.map (fun i => ws[i]?))[k]? = some (some x) := by rw [hC, List.getElem?_map, hx]; rfl
    rw [List.getElem?_map] at h1
    cases hi : isC[k]? with
    | none => rw [hi] at h1; cases h1
    | some i => rw [hi] at h1; exact hP i x (Option.some.inj h1)
  have hFc := va_free (wc := wc) hD hS hA isC hC
  refine va_callv (va_runV (As := As) (rest := rest) S (hM H.size) cw ⟨cPre_blind, va_recv hK hPc hcl hrc, fun U hU hW => ⟨rfl, by rw [hU], by rw [hU]; exact hPc, va_K.moved hW.alike hK, hDc.weaken (fun _ _ _ _ => trivial)⟩⟩ rfl hlen hls hst (lv_room hW) hdg hf) hS (fun q _ h => hFc q h) hFc (fun u t H1 locs ht hvm hw hB hz1 hk1 hS => ?_)
  obtain ⟨hP1, hK1, hD1⟩ := hB
  rw [ht] at hP1
  obtain ⟨hP2, hD2⟩ := va_join (wr := wr) (w1 := w1) hP hD isC isR hC hR hn hdis hk1 hFc hP1 hD1
  exact kk H1 locs (hP2.sub perm hpm) hS
theorem ca_si {R0 : Int32} (S : CallFix p m c cc nL s args Ts own) (hK : va_K (dC, dI) vwCl (tyL cy) s) (hA : ∀ q : Nat, s.heap.size ≤ q → A q) (hD : va_D A ws) (hP : va_P (dC, dI) vwCl ws H) (hS : va_S A s.heap H locs)
    (isC isR perm : List Nat) (hM : ∀ sz, Met l y wsy (rmN F Lc) (va_Pc As (cPre dC dI cy wc sz)) (va_Qi (fun (r : Int32) (_ : Unit) => r = R0) (fun _ => cPost dC dI cy wc w1 sz) (va_A wc sz)) 0 0 (va_A wc sz))
    (hC : isC.map (fun i => ws[i]?) = wc.map some) (hR : isR.map (fun i => ws[i]?) = wr.map some) (hnC : va_nd isC = true) (hn : va_nd isR = true) (hdis : ∀ i ∈ isR, i ∉ isC) (hpm : perm.filterMap (fun i => (wr ++ w1)[i]?) = wn)
    (cw : CallB R s args own index y bytes maxL ret wsy (rmN F Lc) 0 0 n ∧ (Cond.static y).before args s = true)
    (hlen : As.length = n) (hls : ls.size = nL) (hst : st = As.reverse ++ rest) (hW : (rest.map fun v => v.category).sum ≤ 8) (hdg : decode cc pc = .ok (.invokestatic index, 3)) (hf : cells ≤ R.cells ∧ slots ≤ R.slots)
    (kk : ∀ (H1 : Heap) (locs1 : List Loc), va_P (dC, dI) vwCl wn H1 → va_S A s.heap H1 locs1 → W p l e R s m args below meth c H1 locs1 cells slots Q (F0 m (pc + 3) ls (.int R0 :: rest))) : W p l e R s m args below meth c H locs cells slots Q (F0 m pc ls st) := by
  have hDc : va_D A wc := hD.sub isC hnC hC
  have hPc : va_P (dC, dI) vwCl wc H := fun k x hx => by
    have h1 : (isC.map (fun i => ws[i]?))[k]? = some (some x) := by rw [hC, List.getElem?_map, hx]; rfl
    rw [List.getElem?_map] at h1
    cases hi : isC[k]? with
    | none => rw [hi] at h1; cases h1
    | some i => rw [hi] at h1; exact hP i x (Option.some.inj h1)
  have hFc := va_free (wc := wc) hD hS hA isC hC
  refine va_calli (va_runS (As := As) (rest := rest) S (hM H.size) cw ⟨cPre_blind, fun U hU hW => ⟨rfl, by rw [hU], by rw [hU]; exact hPc, va_K.moved hW.alike hK, hDc.weaken (fun _ _ _ _ => trivial)⟩⟩ rfl hlen hls hst (lv_room hW) hdg hf) hS (fun q _ h => hFc q h) hFc (fun r u t H1 locs ht hvm hw hB hz1 hk1 hS => ?_)
  obtain ⟨hP1, hK1, hD1⟩ := hB
  rw [ht] at hP1
  obtain ⟨hP2, hD2⟩ := va_join (wr := wr) (w1 := w1) hP hD isC isR hC hR hn hdis hk1 hFc hP1 hD1
  subst hw
  exact kk H1 locs (hP2.sub perm hpm) hS
theorem ca_sl {R0 : Int64} (S : CallFix p m c cc nL s args Ts own) (hK : va_K (dC, dI) vwCl (tyL cy) s) (hA : ∀ q : Nat, s.heap.size ≤ q → A q) (hD : va_D A ws) (hP : va_P (dC, dI) vwCl ws H) (hS : va_S A s.heap H locs)
    (isC isR perm : List Nat) (hM : ∀ sz, Met l y wsy (rmN F Lc) (va_Pc As (cPre dC dI cy wc sz)) (va_Ql (fun (r : Int64) (_ : Unit) => r = R0) (fun _ => cPost dC dI cy wc w1 sz) (va_A wc sz)) 0 0 (va_A wc sz))
    (hC : isC.map (fun i => ws[i]?) = wc.map some) (hR : isR.map (fun i => ws[i]?) = wr.map some) (hnC : va_nd isC = true) (hn : va_nd isR = true) (hdis : ∀ i ∈ isR, i ∉ isC) (hpm : perm.filterMap (fun i => (wr ++ w1)[i]?) = wn)
    (cw : CallB R s args own index y bytes maxL ret wsy (rmN F Lc) 0 0 n ∧ (Cond.static y).before args s = true)
    (hlen : As.length = n) (hls : ls.size = nL) (hst : st = As.reverse ++ rest) (hW : (rest.map fun v => v.category).sum ≤ 8) (hdg : decode cc pc = .ok (.invokestatic index, 3)) (hf : cells ≤ R.cells ∧ slots ≤ R.slots)
    (kk : ∀ (H1 : Heap) (locs1 : List Loc), va_P (dC, dI) vwCl wn H1 → va_S A s.heap H1 locs1 → W p l e R s m args below meth c H1 locs1 cells slots Q (F0 m (pc + 3) ls (.long R0 :: rest))) : W p l e R s m args below meth c H locs cells slots Q (F0 m pc ls st) := by
  have hDc : va_D A wc := hD.sub isC hnC hC
  have hPc : va_P (dC, dI) vwCl wc H := fun k x hx => by
    have h1 : (isC.map (fun i => ws[i]?))[k]? = some (some x) := by rw [hC, List.getElem?_map, hx]; rfl
    rw [List.getElem?_map] at h1
    cases hi : isC[k]? with
    | none => rw [hi] at h1; cases h1
    | some i => rw [hi] at h1; exact hP i x (Option.some.inj h1)
  have hFc := va_free (wc := wc) hD hS hA isC hC
  refine va_calll (va_runS (As := As) (rest := rest) S (hM H.size) cw ⟨cPre_blind, fun U hU hW => ⟨rfl, by rw [hU], by rw [hU]; exact hPc, va_K.moved hW.alike hK, hDc.weaken (fun _ _ _ _ => trivial)⟩⟩ rfl hlen hls hst (lv_room hW) hdg hf) hS (fun q _ h => hFc q h) hFc (fun r u t H1 locs ht hvm hw hB hz1 hk1 hS => ?_)
  obtain ⟨hP1, hK1, hD1⟩ := hB
  rw [ht] at hP1
  obtain ⟨hP2, hD2⟩ := va_join (wr := wr) (w1 := w1) hP hD isC isR hC hR hn hdis hk1 hFc hP1 hD1
  subst hw
  exact kk H1 locs (hP2.sub perm hpm) hS
theorem ca_sv (S : CallFix p m c cc nL s args Ts own) (hK : va_K (dC, dI) vwCl (tyL cy) s) (hA : ∀ q : Nat, s.heap.size ≤ q → A q) (hD : va_D A ws) (hP : va_P (dC, dI) vwCl ws H) (hS : va_S A s.heap H locs)
    (isC isR perm : List Nat) (hM : ∀ sz, Met l y wsy (rmN F Lc) (va_Pc As (cPre dC dI cy wc sz)) (va_Qv (fun (_ : Unit) => True) (fun _ => cPost dC dI cy wc w1 sz) (va_A wc sz)) 0 0 (va_A wc sz))
    (hC : isC.map (fun i => ws[i]?) = wc.map some) (hR : isR.map (fun i => ws[i]?) = wr.map some) (hnC : va_nd isC = true) (hn : va_nd isR = true) (hdis : ∀ i ∈ isR, i ∉ isC) (hpm : perm.filterMap (fun i => (wr ++ w1)[i]?) = wn)
    (cw : CallB R s args own index y bytes maxL ret wsy (rmN F Lc) 0 0 n ∧ (Cond.static y).before args s = true)
    (hlen : As.length = n) (hls : ls.size = nL) (hst : st = As.reverse ++ rest) (hW : (rest.map fun v => v.category).sum ≤ 8) (hdg : decode cc pc = .ok (.invokestatic index, 3)) (hf : cells ≤ R.cells ∧ slots ≤ R.slots)
    (kk : ∀ (H1 : Heap) (locs1 : List Loc), va_P (dC, dI) vwCl wn H1 → va_S A s.heap H1 locs1 → W p l e R s m args below meth c H1 locs1 cells slots Q (F0 m (pc + 3) ls rest)) : W p l e R s m args below meth c H locs cells slots Q (F0 m pc ls st) := by
  have hDc : va_D A wc := hD.sub isC hnC hC
  have hPc : va_P (dC, dI) vwCl wc H := fun k x hx => by
    have h1 : (isC.map (fun i => ws[i]?))[k]? = some (some x) := by rw [hC, List.getElem?_map, hx]; rfl
    rw [List.getElem?_map] at h1
    cases hi : isC[k]? with
    | none => rw [hi] at h1; cases h1
    | some i => rw [hi] at h1; exact hP i x (Option.some.inj h1)
  have hFc := va_free (wc := wc) hD hS hA isC hC
  refine va_callv (va_runS (As := As) (rest := rest) S (hM H.size) cw ⟨cPre_blind, fun U hU hW => ⟨rfl, by rw [hU], by rw [hU]; exact hPc, va_K.moved hW.alike hK, hDc.weaken (fun _ _ _ _ => trivial)⟩⟩ rfl hlen hls hst (lv_room hW) hdg hf) hS (fun q _ h => hFc q h) hFc (fun u t H1 locs ht hvm hw hB hz1 hk1 hS => ?_)
  obtain ⟨hP1, hK1, hD1⟩ := hB
  rw [ht] at hP1
  obtain ⟨hP2, hD2⟩ := va_join (wr := wr) (w1 := w1) hP hD isC isR hC hR hn hdis hk1 hFc hP1 hD1
  exact kk H1 locs (hP2.sub perm hpm) hS
end CA
theorem sw_ne {x v : Int32} {z : Int} (h : ¬ x = v) (hz : v.toInt = z) : ¬ x.toInt = z := fun q => h (Int32.toInt_inj.mp (q.trans hz.symm))
theorem no_some {β : Type} {R : β} {P : Prop} (h : (none : Option β) = some R) : P := by cases h
theorem nar_0 : narrow .boolean (.int (0 : Int32)) = .int (0 : Int32) := by decide
theorem nar_1 : narrow .boolean (.int (1 : Int32)) = .int (1 : Int32) := by decide
