abbrev rmA (F mc ms Lc : Nat) : Room := { frames := F, cells := mc, slots := ms, locals := Lc }
/-- the links of nest mates' constructors, and the class of arrays of worlds -/
def nwP (U : State) : Prop := va_Nw (.methodLinkNest RX5 9 yX3_init RX5) U ∧ va_Nw (.methodLinkNest RX5 18 yX2_init RX5) U ∧ va_Nw (.methodLinkNest RX2 11 yX4_init RX5) U ∧ va_Nw (.methodLinkNest RX2 20 yX0_init RX5) U ∧ va_Nw (.methodLinkNest RX5 25 yX1_init RX5) U ∧ va_Nw (.methodLinkNest RX5 32 yX0_init RX5) U ∧ va_Nw (.methodLinkNest RX5 39 yX4_init RX5) U ∧ va_AO RX4 U
theorem nwP.warm {s U : State} (hW : s.WarmedH U.vm) (h : nwP s) : nwP U := by
  obtain ⟨h1, h2, h3, h4, h5, h6, h7, h8⟩ := h
  exact ⟨h1.warmM hW, h2.warmM hW, h3.warmM hW, h4.warmM hW, h5.warmM hW, h6.warmM hW, h7.warmM hW, h8.moved hW.alike⟩
theorem nwP.same {u U : State} (hv : u.vm = U.vm) (h : nwP u) : nwP U := by
  obtain ⟨h1, h2, h3, h4, h5, h6, h7, h8⟩ := h
  exact ⟨h1.same rfl hv, h2.same rfl hv, h3.same rfl hv, h4.same rfl hv, h5.same rfl hv, h6.same rfl hv, h7.same rfl hv, h8.moved (by rw [hv]; exact Vm.Alike.refl U.vm)⟩
def iPre (dC : Nat → ClassId) (dI : Nat → Nat → Nat) (cy : Nat → ClassId) (ws : va_W) (sz : Nat) (U : State) : Prop := U.heap.size = sz ∧ va_P (dC, dI) vwCl ws U.heap ∧ va_K (dC, dI) vwCl (tyL cy) U ∧ va_D (fun _ => True) ws ∧ nwP U
theorem iPre_blind {dC : Nat → ClassId} {dI : Nat → Nat → Nat} {cy : Nat → ClassId} {av : List Value} {ws : va_W} {sz : Nat} : FrameBlind (va_Pc av (iPre dC dI cy ws sz)) := by
  intro a U g mk q
  obtain ⟨q0, q1, qP, qK, qD, qN⟩ := q
  exact ⟨q0, q1, qP, va_K.moved (u := U) (U := U.calling g mk a) (Vm.Alike.refl U.vm) qK, qD, qN.same rfl⟩
theorem cy_I {D : va_G} {cl : List vw_C} {cy : Nat → ClassId} {s : State} {cA : ClassId} (hK : va_K D cl (tyL cy) s) (h2 : va_K D cl (tyL cy ++ [(cA, .int)]) s) : cA = cy 0 := by
  have a : s.vm.findClass _ = some (cy 0) := (hK.2 0 _ rfl).2
  have b : s.vm.findClass _ = some cA := (h2.2 4 _ rfl).2
  exact Option.some.inj (b.symm.trans a)
theorem cy_J {D : va_G} {cl : List vw_C} {cy : Nat → ClassId} {s : State} {cA : ClassId} (hK : va_K D cl (tyL cy) s) (h2 : va_K D cl (tyL cy ++ [(cA, .long)]) s) : cA = cy 1 := by
  have a : s.vm.findClass _ = some (cy 1) := (hK.2 1 _ rfl).2
  have b : s.vm.findClass _ = some cA := (h2.2 4 _ rfl).2
  exact Option.some.inj (b.symm.trans a)
theorem cy_B {D : va_G} {cl : List vw_C} {cy : Nat → ClassId} {s : State} {cA : ClassId} (hK : va_K D cl (tyL cy) s) (h2 : va_K D cl (tyL cy ++ [(cA, .byte)]) s) : cA = cy 2 := by
  have a : s.vm.findClass _ = some (cy 2) := (hK.2 2 _ rfl).2
  have b : s.vm.findClass _ = some cA := (h2.2 4 _ rfl).2
  exact Option.some.inj (b.symm.trans a)
theorem cy_K {D : va_G} {cl : List vw_C} {cy : Nat → ClassId} {s : State} {cA : ClassId} (hK : va_K D cl (tyL cy) s) (h2 : va_K D cl (tyL cy ++ [(cA, .object RX4)]) s) : cA = cy 3 := by
  obtain ⟨kA, comp, -, -, -, a⟩ := (hK.2 3 _ rfl).2
  obtain ⟨kB, comp2, -, -, -, b⟩ := (h2.2 4 _ rfl).2
  exact Option.some.inj (b.symm.trans a)
theorem va_P_recell {D : va_G} {cl : List vw_C} {ws : va_W} {H : Heap} {i a : Nat} {c : ClassId} {x1 x2 : vp_A} (hP : va_P D cl ws H) (hi : ws[i]? = some (a, .inl (c, x1))) (he : vp_cell c x1 = vp_cell c x2) : va_P D cl (ws.set i (a, .inl (c, x2))) H := by
  intro k q hk
  by_cases e : i = k
  · subst e
    have hl : i < ws.length := (List.getElem?_eq_some_iff.mp hi).1
    rw [List.getElem?_set_self hl] at hk
    cases hk
    show H[a]? = some (vp_cell c x2)
    rw [← he]
    exact hP i _ hi
  · rw [List.getElem?_set_ne e] at hk
    exact hP k q hk
theorem kept_cell (c : ClassId) (a : Nat → Nat) (k0 k1 : Nat) (h0 : k0 = a 10) (h1 : k1 = a 11) : vp_cell c (2, .inr (.inr (.inr (.inr (va_up (va_up (fun _ => none) 0 (some k0)) 1 (some k1)))))) = vp_cell c (2, .inr (.inr (.inr (.inr (fun j => some (a (10 + j))))))) := by
  subst h0; subst h1
  rw [vp_cell_q, vp_cell_q]
  unfold arrV
  congr 1
def w_0 : ob_T := (fun _ _ => 0, fun _ _ => 0)
def w4_0 : ob_T := (fun f _ => if f = 14 then 1000 else if f = 15 then 1000000 else 0, fun _ _ => 0)
section MTN
variable {l : Launch} {dC : Nat → ClassId} {dI : Nat → Nat → Nat} {cy : Nat → ClassId} {y : MethodName} {ws ws' : List Cond} {F mc ms Lc : Nat} {cc : ByteArray} {maxL : Nat} {av : List Value} {ws0 : va_W} {S : Type} {w1 : S → va_W} {sz : Nat}
theorem mt_n (hy : plainName y.cls = true) (hw : ws = Cond.code y cc maxL none :: ws') (hyn : y.name = "<init>") (hlen : (lg_sl av).length ≤ maxL)
    (body : ∀ (p : Program) (e : Env) (s : State) (m : MethodId) (below : List Frame) (meth : Method) (c : Code) (Q : State → Prop) (A : Nat → Prop), p.tables.exec = Jvm.exec → c.code = cc → c.maxLocals = maxL → s.vm.findClass y.cls = some m.cls → (∀ w ∈ ws, w.before av.toArray s = true) → meth.name = "<init>" → va_K (dC, dI) vwCl (tyL cy) s → nwP s → (∀ q : Nat, s.heap.size ≤ q → A q) → va_D A ws0 → va_P (dC, dI) vwCl ws0 s.heap →
      (∀ (pc : Nat) (ls : Array Slot) (H : Heap) (locs : List Loc) (u : S), decode cc pc = .ok (.return_, 1) → va_P (dC, dI) vwCl (w1 u) H → va_D A (w1 u) → va_S A s.heap H locs → W p l e (rmA F mc ms Lc) s m av.toArray below meth c H locs mc ms Q (F0 m pc ls [])) →
      ∀ (ls : Array Slot), lv_has ls maxL (lv_args 0 av) → W p l e (rmA F mc ms Lc) s m av.toArray below meth c s.heap [] 0 0 Q (F0 m 0 ls [])) :
    Met l y ws (rmA F mc ms Lc) (va_Pc av (iPre dC dI cy ws0 sz)) (va_Qv (fun (_ : S) => True) (fun u => cPost dC dI cy ws0 (w1 u) sz) (va_A ws0 sz)) mc ms (va_A ws0 sz) := by
  refine Met.ofW (cc := cc) (maxL := maxL) (ret := none) hy hw ?_
  intro p e s m args below meth c s₁ B hml hv
  obtain ⟨rfl, hsz, hP, hK, hD0, hN⟩ := hv
  have hts := atoms_spec (ws := ws) B.pre
  have hown : s.vm.findClass y.cls = some m.cls := findClass_of_methodNamed B.named
  have hin : meth.name = "<init>" := (name_of_methodNamed B.named B.method).1.trans hyn
  subst hsz
  have hD := hD0.self (sz := s.heap.size)
  have hl := lv_entry av (n := maxL) hlen
  rw [lg_entry_eq]
  refine body p e s m below meth c _ (va_A ws0 s.heap.size) B.exec B.bytes hml hown hts hin hK hN (fun q h => Or.inr h) hD hP ?_ _ hl
  intro pc ls H locs u hdg hP1 hD1 hS
  exact W.vret B.exec B.bytes B.returns (fun t ht hW => ⟨⟨u, rfl, trivial, by rw [ht]; exact hP1, va_K.moved hW.alike hK, hD1⟩, hS.F ht⟩) hS.2.2 hdg B.notSynchronized
end MTN
section CAN
variable {p : Program} {l : Launch} {e : Env} {R : Room} {s : State} {m : MethodId} {args : Array Value} {below : List Frame} {meth : Method} {c : Code} {H : Heap} {locs : List Loc} {cells slots : Nat} {Q : State → Prop}
variable {dC : Nat → ClassId} {dI : Nat → Nat → Nat} {cy : Nat → ClassId} {cc : ByteArray} {nL : Nat} {Ts : List Cond} {own host : String} {A : Nat → Prop} {ws wc wr : va_W} {St : Type} {w1 : St → va_W}
variable {y : MethodName} {wsy : List Cond} {F mc ms Lc maxL index b : Nat} {bytes : ByteArray} {rest st : List Value} {ls : Array Slot} {pc : Nat}
theorem ca_in (S : CallFix p m c cc nL s args Ts own) (hK : va_K (dC, dI) vwCl (tyL cy) s) (hN : nwP s) (hA : ∀ q : Nat, s.heap.size ≤ q → A q) (hD : va_D A ws) (hP : va_P (dC, dI) vwCl ws H) (hS : va_S A s.heap H locs)
    (isC isR : List Nat) (hM : ∀ sz, Met l y wsy (rmA F mc ms Lc) (va_Pc [.ref b] (iPre dC dI cy wc sz)) (va_Qv (fun (_ : St) => True) (fun u => cPost dC dI cy wc (w1 u) sz) (va_A wc sz)) mc ms (va_A wc sz))
    (hC : isC.map (fun i => ws[i]?) = wc.map some) (hR : isR.map (fun i => ws[i]?) = wr.map some) (hnC : va_nd isC = true) (hn : va_nd isR = true) (hdis : ∀ i ∈ isR, i ∉ isC)
    (cw : va_CN R s args own index y host bytes maxL none wsy (rmA F mc ms Lc) mc ms 0 ∧ y.name = "<init>" ∧ (Cond.instanceMethod y).before args s = true)
    (hls : ls.size = nL) (hst : st = .ref b :: rest) (hW : (rest.map fun v => v.category).sum ≤ 8) (hdg : decode cc pc = .ok (.invokespecial index, 3)) (hf : cells + mc ≤ R.cells ∧ slots + ms ≤ R.slots)
    (kk : ∀ (u : St) (H1 : Heap) (locs1 : List Loc), va_P (dC, dI) vwCl (wr ++ w1 u) H1 → va_D A (wr ++ w1 u) → va_S A s.heap H1 locs1 → W p l e R s m args below meth c H1 locs1 (cells + mc) (slots + ms) Q (F0 m (pc + 3) ls rest)) : W p l e R s m args below meth c H locs cells slots Q (F0 m pc ls st) := by
  have hDc : va_D A wc := hD.sub isC hnC hC
  have hPc : va_P (dC, dI) vwCl wc H := fun k x hx => by
    have h1 : (isC.map (fun i => ws[i]?))[k]? = some (some x) := by rw [hC, List.getElem?_map, hx]; rfl
    rw [List.getElem?_map] at h1
    cases hi : isC[k]? with
    | none => rw [hi] at h1; cases h1
    | some i => rw [hi] at h1; exact hP i x (Option.some.inj h1)
  have hFc := va_free (wc := wc) hD hS hA isC hC
  refine va_callv (va_runIN (As := []) (rest := rest) S (hM H.size) cw ⟨iPre_blind, fun U hU hW => ⟨rfl, by rw [hU], by rw [hU]; exact hPc, va_K.moved hW.alike hK, hDc.weaken (fun _ _ _ _ => trivial), hN.warm hW⟩⟩ rfl rfl hls hst (lv_room hW) hdg hf) hS (fun q _ h => hFc q h) hFc (fun u t H1 locs ht hvm hw hB hz1 hk1 hS => ?_)
  obtain ⟨hP1, hK1, hD1⟩ := hB
  rw [ht] at hP1
  obtain ⟨hP2, hD2⟩ := va_join (wr := wr) (w1 := w1 u) hP hD isC isR hC hR hn hdis hk1 hFc hP1 hD1
  exact kk u H1 locs hP2 hD2 hS
theorem ca_ip (S : CallFix p m c cc nL s args Ts own) (hK : va_K (dC, dI) vwCl (tyL cy) s) (hN : nwP s) (hA : ∀ q : Nat, s.heap.size ≤ q → A q) (hD : va_D A ws) (hP : va_P (dC, dI) vwCl ws H) (hS : va_S A s.heap H locs)
    (isC isR : List Nat) (hM : ∀ sz, Met l y wsy (rmA F mc ms Lc) (va_Pc [.ref b] (iPre dC dI cy wc sz)) (va_Qv (fun (_ : St) => True) (fun u => cPost dC dI cy wc (w1 u) sz) (va_A wc sz)) mc ms (va_A wc sz))
    (hC : isC.map (fun i => ws[i]?) = wc.map some) (hR : isR.map (fun i => ws[i]?) = wr.map some) (hnC : va_nd isC = true) (hn : va_nd isR = true) (hdis : ∀ i ∈ isR, i ∉ isC)
    (cw : CallB R s args own index y bytes maxL none wsy (rmA F mc ms Lc) mc ms 0 ∧ y.name = "<init>" ∧ (Cond.instanceMethod y).before args s = true)
    (hls : ls.size = nL) (hst : st = .ref b :: rest) (hW : (rest.map fun v => v.category).sum ≤ 8) (hdg : decode cc pc = .ok (.invokespecial index, 3)) (hf : cells + mc ≤ R.cells ∧ slots + ms ≤ R.slots)
    (kk : ∀ (u : St) (H1 : Heap) (locs1 : List Loc), va_P (dC, dI) vwCl (wr ++ w1 u) H1 → va_D A (wr ++ w1 u) → va_S A s.heap H1 locs1 → W p l e R s m args below meth c H1 locs1 (cells + mc) (slots + ms) Q (F0 m (pc + 3) ls rest)) : W p l e R s m args below meth c H locs cells slots Q (F0 m pc ls st) := by
  have hDc : va_D A wc := hD.sub isC hnC hC
  have hPc : va_P (dC, dI) vwCl wc H := fun k x hx => by
    have h1 : (isC.map (fun i => ws[i]?))[k]? = some (some x) := by rw [hC, List.getElem?_map, hx]; rfl
    rw [List.getElem?_map] at h1
    cases hi : isC[k]? with
    | none => rw [hi] at h1; cases h1
    | some i => rw [hi] at h1; exact hP i x (Option.some.inj h1)
  have hFc := va_free (wc := wc) hD hS hA isC hC
  refine va_callv (va_runI (As := []) (rest := rest) S (hM H.size) cw ⟨iPre_blind, fun U hU hW => ⟨rfl, by rw [hU], by rw [hU]; exact hPc, va_K.moved hW.alike hK, hDc.weaken (fun _ _ _ _ => trivial), hN.warm hW⟩⟩ rfl rfl hls hst (lv_room hW) hdg hf) hS (fun q _ h => hFc q h) hFc (fun u t H1 locs ht hvm hw hB hz1 hk1 hS => ?_)
  obtain ⟨hP1, hK1, hD1⟩ := hB
  rw [ht] at hP1
  obtain ⟨hP2, hD2⟩ := va_join (wr := wr) (w1 := w1 u) hP hD isC isR hC hR hn hdis hk1 hFc hP1 hD1
  exact kk u H1 locs hP2 hD2 hS
end CAN
theorem na_I (n : Nat) : ∀ cA : ClassId, vp_cell cA (n, .inl (fun _ => (0 : Int32))) = arrV cA n (fun _ => defaultValue .int) := fun cA => vp_cell_i cA n (fun _ => 0)
theorem na_J (n : Nat) : ∀ cA : ClassId, vp_cell cA (n, .inr (.inl (fun _ => (0 : Int64)))) = arrV cA n (fun _ => defaultValue .long) := fun cA => vp_cell_l cA n (fun _ => 0)
theorem na_B (n : Nat) : ∀ cA : ClassId, vp_cell cA (n, .inl (fun _ => (0 : Int32))) = arrV cA n (fun _ => defaultValue .byte) := fun cA => vp_cell_i cA n (fun _ => 0)
