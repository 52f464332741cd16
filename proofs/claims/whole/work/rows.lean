section
-- ===== PART A: goes FIRST, ahead of the names: the tables' words, and 'selects' of the private methods out of them =====
/-- a private method of a class that the tables say can be made, by its rows of tables_1 -/
def lw_okq (q : MethodName × Nat) : Prop := (q.1.cls ≠ "java/lang/invoke/MethodHandle" ∧ q.1.cls ≠ "java/lang/invoke/VarHandle") ∧ Cond.instantiable q.1.cls q.2 ∈ tables_1 ∧ Cond.privateMethod q.1 ∈ tables_1 ∧ Cond.instanceMethod q.1 ∈ tables_1
theorem lw_p0 : lw_okq (⟨"TwoMetals$Reader", "readItem", "(LTwoMetals$Text;)Z"⟩, 4) := ⟨⟨by decide +kernel, by decide +kernel⟩, List.mem_of_getElem? (i := 38) (by decide +kernel), List.mem_of_getElem? (i := 246) (by decide +kernel), List.mem_of_getElem? (i := 247) (by decide +kernel)⟩
theorem lw_p1 : lw_okq (⟨"TwoMetals$Reader", "readNumbers", "(LTwoMetals$Text;I)Z"⟩, 4) := ⟨⟨by decide +kernel, by decide +kernel⟩, List.mem_of_getElem? (i := 38) (by decide +kernel), List.mem_of_getElem? (i := 253) (by decide +kernel), List.mem_of_getElem? (i := 254) (by decide +kernel)⟩
theorem lw_p2 : lw_okq (⟨"TwoMetals$Reader", "readNumber", "(LTwoMetals$Text;I)Z"⟩, 4) := ⟨⟨by decide +kernel, by decide +kernel⟩, List.mem_of_getElem? (i := 38) (by decide +kernel), List.mem_of_getElem? (i := 257) (by decide +kernel), List.mem_of_getElem? (i := 258) (by decide +kernel)⟩
theorem lw_p3 : lw_okq (⟨"TwoMetals$Reader", "readSign", "(LTwoMetals$Text;I)Z"⟩, 4) := ⟨⟨by decide +kernel, by decide +kernel⟩, List.mem_of_getElem? (i := 38) (by decide +kernel), List.mem_of_getElem? (i := 264) (by decide +kernel), List.mem_of_getElem? (i := 265) (by decide +kernel)⟩
theorem lw_p4 : lw_okq (⟨"TwoMetals$Reader", "takeItem", "(I)Z"⟩, 4) := ⟨⟨by decide +kernel, by decide +kernel⟩, List.mem_of_getElem? (i := 38) (by decide +kernel), List.mem_of_getElem? (i := 268) (by decide +kernel), List.mem_of_getElem? (i := 269) (by decide +kernel)⟩
theorem lw_p5 : lw_okq (⟨"TwoMetals$Reader", "takeRealm", "()Z"⟩, 4) := ⟨⟨by decide +kernel, by decide +kernel⟩, List.mem_of_getElem? (i := 38) (by decide +kernel), List.mem_of_getElem? (i := 272) (by decide +kernel), List.mem_of_getElem? (i := 273) (by decide +kernel)⟩
theorem lw_p6 : lw_okq (⟨"TwoMetals$Reader", "isWithin", "(III)Z"⟩, 4) := ⟨⟨by decide +kernel, by decide +kernel⟩, List.mem_of_getElem? (i := 38) (by decide +kernel), List.mem_of_getElem? (i := 276) (by decide +kernel), List.mem_of_getElem? (i := 277) (by decide +kernel)⟩
theorem lw_p7 : lw_okq (⟨"TwoMetals$Reader", "takeLimp", "()Z"⟩, 4) := ⟨⟨by decide +kernel, by decide +kernel⟩, List.mem_of_getElem? (i := 38) (by decide +kernel), List.mem_of_getElem? (i := 298) (by decide +kernel), List.mem_of_getElem? (i := 299) (by decide +kernel)⟩
theorem lw_p8 : lw_okq (⟨"TwoMetals$Reader", "takeStop", "()Z"⟩, 4) := ⟨⟨by decide +kernel, by decide +kernel⟩, List.mem_of_getElem? (i := 38) (by decide +kernel), List.mem_of_getElem? (i := 302) (by decide +kernel), List.mem_of_getElem? (i := 303) (by decide +kernel)⟩
theorem lw_p9 : lw_okq (⟨"TwoMetals$Reader", "takeMarket", "()Z"⟩, 4) := ⟨⟨by decide +kernel, by decide +kernel⟩, List.mem_of_getElem? (i := 38) (by decide +kernel), List.mem_of_getElem? (i := 306) (by decide +kernel), List.mem_of_getElem? (i := 307) (by decide +kernel)⟩
theorem lw_p10 : lw_okq (⟨"TwoMetals$Reader", "takeScarcity", "()Z"⟩, 4) := ⟨⟨by decide +kernel, by decide +kernel⟩, List.mem_of_getElem? (i := 38) (by decide +kernel), List.mem_of_getElem? (i := 310) (by decide +kernel), List.mem_of_getElem? (i := 311) (by decide +kernel)⟩
theorem lw_p11 : lw_okq (⟨"TwoMetals$Reader", "takeMines", "()Z"⟩, 4) := ⟨⟨by decide +kernel, by decide +kernel⟩, List.mem_of_getElem? (i := 38) (by decide +kernel), List.mem_of_getElem? (i := 314) (by decide +kernel), List.mem_of_getElem? (i := 315) (by decide +kernel)⟩
theorem lw_p12 : lw_okq (⟨"TwoMetals$Mover", "goRound", "(LTwoMetals$World;)I"⟩, 2) := ⟨⟨by decide +kernel, by decide +kernel⟩, List.mem_of_getElem? (i := 168) (by decide +kernel), List.mem_of_getElem? (i := 422) (by decide +kernel), List.mem_of_getElem? (i := 423) (by decide +kernel)⟩
theorem lw_p13 : lw_okq (⟨"TwoMetals$Mover", "mark", "(LTwoMetals$World;)V"⟩, 2) := ⟨⟨by decide +kernel, by decide +kernel⟩, List.mem_of_getElem? (i := 168) (by decide +kernel), List.mem_of_getElem? (i := 446) (by decide +kernel), List.mem_of_getElem? (i := 447) (by decide +kernel)⟩
theorem lw_p14 : lw_okq (⟨"TwoMetals$Mover", "isMarked", "(LTwoMetals$World;)Z"⟩, 2) := ⟨⟨by decide +kernel, by decide +kernel⟩, List.mem_of_getElem? (i := 168) (by decide +kernel), List.mem_of_getElem? (i := 451) (by decide +kernel), List.mem_of_getElem? (i := 452) (by decide +kernel)⟩
theorem lw_p15 : lw_okq (⟨"TwoMetals", "tryPact", "(II)I"⟩, 8) := ⟨⟨by decide +kernel, by decide +kernel⟩, List.mem_of_getElem? (i := 13) (by decide +kernel), List.mem_of_getElem? (i := 491) (by decide +kernel), List.mem_of_getElem? (i := 492) (by decide +kernel)⟩
def lw_privs_1 : List (MethodName × Nat) := [(⟨"TwoMetals$Reader", "readItem", "(LTwoMetals$Text;)Z"⟩, 4), (⟨"TwoMetals$Reader", "readNumbers", "(LTwoMetals$Text;I)Z"⟩, 4), (⟨"TwoMetals$Reader", "readNumber", "(LTwoMetals$Text;I)Z"⟩, 4), (⟨"TwoMetals$Reader", "readSign", "(LTwoMetals$Text;I)Z"⟩, 4), (⟨"TwoMetals$Reader", "takeItem", "(I)Z"⟩, 4), (⟨"TwoMetals$Reader", "takeRealm", "()Z"⟩, 4), (⟨"TwoMetals$Reader", "isWithin", "(III)Z"⟩, 4), (⟨"TwoMetals$Reader", "takeLimp", "()Z"⟩, 4), (⟨"TwoMetals$Reader", "takeStop", "()Z"⟩, 4), (⟨"TwoMetals$Reader", "takeMarket", "()Z"⟩, 4), (⟨"TwoMetals$Reader", "takeScarcity", "()Z"⟩, 4), (⟨"TwoMetals$Reader", "takeMines", "()Z"⟩, 4), (⟨"TwoMetals$Mover", "goRound", "(LTwoMetals$World;)I"⟩, 2), (⟨"TwoMetals$Mover", "mark", "(LTwoMetals$World;)V"⟩, 2), (⟨"TwoMetals$Mover", "isMarked", "(LTwoMetals$World;)Z"⟩, 2), (⟨"TwoMetals", "tryPact", "(II)I"⟩, 8)]
theorem lw_r1 : ∀ q ∈ lw_privs_1, lw_okq q := List.forall_mem_cons.mpr ⟨lw_p0, List.forall_mem_cons.mpr ⟨lw_p1, List.forall_mem_cons.mpr ⟨lw_p2, List.forall_mem_cons.mpr ⟨lw_p3, List.forall_mem_cons.mpr ⟨lw_p4, List.forall_mem_cons.mpr ⟨lw_p5, List.forall_mem_cons.mpr ⟨lw_p6, List.forall_mem_cons.mpr ⟨lw_p7, List.forall_mem_cons.mpr ⟨lw_p8, List.forall_mem_cons.mpr ⟨lw_p9, List.forall_mem_cons.mpr ⟨lw_p10, List.forall_mem_cons.mpr ⟨lw_p11, List.forall_mem_cons.mpr ⟨lw_p12, List.forall_mem_cons.mpr ⟨lw_p13, List.forall_mem_cons.mpr ⟨lw_p14, List.forall_mem_cons.mpr ⟨lw_p15, fun _ h => absurd h List.not_mem_nil⟩⟩⟩⟩⟩⟩⟩⟩⟩⟩⟩⟩⟩⟩⟩⟩
theorem lw_p16 : lw_okq (⟨"TwoMetals", "allHold", "(I)Z"⟩, 8) := ⟨⟨by decide +kernel, by decide +kernel⟩, List.mem_of_getElem? (i := 13) (by decide +kernel), List.mem_of_getElem? (i := 496) (by decide +kernel), List.mem_of_getElem? (i := 497) (by decide +kernel)⟩
theorem lw_p17 : lw_okq (⟨"TwoMetals", "tryPurchase", "(I)I"⟩, 8) := ⟨⟨by decide +kernel, by decide +kernel⟩, List.mem_of_getElem? (i := 13) (by decide +kernel), List.mem_of_getElem? (i := 508) (by decide +kernel), List.mem_of_getElem? (i := 509) (by decide +kernel)⟩
theorem lw_p18 : lw_okq (⟨"TwoMetalsModel", "noWorld", "(II)V"⟩, 11) := ⟨⟨by decide +kernel, by decide +kernel⟩, List.mem_of_getElem? (i := 543) (by decide +kernel), List.mem_of_getElem? (i := 549) (by decide +kernel), List.mem_of_getElem? (i := 550) (by decide +kernel)⟩
theorem lw_p19 : lw_okq (⟨"TwoMetalsModel", "readAll", "()I"⟩, 11) := ⟨⟨by decide +kernel, by decide +kernel⟩, List.mem_of_getElem? (i := 543) (by decide +kernel), List.mem_of_getElem? (i := 605) (by decide +kernel), List.mem_of_getElem? (i := 606) (by decide +kernel)⟩
theorem lw_p20 : lw_okq (⟨"TwoMetalsModel", "item", "()Z"⟩, 11) := ⟨⟨by decide +kernel, by decide +kernel⟩, List.mem_of_getElem? (i := 543) (by decide +kernel), List.mem_of_getElem? (i := 609) (by decide +kernel), List.mem_of_getElem? (i := 610) (by decide +kernel)⟩
theorem lw_p21 : lw_okq (⟨"TwoMetalsModel", "byteAt", "(I)I"⟩, 11) := ⟨⟨by decide +kernel, by decide +kernel⟩, List.mem_of_getElem? (i := 543) (by decide +kernel), List.mem_of_getElem? (i := 613) (by decide +kernel), List.mem_of_getElem? (i := 614) (by decide +kernel)⟩
theorem lw_p22 : lw_okq (⟨"TwoMetalsModel", "realmItem", "()Z"⟩, 11) := ⟨⟨by decide +kernel, by decide +kernel⟩, List.mem_of_getElem? (i := 543) (by decide +kernel), List.mem_of_getElem? (i := 617) (by decide +kernel), List.mem_of_getElem? (i := 618) (by decide +kernel)⟩
theorem lw_p23 : lw_okq (⟨"TwoMetalsModel", "figures", "(I)Z"⟩, 11) := ⟨⟨by decide +kernel, by decide +kernel⟩, List.mem_of_getElem? (i := 543) (by decide +kernel), List.mem_of_getElem? (i := 621) (by decide +kernel), List.mem_of_getElem? (i := 622) (by decide +kernel)⟩
theorem lw_p24 : lw_okq (⟨"TwoMetalsModel", "isRead", "(I)Z"⟩, 11) := ⟨⟨by decide +kernel, by decide +kernel⟩, List.mem_of_getElem? (i := 543) (by decide +kernel), List.mem_of_getElem? (i := 628) (by decide +kernel), List.mem_of_getElem? (i := 629) (by decide +kernel)⟩
theorem lw_p25 : lw_okq (⟨"TwoMetalsModel", "mineItem", "()Z"⟩, 11) := ⟨⟨by decide +kernel, by decide +kernel⟩, List.mem_of_getElem? (i := 543) (by decide +kernel), List.mem_of_getElem? (i := 634) (by decide +kernel), List.mem_of_getElem? (i := 635) (by decide +kernel)⟩
theorem lw_p26 : lw_okq (⟨"TwoMetalsModel", "copy", "(II)V"⟩, 11) := ⟨⟨by decide +kernel, by decide +kernel⟩, List.mem_of_getElem? (i := 543) (by decide +kernel), List.mem_of_getElem? (i := 642) (by decide +kernel), List.mem_of_getElem? (i := 643) (by decide +kernel)⟩
theorem lw_p27 : lw_okq (⟨"TwoMetalsModel", "realmMany", "(Z)I"⟩, 11) := ⟨⟨by decide +kernel, by decide +kernel⟩, List.mem_of_getElem? (i := 543) (by decide +kernel), List.mem_of_getElem? (i := 646) (by decide +kernel), List.mem_of_getElem? (i := 647) (by decide +kernel)⟩
theorem lw_p28 : lw_okq (⟨"TwoMetalsModel", "isRealm", "(I)Z"⟩, 11) := ⟨⟨by decide +kernel, by decide +kernel⟩, List.mem_of_getElem? (i := 543) (by decide +kernel), List.mem_of_getElem? (i := 650) (by decide +kernel), List.mem_of_getElem? (i := 651) (by decide +kernel)⟩
theorem lw_p29 : lw_okq (⟨"TwoMetalsModel", "mints", "(I)Z"⟩, 11) := ⟨⟨by decide +kernel, by decide +kernel⟩, List.mem_of_getElem? (i := 543) (by decide +kernel), List.mem_of_getElem? (i := 655) (by decide +kernel), List.mem_of_getElem? (i := 656) (by decide +kernel)⟩
theorem lw_p30 : lw_okq (⟨"TwoMetalsModel", "ratio", "()J"⟩, 11) := ⟨⟨by decide +kernel, by decide +kernel⟩, List.mem_of_getElem? (i := 543) (by decide +kernel), List.mem_of_getElem? (i := 667) (by decide +kernel), List.mem_of_getElem? (i := 668) (by decide +kernel)⟩
theorem lw_p31 : lw_okq (⟨"TwoMetalsModel", "movesOf", "(I)I"⟩, 11) := ⟨⟨by decide +kernel, by decide +kernel⟩, List.mem_of_getElem? (i := 543) (by decide +kernel), List.mem_of_getElem? (i := 676) (by decide +kernel), List.mem_of_getElem? (i := 677) (by decide +kernel)⟩
def lw_privs_2 : List (MethodName × Nat) := [(⟨"TwoMetals", "allHold", "(I)Z"⟩, 8), (⟨"TwoMetals", "tryPurchase", "(I)I"⟩, 8), (⟨"TwoMetalsModel", "noWorld", "(II)V"⟩, 11), (⟨"TwoMetalsModel", "readAll", "()I"⟩, 11), (⟨"TwoMetalsModel", "item", "()Z"⟩, 11), (⟨"TwoMetalsModel", "byteAt", "(I)I"⟩, 11), (⟨"TwoMetalsModel", "realmItem", "()Z"⟩, 11), (⟨"TwoMetalsModel", "figures", "(I)Z"⟩, 11), (⟨"TwoMetalsModel", "isRead", "(I)Z"⟩, 11), (⟨"TwoMetalsModel", "mineItem", "()Z"⟩, 11), (⟨"TwoMetalsModel", "copy", "(II)V"⟩, 11), (⟨"TwoMetalsModel", "realmMany", "(Z)I"⟩, 11), (⟨"TwoMetalsModel", "isRealm", "(I)Z"⟩, 11), (⟨"TwoMetalsModel", "mints", "(I)Z"⟩, 11), (⟨"TwoMetalsModel", "ratio", "()J"⟩, 11), (⟨"TwoMetalsModel", "movesOf", "(I)I"⟩, 11)]
theorem lw_r2 : ∀ q ∈ lw_privs_2, lw_okq q := List.forall_mem_cons.mpr ⟨lw_p16, List.forall_mem_cons.mpr ⟨lw_p17, List.forall_mem_cons.mpr ⟨lw_p18, List.forall_mem_cons.mpr ⟨lw_p19, List.forall_mem_cons.mpr ⟨lw_p20, List.forall_mem_cons.mpr ⟨lw_p21, List.forall_mem_cons.mpr ⟨lw_p22, List.forall_mem_cons.mpr ⟨lw_p23, List.forall_mem_cons.mpr ⟨lw_p24, List.forall_mem_cons.mpr ⟨lw_p25, List.forall_mem_cons.mpr ⟨lw_p26, List.forall_mem_cons.mpr ⟨lw_p27, List.forall_mem_cons.mpr ⟨lw_p28, List.forall_mem_cons.mpr ⟨lw_p29, List.forall_mem_cons.mpr ⟨lw_p30, List.forall_mem_cons.mpr ⟨lw_p31, fun _ h => absurd h List.not_mem_nil⟩⟩⟩⟩⟩⟩⟩⟩⟩⟩⟩⟩⟩⟩⟩⟩
theorem lw_p32 : lw_okq (⟨"TwoMetalsModel", "endOf", "(IZ)J"⟩, 11) := ⟨⟨by decide +kernel, by decide +kernel⟩, List.mem_of_getElem? (i := 543) (by decide +kernel), List.mem_of_getElem? (i := 687) (by decide +kernel), List.mem_of_getElem? (i := 688) (by decide +kernel)⟩
theorem lw_p33 : lw_okq (⟨"TwoMetalsModel", "holdsRatio", "(I)Z"⟩, 11) := ⟨⟨by decide +kernel, by decide +kernel⟩, List.mem_of_getElem? (i := 543) (by decide +kernel), List.mem_of_getElem? (i := 696) (by decide +kernel), List.mem_of_getElem? (i := 697) (by decide +kernel)⟩
theorem lw_p34 : lw_okq (⟨"TwoMetalsModel", "goYear", "()I"⟩, 11) := ⟨⟨by decide +kernel, by decide +kernel⟩, List.mem_of_getElem? (i := 543) (by decide +kernel), List.mem_of_getElem? (i := 704) (by decide +kernel), List.mem_of_getElem? (i := 705) (by decide +kernel)⟩
theorem lw_p35 : lw_okq (⟨"TwoMetalsModel", "moveSack", "(II)V"⟩, 11) := ⟨⟨by decide +kernel, by decide +kernel⟩, List.mem_of_getElem? (i := 543) (by decide +kernel), List.mem_of_getElem? (i := 708) (by decide +kernel), List.mem_of_getElem? (i := 709) (by decide +kernel)⟩
theorem lw_p36 : lw_okq (⟨"TwoMetalsModel", "goRest", "()I"⟩, 11) := ⟨⟨by decide +kernel, by decide +kernel⟩, List.mem_of_getElem? (i := 543) (by decide +kernel), List.mem_of_getElem? (i := 716) (by decide +kernel), List.mem_of_getElem? (i := 717) (by decide +kernel)⟩
theorem lw_p37 : lw_okq (⟨"TwoMetalsModel", "minting", "()I"⟩, 11) := ⟨⟨by decide +kernel, by decide +kernel⟩, List.mem_of_getElem? (i := 543) (by decide +kernel), List.mem_of_getElem? (i := 751) (by decide +kernel), List.mem_of_getElem? (i := 752) (by decide +kernel)⟩
theorem lw_p38 : lw_okq (⟨"TwoMetalsModel", "pactOf", "(III)I"⟩, 11) := ⟨⟨by decide +kernel, by decide +kernel⟩, List.mem_of_getElem? (i := 543) (by decide +kernel), List.mem_of_getElem? (i := 759) (by decide +kernel), List.mem_of_getElem? (i := 760) (by decide +kernel)⟩
theorem lw_p39 : lw_okq (⟨"TwoMetalsModel", "boughtOf", "(JI)I"⟩, 11) := ⟨⟨by decide +kernel, by decide +kernel⟩, List.mem_of_getElem? (i := 543) (by decide +kernel), List.mem_of_getElem? (i := 777) (by decide +kernel), List.mem_of_getElem? (i := 778) (by decide +kernel)⟩
def lw_privs_3 : List (MethodName × Nat) := [(⟨"TwoMetalsModel", "endOf", "(IZ)J"⟩, 11), (⟨"TwoMetalsModel", "holdsRatio", "(I)Z"⟩, 11), (⟨"TwoMetalsModel", "goYear", "()I"⟩, 11), (⟨"TwoMetalsModel", "moveSack", "(II)V"⟩, 11), (⟨"TwoMetalsModel", "goRest", "()I"⟩, 11), (⟨"TwoMetalsModel", "minting", "()I"⟩, 11), (⟨"TwoMetalsModel", "pactOf", "(III)I"⟩, 11), (⟨"TwoMetalsModel", "boughtOf", "(JI)I"⟩, 11)]
theorem lw_r3 : ∀ q ∈ lw_privs_3, lw_okq q := List.forall_mem_cons.mpr ⟨lw_p32, List.forall_mem_cons.mpr ⟨lw_p33, List.forall_mem_cons.mpr ⟨lw_p34, List.forall_mem_cons.mpr ⟨lw_p35, List.forall_mem_cons.mpr ⟨lw_p36, List.forall_mem_cons.mpr ⟨lw_p37, List.forall_mem_cons.mpr ⟨lw_p38, List.forall_mem_cons.mpr ⟨lw_p39, fun _ h => absurd h List.not_mem_nil⟩⟩⟩⟩⟩⟩⟩⟩
def lw_privs : List (MethodName × Nat) := lw_privs_1 ++ (lw_privs_2 ++ (lw_privs_3))
def lw_tbl : List Cond := k2_sels lw_privs ++ tables_1
theorem lw_privs_ok : ∀ q ∈ lw_privs, lw_okq q := by
  show ∀ q ∈ lw_privs_1 ++ (lw_privs_2 ++ (lw_privs_3)), lw_okq q
  exact List.forall_mem_append.mpr ⟨lw_r1, List.forall_mem_append.mpr ⟨lw_r2, lw_r3⟩⟩
end
section
/-! ===== BEGIN words of one list among another's, by their places ===== -/
theorem goodIn_r {big : List Cond} (ws : List Cond) (ps : List Nat) (hp : ws = ps.filterMap (fun i => big[i]?)) (h : ws.all goodWord = true) : GoodIn big ws := by
  intro w hw
  have h1 := List.all_eq_true.mp h w hw
  rw [hp] at hw
  obtain ⟨i, -, hi⟩ := List.mem_filterMap.mp hw
  have hm : w ∈ big := by first | exact List.mem_of_getElem? hi | exact List.getElem?_mem hi
  exact ⟨hm, good_of_word h1⟩
theorem goodIn_app {big a b : List Cond} (ha : GoodIn big a) (hb : GoodIn big b) : GoodIn big (a ++ b) := fun w h => (List.mem_append.mp h).elim (ha w) (hb w)
theorem goodIn_ca {big a b : List Cond} {c : Cond} (ha : GoodIn big (c :: a)) (hb : GoodIn big b) : GoodIn big (c :: (a ++ b)) := fun w h => (List.mem_cons.mp h).elim (fun e => ha w (List.mem_cons.mpr (Or.inl e))) (fun h => (List.mem_append.mp h).elim (fun h => ha w (List.mem_cons.mpr (Or.inr h))) (hb w))
theorem goodIn_sub {big ws : List Cond} (hm : ∀ w ∈ ws, w ∈ big) (h : ws.all goodWord = true) : GoodIn big ws := fun w hw => ⟨hm w hw, good_of_word (List.all_eq_true.mp h w hw)⟩
/-! ===== END ===== -/

/-! ===== BEGIN printed: names, fields, word lists, decode rows ===== -/
def RX0 : String := "TwoMetals$Mines"
def TX0 : u_T := fun k => match k with
  | 0 => ("TwoMetals$Mines", "told", "[I", true)
  | 1 => ("TwoMetals$Mines", "gold", "[I", true)
  | _ => ("TwoMetals$Mines", "silver", "[I", true)
def tyX0 : Nat → FieldType := fun k => match k with
  | 0 => .array .int
  | 1 => .array .int
  | _ => .array .int
abbrev wsX00 : List Cond := u_ws RX0 TX0 3
theorem nmX0 : ∀ a, a < 3 → ∀ b, b < 3 → a ≠ b → (TX0 a).2.1 ≠ (TX0 b).2.1 := by decide +kernel
theorem tyX0_ok : ∀ k, k < 3 → parseFieldDescriptor (TX0 k).2.2.1 = some (tyX0 k) := by decide +kernel
abbrev cX0_init : ByteArray := prog_2_method_1_code
def yX0_init : MethodName := ⟨RX0, "<init>", "()V"⟩
abbrev cX0_clear : ByteArray := prog_2_method_2_code
def yX0_clear : MethodName := ⟨RX0, "clear", "()V"⟩
abbrev cX0_copyFrom : ByteArray := prog_2_method_3_code
def yX0_copyFrom : MethodName := ⟨RX0, "copyFrom", "(LTwoMetals$Mines;)V"⟩
abbrev cX0_tell : ByteArray := prog_2_method_4_code
def yX0_tell : MethodName := ⟨RX0, "tell", "(III)V"⟩
abbrev cX0_fillGaps : ByteArray := prog_2_method_5_code
def yX0_fillGaps : MethodName := ⟨RX0, "fillGaps", "()V"⟩
abbrev cX0_bringTo : ByteArray := prog_2_method_6_code
def yX0_bringTo : MethodName := ⟨RX0, "bringTo", "(LTwoMetals$World;)V"⟩
def RX1 : String := "TwoMetals$Mover"
def TX1 : u_T := fun k => match k with
  | 0 => ("TwoMetals$Mover", "left", "[I", true)
  | _ => ("TwoMetals$Mover", "marked", "[J", true)
def tyX1 : Nat → FieldType := fun k => match k with
  | 0 => .array .int
  | _ => .array .long
abbrev wsX10 : List Cond := u_ws RX1 TX1 2
theorem nmX1 : ∀ a, a < 2 → ∀ b, b < 2 → a ≠ b → (TX1 a).2.1 ≠ (TX1 b).2.1 := by decide +kernel
theorem tyX1_ok : ∀ k, k < 2 → parseFieldDescriptor (TX1 k).2.2.1 = some (tyX1 k) := by decide +kernel
abbrev cX1_init : ByteArray := prog_3_method_1_code
def yX1_init : MethodName := ⟨RX1, "<init>", "()V"⟩
abbrev cX1_passYear : ByteArray := prog_3_method_2_code
def yX1_passYear : MethodName := ⟨RX1, "passYear", "(LTwoMetals$World;LTwoMetals$Mines;)I"⟩
abbrev cX1_settle : ByteArray := prog_3_method_3_code
def yX1_settle : MethodName := ⟨RX1, "settle", "(LTwoMetals$World;)I"⟩
abbrev cX1_goRound : ByteArray := prog_3_method_4_code
def yX1_goRound : MethodName := ⟨RX1, "goRound", "(LTwoMetals$World;)I"⟩
abbrev cX1_mark : ByteArray := prog_3_method_5_code
def yX1_mark : MethodName := ⟨RX1, "mark", "(LTwoMetals$World;)V"⟩
abbrev cX1_isMarked : ByteArray := prog_3_method_6_code
def yX1_isMarked : MethodName := ⟨RX1, "isMarked", "(LTwoMetals$World;)Z"⟩
def RX2 : String := "TwoMetals$Reader"
def TX2 : u_T := fun k => match k with
  | 0 => ("TwoMetals$Reader", "world", "LTwoMetals$World;", true)
  | 1 => ("TwoMetals$Reader", "mines", "LTwoMetals$Mines;", true)
  | 2 => ("TwoMetals$Reader", "number", "[I", true)
  | _ => ("TwoMetals$Reader", "at", "I", false)
def tyX2 : Nat → FieldType := fun k => match k with
  | 0 => .object "TwoMetals$World"
  | 1 => .object "TwoMetals$Mines"
  | 2 => .array .int
  | _ => .int
abbrev wsX20 : List Cond := u_ws RX2 TX2 4
theorem nmX2 : ∀ a, a < 4 → ∀ b, b < 4 → a ≠ b → (TX2 a).2.1 ≠ (TX2 b).2.1 := by decide +kernel
theorem tyX2_ok : ∀ k, k < 4 → parseFieldDescriptor (TX2 k).2.2.1 = some (tyX2 k) := by decide +kernel
abbrev cX2_init : ByteArray := prog_4_method_1_code
def yX2_init : MethodName := ⟨RX2, "<init>", "()V"⟩
abbrev cX2_firstFault : ByteArray := prog_4_method_2_code
def yX2_firstFault : MethodName := ⟨RX2, "firstFault", "(LTwoMetals$Text;)I"⟩
abbrev cX2_readItem : ByteArray := prog_4_method_3_code
def yX2_readItem : MethodName := ⟨RX2, "readItem", "(LTwoMetals$Text;)Z"⟩
abbrev cX2_numbersBehind : ByteArray := prog_4_method_4_code
def yX2_numbersBehind : MethodName := ⟨RX2, "numbersBehind", "(I)I"⟩
abbrev cX2_readNumbers : ByteArray := prog_4_method_5_code
def yX2_readNumbers : MethodName := ⟨RX2, "readNumbers", "(LTwoMetals$Text;I)Z"⟩
abbrev cX2_readNumber : ByteArray := prog_4_method_6_code
def yX2_readNumber : MethodName := ⟨RX2, "readNumber", "(LTwoMetals$Text;I)Z"⟩
abbrev cX2_readSign : ByteArray := prog_4_method_7_code
def yX2_readSign : MethodName := ⟨RX2, "readSign", "(LTwoMetals$Text;I)Z"⟩
abbrev cX2_isFigure : ByteArray := prog_4_method_8_code
def yX2_isFigure : MethodName := ⟨RX2, "isFigure", "(I)Z"⟩
abbrev cX2_takeItem : ByteArray := prog_4_method_9_code
def yX2_takeItem : MethodName := ⟨RX2, "takeItem", "(I)Z"⟩
abbrev cX2_isWithin : ByteArray := prog_4_method_10_code
def yX2_isWithin : MethodName := ⟨RX2, "isWithin", "(III)Z"⟩
abbrev cX2_takeRealm : ByteArray := prog_4_method_11_code
def yX2_takeRealm : MethodName := ⟨RX2, "takeRealm", "()Z"⟩
abbrev cX2_takeLimp : ByteArray := prog_4_method_12_code
def yX2_takeLimp : MethodName := ⟨RX2, "takeLimp", "()Z"⟩
abbrev cX2_takeStop : ByteArray := prog_4_method_13_code
def yX2_takeStop : MethodName := ⟨RX2, "takeStop", "()Z"⟩
abbrev cX2_takeMarket : ByteArray := prog_4_method_14_code
def yX2_takeMarket : MethodName := ⟨RX2, "takeMarket", "()Z"⟩
abbrev cX2_takeScarcity : ByteArray := prog_4_method_15_code
def yX2_takeScarcity : MethodName := ⟨RX2, "takeScarcity", "()Z"⟩
abbrev cX2_takeMines : ByteArray := prog_4_method_16_code
def yX2_takeMines : MethodName := ⟨RX2, "takeMines", "()Z"⟩
def RX3 : String := "TwoMetals$Text"
def TX3 : u_T := fun k => match k with
  | 0 => ("TwoMetals$Text", "bytes", "[B", true)
  | _ => ("TwoMetals$Text", "length", "I", false)
def tyX3 : Nat → FieldType := fun k => match k with
  | 0 => .array .byte
  | _ => .int
abbrev wsX30 : List Cond := u_ws RX3 TX3 2
theorem nmX3 : ∀ a, a < 2 → ∀ b, b < 2 → a ≠ b → (TX3 a).2.1 ≠ (TX3 b).2.1 := by decide +kernel
theorem tyX3_ok : ∀ k, k < 2 → parseFieldDescriptor (TX3 k).2.2.1 = some (tyX3 k) := by decide +kernel
abbrev cX3_init : ByteArray := prog_5_method_1_code
def yX3_init : MethodName := ⟨RX3, "<init>", "()V"⟩
abbrev cX3_hasRoomFor : ByteArray := prog_5_method_2_code
def yX3_hasRoomFor : MethodName := ⟨RX3, "hasRoomFor", "(I)Z"⟩
abbrev cX3_append : ByteArray := prog_5_method_3_code
def yX3_append : MethodName := ⟨RX3, "append", "(IJ)V"⟩
def RX4 : String := "TwoMetals$World"
def TX4 : u_T := fun k => match k with
  | 0 => ("TwoMetals$World", "law", "[I", true)
  | 1 => ("TwoMetals$World", "cut", "[I", true)
  | 2 => ("TwoMetals$World", "way", "[I", true)
  | 3 => ("TwoMetals$World", "yearly", "[I", true)
  | 4 => ("TwoMetals$World", "stopAt", "[I", true)
  | 5 => ("TwoMetals$World", "low", "[I", true)
  | 6 => ("TwoMetals$World", "high", "[I", true)
  | 7 => ("TwoMetals$World", "gold", "[J", true)
  | 8 => ("TwoMetals$World", "silver", "[J", true)
  | 9 => ("TwoMetals$World", "told", "I", false)
  | 10 => ("TwoMetals$World", "minting", "I", false)
  | 11 => ("TwoMetals$World", "limping", "I", false)
  | 12 => ("TwoMetals$World", "marketGold", "J", false)
  | 13 => ("TwoMetals$World", "marketSilver", "J", false)
  | 14 => ("TwoMetals$World", "scarcity", "I", false)
  | 15 => ("TwoMetals$World", "price", "I", false)
  | _ => ("TwoMetals$World", "age", "I", false)
def tyX4 : Nat → FieldType := fun k => match k with
  | 0 => .array .int
  | 1 => .array .int
  | 2 => .array .int
  | 3 => .array .int
  | 4 => .array .int
  | 5 => .array .int
  | 6 => .array .int
  | 7 => .array .long
  | 8 => .array .long
  | 9 => .int
  | 10 => .int
  | 11 => .int
  | 12 => .long
  | 13 => .long
  | 14 => .int
  | 15 => .int
  | _ => .int
abbrev wsX40 : List Cond := u_ws RX4 TX4 17
theorem nmX4 : ∀ a, a < 17 → ∀ b, b < 17 → a ≠ b → (TX4 a).2.1 ≠ (TX4 b).2.1 := by decide +kernel
theorem tyX4_ok : ∀ k, k < 17 → parseFieldDescriptor (TX4 k).2.2.1 = some (tyX4 k) := by decide +kernel
abbrev cX4_init : ByteArray := prog_6_method_1_code
def yX4_init : MethodName := ⟨RX4, "<init>", "()V"⟩
abbrev cX4_clear : ByteArray := prog_6_method_2_code
def yX4_clear : MethodName := ⟨RX4, "clear", "()V"⟩
abbrev cX4_copyFrom : ByteArray := prog_6_method_3_code
def yX4_copyFrom : MethodName := ⟨RX4, "copyFrom", "(LTwoMetals$World;)V"⟩
abbrev cX4_has : ByteArray := prog_6_method_4_code
def yX4_has : MethodName := ⟨RX4, "has", "(I)Z"⟩
abbrev cX4_mints : ByteArray := prog_6_method_5_code
def yX4_mints : MethodName := ⟨RX4, "mints", "(I)Z"⟩
abbrev cX4_limps : ByteArray := prog_6_method_6_code
def yX4_limps : MethodName := ⟨RX4, "limps", "(I)Z"⟩
abbrev cX4_hasGold : ByteArray := prog_6_method_7_code
def yX4_hasGold : MethodName := ⟨RX4, "hasGold", "(I)Z"⟩
abbrev cX4_hasSilver : ByteArray := prog_6_method_8_code
def yX4_hasSilver : MethodName := ⟨RX4, "hasSilver", "(I)Z"⟩
abbrev cX4_setLaw : ByteArray := prog_6_method_9_code
def yX4_setLaw : MethodName := ⟨RX4, "setLaw", "(II)V"⟩
abbrev cX4_weigh : ByteArray := prog_6_method_10_code
def yX4_weigh : MethodName := ⟨RX4, "weigh", "()V"⟩
abbrev cX4_heading : ByteArray := prog_6_method_11_code
def yX4_heading : MethodName := ⟨RX4, "heading", "(I)I"⟩
abbrev cX4_carry : ByteArray := prog_6_method_12_code
def yX4_carry : MethodName := ⟨RX4, "carry", "(II)V"⟩
abbrev cX4_holders : ByteArray := prog_6_method_13_code
def yX4_holders : MethodName := ⟨RX4, "holders", "()I"⟩
abbrev cX4_stopThoseThatRanLow : ByteArray := prog_6_method_14_code
def yX4_stopThoseThatRanLow : MethodName := ⟨RX4, "stopThoseThatRanLow", "()V"⟩
abbrev cX4_goldInAll : ByteArray := prog_6_method_15_code
def yX4_goldInAll : MethodName := ⟨RX4, "goldInAll", "()J"⟩
def RX5 : String := "TwoMetals"
def TX5 : u_T := fun k => match k with
  | 0 => ("TwoMetals", "text", "LTwoMetals$Text;", true)
  | 1 => ("TwoMetals", "reader", "LTwoMetals$Reader;", true)
  | 2 => ("TwoMetals", "mover", "LTwoMetals$Mover;", true)
  | 3 => ("TwoMetals", "mines", "LTwoMetals$Mines;", true)
  | 4 => ("TwoMetals", "now", "LTwoMetals$World;", true)
  | 5 => ("TwoMetals", "trial", "LTwoMetals$World;", true)
  | 6 => ("TwoMetals", "kept", "[LTwoMetals$World;", true)
  | _ => ("TwoMetals", "keptCount", "I", false)
def tyX5 : Nat → FieldType := fun k => match k with
  | 0 => .object "TwoMetals$Text"
  | 1 => .object "TwoMetals$Reader"
  | 2 => .object "TwoMetals$Mover"
  | 3 => .object "TwoMetals$Mines"
  | 4 => .object "TwoMetals$World"
  | 5 => .object "TwoMetals$World"
  | 6 => .array (.object "TwoMetals$World")
  | _ => .int
abbrev wsX50 : List Cond := u_ws RX5 TX5 8
theorem nmX5 : ∀ a, a < 8 → ∀ b, b < 8 → a ≠ b → (TX5 a).2.1 ≠ (TX5 b).2.1 := by decide +kernel
theorem tyX5_ok : ∀ k, k < 8 → parseFieldDescriptor (TX5 k).2.2.1 = some (tyX5 k) := by decide +kernel
abbrev cX5_init : ByteArray := prog_1_method_1_code
def yX5_init : MethodName := ⟨RX5, "<init>", "()V"⟩
abbrev cX5_write : ByteArray := prog_1_method_2_code
def yX5_write : MethodName := ⟨RX5, "write", "(IJ)I"⟩
abbrev cX5_wipe : ByteArray := prog_1_method_3_code
def yX5_wipe : MethodName := ⟨RX5, "wipe", "()I"⟩
abbrev cX5_fault : ByteArray := prog_1_method_4_code
def yX5_fault : MethodName := ⟨RX5, "fault", "()I"⟩
abbrev cX5_lay : ByteArray := prog_1_method_5_code
def yX5_lay : MethodName := ⟨RX5, "lay", "()I"⟩
abbrev cX5_realm : ByteArray := prog_1_method_6_code
def yX5_realm : MethodName := ⟨RX5, "realm", "(II)J"⟩
abbrev cX5_market : ByteArray := prog_1_method_7_code
def yX5_market : MethodName := ⟨RX5, "market", "(I)J"⟩
abbrev cX5_moves : ByteArray := prog_1_method_8_code
def yX5_moves : MethodName := ⟨RX5, "moves", "(I)I"⟩
abbrev cX5_ends : ByteArray := prog_1_method_9_code
def yX5_ends : MethodName := ⟨RX5, "ends", "(II)I"⟩
abbrev cX5_held : ByteArray := prog_1_method_10_code
def yX5_held : MethodName := ⟨RX5, "held", "()I"⟩
abbrev cX5_year : ByteArray := prog_1_method_11_code
def yX5_year : MethodName := ⟨RX5, "year", "()I"⟩
abbrev cX5_rest : ByteArray := prog_1_method_12_code
def yX5_rest : MethodName := ⟨RX5, "rest", "()I"⟩
abbrev cX5_gone : ByteArray := prog_1_method_13_code
def yX5_gone : MethodName := ⟨RX5, "gone", "(III)I"⟩
abbrev cX5_stopped : ByteArray := prog_1_method_14_code
def yX5_stopped : MethodName := ⟨RX5, "stopped", "(II)I"⟩
abbrev cX5_free : ByteArray := prog_1_method_15_code
def yX5_free : MethodName := ⟨RX5, "free", "(I)I"⟩
abbrev cX5_ahead : ByteArray := prog_1_method_16_code
def yX5_ahead : MethodName := ⟨RX5, "ahead", "(I)I"⟩
abbrev cX5_debt : ByteArray := prog_1_method_17_code
def yX5_debt : MethodName := ⟨RX5, "debt", "(III)I"⟩
abbrev cX5_pact : ByteArray := prog_1_method_18_code
def yX5_pact : MethodName := ⟨RX5, "pact", "(III)I"⟩
abbrev cX5_fewest : ByteArray := prog_1_method_19_code
def yX5_fewest : MethodName := ⟨RX5, "fewest", "(I)I"⟩
abbrev cX5_bought : ByteArray := prog_1_method_20_code
def yX5_bought : MethodName := ⟨RX5, "bought", "(II)I"⟩
abbrev cX5_corner : ByteArray := prog_1_method_21_code
def yX5_corner : MethodName := ⟨RX5, "corner", "(I)I"⟩
abbrev cX5_move : ByteArray := prog_1_method_22_code
def yX5_move : MethodName := ⟨RX5, "move", "(II)I"⟩
abbrev cX5_melted : ByteArray := prog_1_method_23_code
def yX5_melted : MethodName := ⟨RX5, "melted", "()I"⟩
abbrev cX5_keep : ByteArray := prog_1_method_24_code
def yX5_keep : MethodName := ⟨RX5, "keep", "()I"⟩
abbrev cX5_back : ByteArray := prog_1_method_25_code
def yX5_back : MethodName := ⟨RX5, "back", "()I"⟩
abbrev cX5_count : ByteArray := prog_1_method_26_code
def yX5_count : MethodName := ⟨RX5, "count", "(I)I"⟩
abbrev cX5_tryPact : ByteArray := prog_1_method_27_code
def yX5_tryPact : MethodName := ⟨RX5, "tryPact", "(II)I"⟩
abbrev cX5_allHold : ByteArray := prog_1_method_28_code
def yX5_allHold : MethodName := ⟨RX5, "allHold", "(I)Z"⟩
abbrev cX5_tryPurchase : ByteArray := prog_1_method_29_code
def yX5_tryPurchase : MethodName := ⟨RX5, "tryPurchase", "(I)I"⟩
abbrev cX5_isZeroOrOne : ByteArray := prog_1_method_30_code
def yX5_isZeroOrOne : MethodName := ⟨RX5, "isZeroOrOne", "(I)Z"⟩
abbrev cX5_isSpanOfYears : ByteArray := prog_1_method_31_code
def yX5_isSpanOfYears : MethodName := ⟨RX5, "isSpanOfYears", "(I)Z"⟩
abbrev cX5_isLaw : ByteArray := prog_1_method_32_code
def yX5_isLaw : MethodName := ⟨RX5, "isLaw", "(I)Z"⟩
def RX6 : String := "TwoMetalsModel"
def TX6 : u_T := fun k => match k with
  | 0 => ("TwoMetalsModel", "length", "I", false)
  | 1 => ("TwoMetalsModel", "text", "[I", true)
  | 2 => ("TwoMetalsModel", "realms", "[J", true)
  | 3 => ("TwoMetalsModel", "markets", "[J", true)
  | 4 => ("TwoMetalsModel", "scarce", "[I", true)
  | 5 => ("TwoMetalsModel", "mineMany", "[I", true)
  | 6 => ("TwoMetalsModel", "mines", "[I", true)
  | 7 => ("TwoMetalsModel", "keptMany", "I", false)
  | 8 => ("TwoMetalsModel", "place", "I", false)
  | 9 => ("TwoMetalsModel", "numbers", "[I", true)
  | _ => ("TwoMetalsModel", "moved", "[I", true)
def tyX6 : Nat → FieldType := fun k => match k with
  | 0 => .int
  | 1 => .array .int
  | 2 => .array .long
  | 3 => .array .long
  | 4 => .array .int
  | 5 => .array .int
  | 6 => .array .int
  | 7 => .int
  | 8 => .int
  | 9 => .array .int
  | _ => .array .int
abbrev wsX60 : List Cond := u_ws RX6 TX6 11
theorem nmX6 : ∀ a, a < 11 → ∀ b, b < 11 → a ≠ b → (TX6 a).2.1 ≠ (TX6 b).2.1 := by decide +kernel
theorem tyX6_ok : ∀ k, k < 11 → parseFieldDescriptor (TX6 k).2.2.1 = some (tyX6 k) := by decide +kernel
abbrev cX6_init : ByteArray := prog_8_method_1_code
def yX6_init : MethodName := ⟨RX6, "<init>", "()V"⟩
abbrev cX6_in : ByteArray := prog_8_method_2_code
def yX6_in : MethodName := ⟨RX6, "in", "(JJJ)Z"⟩
abbrev cX6_has : ByteArray := prog_8_method_3_code
def yX6_has : MethodName := ⟨RX6, "has", "(II)Z"⟩
abbrev cX6_bits : ByteArray := prog_8_method_4_code
def yX6_bits : MethodName := ⟨RX6, "bits", "(I)I"⟩
abbrev cX6_noWorld : ByteArray := prog_8_method_5_code
def yX6_noWorld : MethodName := ⟨RX6, "noWorld", "(II)V"⟩
abbrev cX6_write : ByteArray := prog_8_method_6_code
def yX6_write : MethodName := ⟨RX6, "write", "(IJ)I"⟩
abbrev cX6_wipe : ByteArray := prog_8_method_7_code
def yX6_wipe : MethodName := ⟨RX6, "wipe", "()I"⟩
abbrev cX6_byteAt : ByteArray := prog_8_method_8_code
def yX6_byteAt : MethodName := ⟨RX6, "byteAt", "(I)I"⟩
abbrev cX6_figures : ByteArray := prog_8_method_9_code
def yX6_figures : MethodName := ⟨RX6, "figures", "(I)Z"⟩
abbrev cX6_isRead : ByteArray := prog_8_method_10_code
def yX6_isRead : MethodName := ⟨RX6, "isRead", "(I)Z"⟩
abbrev cX6_realmItem : ByteArray := prog_8_method_11_code
def yX6_realmItem : MethodName := ⟨RX6, "realmItem", "()Z"⟩
abbrev cX6_mineItem : ByteArray := prog_8_method_12_code
def yX6_mineItem : MethodName := ⟨RX6, "mineItem", "()Z"⟩
abbrev cX6_item : ByteArray := prog_8_method_13_code
def yX6_item : MethodName := ⟨RX6, "item", "()Z"⟩
abbrev cX6_readAll : ByteArray := prog_8_method_14_code
def yX6_readAll : MethodName := ⟨RX6, "readAll", "()I"⟩
abbrev cX6_fault : ByteArray := prog_8_method_15_code
def yX6_fault : MethodName := ⟨RX6, "fault", "()I"⟩
abbrev cX6_copy : ByteArray := prog_8_method_16_code
def yX6_copy : MethodName := ⟨RX6, "copy", "(II)V"⟩
abbrev cX6_realmMany : ByteArray := prog_8_method_17_code
def yX6_realmMany : MethodName := ⟨RX6, "realmMany", "(Z)I"⟩
abbrev cX6_lay : ByteArray := prog_8_method_18_code
def yX6_lay : MethodName := ⟨RX6, "lay", "()I"⟩
abbrev cX6_isRealm : ByteArray := prog_8_method_19_code
def yX6_isRealm : MethodName := ⟨RX6, "isRealm", "(I)Z"⟩
abbrev cX6_mints : ByteArray := prog_8_method_20_code
def yX6_mints : MethodName := ⟨RX6, "mints", "(I)Z"⟩
abbrev cX6_realm : ByteArray := prog_8_method_21_code
def yX6_realm : MethodName := ⟨RX6, "realm", "(II)J"⟩
abbrev cX6_ratio : ByteArray := prog_8_method_22_code
def yX6_ratio : MethodName := ⟨RX6, "ratio", "()J"⟩
abbrev cX6_market : ByteArray := prog_8_method_23_code
def yX6_market : MethodName := ⟨RX6, "market", "(I)J"⟩
abbrev cX6_above : ByteArray := prog_8_method_24_code
def yX6_above : MethodName := ⟨RX6, "above", "(J)J"⟩
abbrev cX6_movesOf : ByteArray := prog_8_method_25_code
def yX6_movesOf : MethodName := ⟨RX6, "movesOf", "(I)I"⟩
abbrev cX6_moves : ByteArray := prog_8_method_26_code
def yX6_moves : MethodName := ⟨RX6, "moves", "(I)I"⟩
abbrev cX6_endOf : ByteArray := prog_8_method_27_code
def yX6_endOf : MethodName := ⟨RX6, "endOf", "(IZ)J"⟩
abbrev cX6_ends : ByteArray := prog_8_method_28_code
def yX6_ends : MethodName := ⟨RX6, "ends", "(II)I"⟩
abbrev cX6_holdsRatio : ByteArray := prog_8_method_29_code
def yX6_holdsRatio : MethodName := ⟨RX6, "holdsRatio", "(I)Z"⟩
abbrev cX6_held : ByteArray := prog_8_method_30_code
def yX6_held : MethodName := ⟨RX6, "held", "()I"⟩
abbrev cX6_moveSack : ByteArray := prog_8_method_31_code
def yX6_moveSack : MethodName := ⟨RX6, "moveSack", "(II)V"⟩
abbrev cX6_goYear : ByteArray := prog_8_method_32_code
def yX6_goYear : MethodName := ⟨RX6, "goYear", "()I"⟩
abbrev cX6_year : ByteArray := prog_8_method_33_code
def yX6_year : MethodName := ⟨RX6, "year", "()I"⟩
abbrev cX6_goRest : ByteArray := prog_8_method_34_code
def yX6_goRest : MethodName := ⟨RX6, "goRest", "()I"⟩
abbrev cX6_rest : ByteArray := prog_8_method_35_code
def yX6_rest : MethodName := ⟨RX6, "rest", "()I"⟩
abbrev cX6_areYears : ByteArray := prog_8_method_36_code
def yX6_areYears : MethodName := ⟨RX6, "areYears", "(I)Z"⟩
abbrev cX6_gone : ByteArray := prog_8_method_37_code
def yX6_gone : MethodName := ⟨RX6, "gone", "(III)I"⟩
abbrev cX6_stopped : ByteArray := prog_8_method_38_code
def yX6_stopped : MethodName := ⟨RX6, "stopped", "(II)I"⟩
abbrev cX6_free : ByteArray := prog_8_method_39_code
def yX6_free : MethodName := ⟨RX6, "free", "(I)I"⟩
abbrev cX6_ahead : ByteArray := prog_8_method_40_code
def yX6_ahead : MethodName := ⟨RX6, "ahead", "(I)I"⟩
abbrev cX6_debt : ByteArray := prog_8_method_41_code
def yX6_debt : MethodName := ⟨RX6, "debt", "(III)I"⟩
abbrev cX6_minting : ByteArray := prog_8_method_42_code
def yX6_minting : MethodName := ⟨RX6, "minting", "()I"⟩
abbrev cX6_isRatio : ByteArray := prog_8_method_43_code
def yX6_isRatio : MethodName := ⟨RX6, "isRatio", "(I)Z"⟩
abbrev cX6_pactOf : ByteArray := prog_8_method_44_code
def yX6_pactOf : MethodName := ⟨RX6, "pactOf", "(III)I"⟩
abbrev cX6_pact : ByteArray := prog_8_method_45_code
def yX6_pact : MethodName := ⟨RX6, "pact", "(III)I"⟩
abbrev cX6_fewest : ByteArray := prog_8_method_46_code
def yX6_fewest : MethodName := ⟨RX6, "fewest", "(I)I"⟩
abbrev cX6_boughtOf : ByteArray := prog_8_method_47_code
def yX6_boughtOf : MethodName := ⟨RX6, "boughtOf", "(JI)I"⟩
abbrev cX6_bought : ByteArray := prog_8_method_48_code
def yX6_bought : MethodName := ⟨RX6, "bought", "(II)I"⟩
abbrev cX6_corner : ByteArray := prog_8_method_49_code
def yX6_corner : MethodName := ⟨RX6, "corner", "(I)I"⟩
abbrev cX6_move : ByteArray := prog_8_method_50_code
def yX6_move : MethodName := ⟨RX6, "move", "(II)I"⟩
abbrev cX6_melted : ByteArray := prog_8_method_51_code
def yX6_melted : MethodName := ⟨RX6, "melted", "()I"⟩
abbrev cX6_keep : ByteArray := prog_8_method_52_code
def yX6_keep : MethodName := ⟨RX6, "keep", "()I"⟩
abbrev cX6_back : ByteArray := prog_8_method_53_code
def yX6_back : MethodName := ⟨RX6, "back", "()I"⟩
abbrev cX6_count : ByteArray := prog_8_method_54_code
def yX6_count : MethodName := ⟨RX6, "count", "(I)I"⟩
def RJ6 : String := "java/lang/Integer"
def TJ6 : u_T := fun k => match k with
  | _ => ("", "", "", false)
def tyJ6 : Nat → FieldType := fun k => match k with
  | _ => .int
abbrev wsJ60 : List Cond := u_ws RJ6 TJ6 0
theorem nmJ6 : ∀ a, a < 0 → ∀ b, b < 0 → a ≠ b → (TJ6 a).2.1 ≠ (TJ6 b).2.1 := by decide +kernel
theorem tyJ6_ok : ∀ k, k < 0 → parseFieldDescriptor (TJ6 k).2.2.1 = some (tyJ6 k) := by decide +kernel
abbrev cJ6_bitCount_0f7a4 : ByteArray := prog_9_method_49_code
def yJ6_bitCount_0f7a4 : MethodName := ⟨RJ6, "bitCount", "(I)I"⟩
def RJ9 : String := "java/lang/Math"
def TJ9 : u_T := fun k => match k with
  | _ => ("", "", "", false)
def tyJ9 : Nat → FieldType := fun k => match k with
  | _ => .int
abbrev wsJ90 : List Cond := u_ws RJ9 TJ9 0
theorem nmJ9 : ∀ a, a < 0 → ∀ b, b < 0 → a ≠ b → (TJ9 a).2.1 ≠ (TJ9 b).2.1 := by decide +kernel
theorem tyJ9_ok : ∀ k, k < 0 → parseFieldDescriptor (TJ9 k).2.2.1 = some (tyJ9 k) := by decide +kernel
abbrev cJ9_max_7cf53 : ByteArray := prog_10_method_65_code
def yJ9_max_7cf53 : MethodName := ⟨RJ9, "max", "(II)I"⟩
abbrev cJ9_min_7cf53 : ByteArray := prog_10_method_69_code
def yJ9_min_7cf53 : MethodName := ⟨RJ9, "min", "(II)I"⟩
abbrev cJ9_min_f86c9 : ByteArray := prog_10_method_70_code
def yJ9_min_f86c9 : MethodName := ⟨RJ9, "min", "(JJ)J"⟩
def RJ10 : String := "java/lang/System"
def TJ10 : u_T := fun k => match k with
  | _ => ("", "", "", false)
def tyJ10 : Nat → FieldType := fun k => match k with
  | _ => .int
abbrev wsJ100 : List Cond := u_ws RJ10 TJ10 0
theorem nmJ10 : ∀ a, a < 0 → ∀ b, b < 0 → a ≠ b → (TJ10 a).2.1 ≠ (TJ10 b).2.1 := by decide +kernel
theorem tyJ10_ok : ∀ k, k < 0 → parseFieldDescriptor (TJ10 k).2.2.1 = some (tyJ10 k) := by decide +kernel
def RJ7 : String := "java/util/Arrays"
def TJ7 : u_T := fun k => match k with
  | _ => ("", "", "", false)
def tyJ7 : Nat → FieldType := fun k => match k with
  | _ => .int
abbrev wsJ70 : List Cond := u_ws RJ7 TJ7 0
theorem nmJ7 : ∀ a, a < 0 → ∀ b, b < 0 → a ≠ b → (TJ7 a).2.1 ≠ (TJ7 b).2.1 := by decide +kernel
theorem tyJ7_ok : ∀ k, k < 0 → parseFieldDescriptor (TJ7 k).2.2.1 = some (tyJ7 k) := by decide +kernel
abbrev cJ7_fill_53178 : ByteArray := prog_12_method_103_code
def yJ7_fill_53178 : MethodName := ⟨RJ7, "fill", "([II)V"⟩
def RL : String := "TwoMetalsLaw"
abbrev cL_law : ByteArray := code
def yL_law : MethodName := ⟨RL, "law", "([I)Z"⟩
def wsX0_init : List Cond := .code yX0_init cX0_init 1 none :: ([.methodLink RX0 3 objectInit, .instanceMethod objectInit, .code objectInit ⟨#[0xb1]⟩ 1 none, .arrayClass .int, .fieldLink RX0 11 "TwoMetals$Mines" "told" "[I", .fieldLink RX0 15 "TwoMetals$Mines" "gold" "[I", .fieldLink RX0 18 "TwoMetals$Mines" "silver" "[I"] ++ wsX00)
def wsJ7_fill_53178 : List Cond := .code yJ7_fill_53178 cJ7_fill_53178 4 none :: ([])
def wsX0_clear : List Cond := .code yX0_clear cX0_clear 1 none :: ([.fieldLink RX0 11 "TwoMetals$Mines" "told" "[I", .fieldLink RX0 15 "TwoMetals$Mines" "gold" "[I", .fieldLink RX0 18 "TwoMetals$Mines" "silver" "[I", .methodLink RX0 21 yJ7_fill_53178, .static yJ7_fill_53178, .initialized RJ7, .code yJ7_fill_53178 cJ7_fill_53178 4 none] ++ wsX00)
def wsX0_copyFrom : List Cond := .code yX0_copyFrom cX0_copyFrom 2 none :: ([.fieldLink RX0 11 "TwoMetals$Mines" "told" "[I", .methodLink RX0 27 arraycopyName, .native arraycopyName, .static arraycopyName, .initialized "java/lang/System", .fieldLink RX0 15 "TwoMetals$Mines" "gold" "[I", .fieldLink RX0 18 "TwoMetals$Mines" "silver" "[I"] ++ wsX00)
def wsX0_tell : List Cond := .code yX0_tell cX0_tell 4 none :: ([.fieldLink RX0 11 "TwoMetals$Mines" "told" "[I", .fieldLink RX0 15 "TwoMetals$Mines" "gold" "[I", .fieldLink RX0 18 "TwoMetals$Mines" "silver" "[I"] ++ wsX00)
def wsX0_fillGaps : List Cond := .code yX0_fillGaps cX0_fillGaps 2 none :: ([.fieldLink RX0 11 "TwoMetals$Mines" "told" "[I", .fieldLink RX0 15 "TwoMetals$Mines" "gold" "[I", .fieldLink RX0 18 "TwoMetals$Mines" "silver" "[I"] ++ wsX00)
def wsX4_weigh : List Cond := .code yX4_weigh cX4_weigh 1 none :: ([.fieldLink RX4 50 "TwoMetals$World" "marketGold" "J", .constant RX4 60 (1000000), .fieldLink RX4 61 "TwoMetals$World" "price" "I", .fieldLink RX4 57 "TwoMetals$World" "scarcity" "I", .fieldLink RX4 54 "TwoMetals$World" "marketSilver" "J", .constantLong RX4 73 (1000), .constantLong RX4 81 (1000000), .methodLink RX4 83 Lib.MathLoose.min_long.x, .static Lib.MathLoose.min_long.x, .initialized "java/lang/Math", .code Lib.MathLoose.min_long.x Lib.MathLoose.min_long.code 4 (some .long)] ++ wsX40)
def wsX0_bringTo_r1 : List Cond := [Cond.fieldLink RX0 33 "TwoMetals$World" "age" "I", Cond.methodLink RX0 39 Lib.Math.min.name, Cond.static Lib.Math.min.name, Cond.initialized "java/lang/Math", Cond.code Lib.Math.min.name Lib.Math.min.code 2 (some .int), Cond.methodLink RX0 45 Lib.Math.max.name, Cond.static Lib.Math.max.name, Cond.code Lib.Math.max.name Lib.Math.max.code 2 (some .int), Cond.fieldLink RX0 48 "TwoMetals$World" "marketGold" "J", Cond.fieldLink RX0 15 "TwoMetals$Mines" "gold" "[I", Cond.fieldLink RX0 52 "TwoMetals$World" "marketSilver" "J", Cond.constantLong RX0 55 (1000), Cond.fieldLink RX0 18 "TwoMetals$Mines" "silver" "[I", Cond.methodLink RX0 57 yX4_weigh, Cond.instanceMethod yX4_weigh, Cond.selects RX4 yX4_weigh yX4_weigh, Cond.initialized RX4, Cond.code yX4_weigh cX4_weigh 1 none, Cond.fieldLink RX4 50 "TwoMetals$World" "marketGold" "J", Cond.constant RX4 60 (1000000), Cond.fieldLink RX4 61 "TwoMetals$World" "price" "I", Cond.fieldLink RX4 57 "TwoMetals$World" "scarcity" "I", Cond.fieldLink RX4 54 "TwoMetals$World" "marketSilver" "J", Cond.constantLong RX4 73 (1000)]
def wsX0_bringTo_r2 : List Cond := [Cond.constantLong RX4 81 (1000000), Cond.methodLink RX4 83 Lib.MathLoose.min_long.x, Cond.static Lib.MathLoose.min_long.x, Cond.code Lib.MathLoose.min_long.x Lib.MathLoose.min_long.code 4 (some .long)]
def wsX0_bringTo : List Cond := .code yX0_bringTo cX0_bringTo 3 none :: ((wsX0_bringTo_r1 ++ wsX0_bringTo_r2) ++ wsX40 ++ wsX00)
def wsX1_init : List Cond := .code yX1_init cX1_init 1 none :: ([.methodLink RX1 5 objectInit, .instanceMethod objectInit, .code objectInit ⟨#[0xb1]⟩ 1 none, .arrayClass .int, .fieldLink RX1 11 "TwoMetals$Mover" "left" "[I", .arrayClass .long, .fieldLink RX1 15 "TwoMetals$Mover" "marked" "[J"] ++ wsX10)
def wsX4_mints : List Cond := .code yX4_mints cX4_mints 2 (some .boolean) :: ([.fieldLink RX4 44 "TwoMetals$World" "minting" "I"] ++ wsX40)
def wsX4_limps : List Cond := .code yX4_limps cX4_limps 2 (some .boolean) :: ([.fieldLink RX4 47 "TwoMetals$World" "limping" "I"] ++ wsX40)
def wsX4_hasGold : List Cond := .code yX4_hasGold cX4_hasGold 2 (some .boolean) :: ([.fieldLink RX4 33 "TwoMetals$World" "gold" "[J"] ++ wsX40)
def wsX4_hasSilver : List Cond := .code yX4_hasSilver cX4_hasSilver 2 (some .boolean) :: ([.fieldLink RX4 37 "TwoMetals$World" "silver" "[J", .fieldLink RX4 9 "TwoMetals$World" "law" "[I"] ++ wsX40)
def wsX4_heading_r1 : List Cond := [Cond.fieldLink RX4 61 "TwoMetals$World" "price" "I", Cond.fieldLink RX4 30 "TwoMetals$World" "high" "[I", Cond.fieldLink RX4 54 "TwoMetals$World" "marketSilver" "J", Cond.fieldLink RX4 9 "TwoMetals$World" "law" "[I", Cond.fieldLink RX4 27 "TwoMetals$World" "low" "[I", Cond.fieldLink RX4 50 "TwoMetals$World" "marketGold" "J", Cond.methodLink RX4 87 yX4_mints, Cond.instanceMethod yX4_mints, Cond.selects RX4 yX4_mints yX4_mints, Cond.initialized RX4, Cond.code yX4_mints cX4_mints 2 (some .boolean), Cond.fieldLink RX4 44 "TwoMetals$World" "minting" "I", Cond.methodLink RX4 91 yX4_limps, Cond.instanceMethod yX4_limps, Cond.selects RX4 yX4_limps yX4_limps, Cond.code yX4_limps cX4_limps 2 (some .boolean), Cond.fieldLink RX4 47 "TwoMetals$World" "limping" "I", Cond.methodLink RX4 94 yX4_hasGold, Cond.instanceMethod yX4_hasGold, Cond.selects RX4 yX4_hasGold yX4_hasGold, Cond.code yX4_hasGold cX4_hasGold 2 (some .boolean), Cond.fieldLink RX4 33 "TwoMetals$World" "gold" "[J", Cond.methodLink RX4 97 yX4_hasSilver, Cond.instanceMethod yX4_hasSilver]
def wsX4_heading_r2 : List Cond := [Cond.selects RX4 yX4_hasSilver yX4_hasSilver, Cond.code yX4_hasSilver cX4_hasSilver 2 (some .boolean), Cond.fieldLink RX4 37 "TwoMetals$World" "silver" "[J"]
def wsX4_heading : List Cond := .code yX4_heading cX4_heading 3 (some .int) :: ((wsX4_heading_r1 ++ wsX4_heading_r2) ++ wsX40)
def wsX4_carry : List Cond := .code yX4_carry cX4_carry 4 none :: ([.fieldLink RX4 33 "TwoMetals$World" "gold" "[J", .fieldLink RX4 50 "TwoMetals$World" "marketGold" "J", .fieldLink RX4 37 "TwoMetals$World" "silver" "[J", .fieldLink RX4 9 "TwoMetals$World" "law" "[I", .fieldLink RX4 54 "TwoMetals$World" "marketSilver" "J", .methodLink RX4 100 yX4_weigh, .instanceMethod yX4_weigh, .selects RX4 yX4_weigh yX4_weigh, .initialized RX4, .code yX4_weigh cX4_weigh 1 none, .constant RX4 60 (1000000), .fieldLink RX4 61 "TwoMetals$World" "price" "I", .fieldLink RX4 57 "TwoMetals$World" "scarcity" "I", .constantLong RX4 73 (1000), .constantLong RX4 81 (1000000), .methodLink RX4 83 Lib.MathLoose.min_long.x, .static Lib.MathLoose.min_long.x, .initialized "java/lang/Math", .code Lib.MathLoose.min_long.x Lib.MathLoose.min_long.code 4 (some .long)] ++ wsX40)
def wsX1_goRound_r1 : List Cond := [Cond.fieldLink RX1 11 "TwoMetals$Mover" "left" "[I", Cond.methodLink RX1 68 yX4_heading, Cond.instanceMethod yX4_heading, Cond.selects RX4 yX4_heading yX4_heading, Cond.initialized RX4, Cond.code yX4_heading cX4_heading 3 (some .int), Cond.fieldLink RX4 61 "TwoMetals$World" "price" "I", Cond.fieldLink RX4 30 "TwoMetals$World" "high" "[I", Cond.fieldLink RX4 54 "TwoMetals$World" "marketSilver" "J", Cond.fieldLink RX4 9 "TwoMetals$World" "law" "[I", Cond.fieldLink RX4 27 "TwoMetals$World" "low" "[I", Cond.fieldLink RX4 50 "TwoMetals$World" "marketGold" "J", Cond.methodLink RX4 87 yX4_mints, Cond.instanceMethod yX4_mints, Cond.selects RX4 yX4_mints yX4_mints, Cond.code yX4_mints cX4_mints 2 (some .boolean), Cond.fieldLink RX4 44 "TwoMetals$World" "minting" "I", Cond.methodLink RX4 91 yX4_limps, Cond.instanceMethod yX4_limps, Cond.selects RX4 yX4_limps yX4_limps, Cond.code yX4_limps cX4_limps 2 (some .boolean), Cond.fieldLink RX4 47 "TwoMetals$World" "limping" "I", Cond.methodLink RX4 94 yX4_hasGold, Cond.instanceMethod yX4_hasGold]
def wsX1_goRound_r2 : List Cond := [Cond.selects RX4 yX4_hasGold yX4_hasGold, Cond.code yX4_hasGold cX4_hasGold 2 (some .boolean), Cond.fieldLink RX4 33 "TwoMetals$World" "gold" "[J", Cond.methodLink RX4 97 yX4_hasSilver, Cond.instanceMethod yX4_hasSilver, Cond.selects RX4 yX4_hasSilver yX4_hasSilver, Cond.code yX4_hasSilver cX4_hasSilver 2 (some .boolean), Cond.fieldLink RX4 37 "TwoMetals$World" "silver" "[J", Cond.methodLink RX1 71 yX4_carry, Cond.instanceMethod yX4_carry, Cond.selects RX4 yX4_carry yX4_carry, Cond.code yX4_carry cX4_carry 4 none, Cond.methodLink RX4 100 yX4_weigh, Cond.instanceMethod yX4_weigh, Cond.selects RX4 yX4_weigh yX4_weigh, Cond.code yX4_weigh cX4_weigh 1 none, Cond.constant RX4 60 (1000000), Cond.fieldLink RX4 57 "TwoMetals$World" "scarcity" "I", Cond.constantLong RX4 73 (1000), Cond.constantLong RX4 81 (1000000), Cond.methodLink RX4 83 Lib.MathLoose.min_long.x, Cond.static Lib.MathLoose.min_long.x, Cond.initialized "java/lang/Math", Cond.code Lib.MathLoose.min_long.x Lib.MathLoose.min_long.code 4 (some .long)]
def wsX1_goRound : List Cond := .code yX1_goRound cX1_goRound 5 (some .int) :: ((wsX1_goRound_r1 ++ wsX1_goRound_r2) ++ wsX10 ++ wsX40)
def wsX4_stopThoseThatRanLow : List Cond := .code yX4_stopThoseThatRanLow cX4_stopThoseThatRanLow 2 none :: ([.fieldLink RX4 33 "TwoMetals$World" "gold" "[J", .fieldLink RX4 24 "TwoMetals$World" "stopAt" "[I", .fieldLink RX4 44 "TwoMetals$World" "minting" "I", .methodLink RX4 87 yX4_mints, .instanceMethod yX4_mints, .selects RX4 yX4_mints yX4_mints, .initialized RX4, .code yX4_mints cX4_mints 2 (some .boolean)] ++ wsX40)
def wsX1_passYear_r1 : List Cond := [Cond.fieldLink RX1 25 "TwoMetals$World" "yearly" "[I", Cond.fieldLink RX1 11 "TwoMetals$Mover" "left" "[I", Cond.methodLink RX1 30 arraycopyName, Cond.native arraycopyName, Cond.static arraycopyName, Cond.initialized "java/lang/System", Cond.fieldLink RX1 43 "TwoMetals$World" "age" "I", Cond.methodLink RX1 19 yX0_bringTo, Cond.instanceMethod yX0_bringTo, Cond.selects RX0 yX0_bringTo yX0_bringTo, Cond.initialized RX0, Cond.code yX0_bringTo cX0_bringTo 3 none, Cond.fieldLink RX0 33 "TwoMetals$World" "age" "I", Cond.methodLink RX0 39 Lib.Math.min.name, Cond.static Lib.Math.min.name, Cond.initialized "java/lang/Math", Cond.code Lib.Math.min.name Lib.Math.min.code 2 (some .int), Cond.methodLink RX0 45 Lib.Math.max.name, Cond.static Lib.Math.max.name, Cond.code Lib.Math.max.name Lib.Math.max.code 2 (some .int), Cond.fieldLink RX0 48 "TwoMetals$World" "marketGold" "J", Cond.fieldLink RX0 15 "TwoMetals$Mines" "gold" "[I", Cond.fieldLink RX0 52 "TwoMetals$World" "marketSilver" "J", Cond.constantLong RX0 55 (1000)]
def wsX1_passYear_r2 : List Cond := [Cond.fieldLink RX0 18 "TwoMetals$Mines" "silver" "[I", Cond.methodLink RX0 57 yX4_weigh, Cond.instanceMethod yX4_weigh, Cond.selects RX4 yX4_weigh yX4_weigh, Cond.initialized RX4, Cond.code yX4_weigh cX4_weigh 1 none, Cond.fieldLink RX4 50 "TwoMetals$World" "marketGold" "J", Cond.constant RX4 60 (1000000), Cond.fieldLink RX4 61 "TwoMetals$World" "price" "I", Cond.fieldLink RX4 57 "TwoMetals$World" "scarcity" "I", Cond.fieldLink RX4 54 "TwoMetals$World" "marketSilver" "J", Cond.constantLong RX4 73 (1000), Cond.constantLong RX4 81 (1000000), Cond.methodLink RX4 83 Lib.MathLoose.min_long.x, Cond.static Lib.MathLoose.min_long.x, Cond.code Lib.MathLoose.min_long.x Lib.MathLoose.min_long.code 4 (some .long), Cond.methodLink RX1 36 yX1_goRound, Cond.instanceMethod yX1_goRound, Cond.selects RX1 yX1_goRound yX1_goRound, Cond.initialized RX1, Cond.code yX1_goRound cX1_goRound 5 (some .int), Cond.methodLink RX1 68 yX4_heading, Cond.instanceMethod yX4_heading, Cond.selects RX4 yX4_heading yX4_heading]
def wsX1_passYear_r3 : List Cond := [Cond.code yX4_heading cX4_heading 3 (some .int), Cond.fieldLink RX4 30 "TwoMetals$World" "high" "[I", Cond.fieldLink RX4 9 "TwoMetals$World" "law" "[I", Cond.fieldLink RX4 27 "TwoMetals$World" "low" "[I", Cond.methodLink RX4 87 yX4_mints, Cond.instanceMethod yX4_mints, Cond.selects RX4 yX4_mints yX4_mints, Cond.code yX4_mints cX4_mints 2 (some .boolean), Cond.fieldLink RX4 44 "TwoMetals$World" "minting" "I", Cond.methodLink RX4 91 yX4_limps, Cond.instanceMethod yX4_limps, Cond.selects RX4 yX4_limps yX4_limps, Cond.code yX4_limps cX4_limps 2 (some .boolean), Cond.fieldLink RX4 47 "TwoMetals$World" "limping" "I", Cond.methodLink RX4 94 yX4_hasGold, Cond.instanceMethod yX4_hasGold, Cond.selects RX4 yX4_hasGold yX4_hasGold, Cond.code yX4_hasGold cX4_hasGold 2 (some .boolean), Cond.fieldLink RX4 33 "TwoMetals$World" "gold" "[J", Cond.methodLink RX4 97 yX4_hasSilver, Cond.instanceMethod yX4_hasSilver, Cond.selects RX4 yX4_hasSilver yX4_hasSilver, Cond.code yX4_hasSilver cX4_hasSilver 2 (some .boolean), Cond.fieldLink RX4 37 "TwoMetals$World" "silver" "[J"]
def wsX1_passYear_r4 : List Cond := [Cond.methodLink RX1 71 yX4_carry, Cond.instanceMethod yX4_carry, Cond.selects RX4 yX4_carry yX4_carry, Cond.code yX4_carry cX4_carry 4 none, Cond.methodLink RX4 100 yX4_weigh, Cond.methodLink RX1 40 yX4_stopThoseThatRanLow, Cond.instanceMethod yX4_stopThoseThatRanLow, Cond.selects RX4 yX4_stopThoseThatRanLow yX4_stopThoseThatRanLow, Cond.code yX4_stopThoseThatRanLow cX4_stopThoseThatRanLow 2 none, Cond.fieldLink RX4 24 "TwoMetals$World" "stopAt" "[I"]
def wsX1_passYear : List Cond := .code yX1_passYear cX1_passYear 6 (some .int) :: ((wsX1_passYear_r1 ++ (wsX1_passYear_r2 ++ (wsX1_passYear_r3 ++ wsX1_passYear_r4))) ++ wsX40 ++ wsX10 ++ wsX00)
def wsX1_mark : List Cond := .code yX1_mark cX1_mark 2 none :: ([.fieldLink RX1 75 "TwoMetals$World" "gold" "[J", .fieldLink RX1 15 "TwoMetals$Mover" "marked" "[J", .methodLink RX1 30 arraycopyName, .native arraycopyName, .static arraycopyName, .initialized "java/lang/System"] ++ wsX40 ++ wsX10)
def wsX1_isMarked : List Cond := .code yX1_isMarked cX1_isMarked 3 (some .boolean) :: ([.fieldLink RX1 15 "TwoMetals$Mover" "marked" "[J", .fieldLink RX1 75 "TwoMetals$World" "gold" "[J"] ++ wsX10 ++ wsX40)
def wsJ6_bitCount_0f7a4 : List Cond := .code yJ6_bitCount_0f7a4 cJ6_bitCount_0f7a4 1 (some .int) :: ([.constant RJ6 265 (1431655765), .constant RJ6 266 (858993459), .constant RJ6 267 (252645135)])
def wsX1_settle_r1 : List Cond := [Cond.fieldLink RX1 11 "TwoMetals$Mover" "left" "[I", Cond.constant RX1 47 (200001), Cond.constant RX1 57 (200000), Cond.methodLink RX1 48 yJ7_fill_53178, Cond.static yJ7_fill_53178, Cond.initialized RJ7, Cond.code yJ7_fill_53178 cJ7_fill_53178 4 none, Cond.methodLink RX1 54 yX1_mark, Cond.instanceMethod yX1_mark, Cond.selects RX1 yX1_mark yX1_mark, Cond.initialized RX1, Cond.code yX1_mark cX1_mark 2 none, Cond.fieldLink RX1 75 "TwoMetals$World" "gold" "[J", Cond.fieldLink RX1 15 "TwoMetals$Mover" "marked" "[J", Cond.methodLink RX1 30 arraycopyName, Cond.native arraycopyName, Cond.static arraycopyName, Cond.initialized "java/lang/System", Cond.methodLink RX1 36 yX1_goRound, Cond.instanceMethod yX1_goRound, Cond.selects RX1 yX1_goRound yX1_goRound, Cond.code yX1_goRound cX1_goRound 5 (some .int), Cond.methodLink RX1 68 yX4_heading, Cond.instanceMethod yX4_heading]
def wsX1_settle_r2 : List Cond := [Cond.selects RX4 yX4_heading yX4_heading, Cond.initialized RX4, Cond.code yX4_heading cX4_heading 3 (some .int), Cond.fieldLink RX4 61 "TwoMetals$World" "price" "I", Cond.fieldLink RX4 30 "TwoMetals$World" "high" "[I", Cond.fieldLink RX4 54 "TwoMetals$World" "marketSilver" "J", Cond.fieldLink RX4 9 "TwoMetals$World" "law" "[I", Cond.fieldLink RX4 27 "TwoMetals$World" "low" "[I", Cond.fieldLink RX4 50 "TwoMetals$World" "marketGold" "J", Cond.methodLink RX4 87 yX4_mints, Cond.instanceMethod yX4_mints, Cond.selects RX4 yX4_mints yX4_mints, Cond.code yX4_mints cX4_mints 2 (some .boolean), Cond.fieldLink RX4 44 "TwoMetals$World" "minting" "I", Cond.methodLink RX4 91 yX4_limps, Cond.instanceMethod yX4_limps, Cond.selects RX4 yX4_limps yX4_limps, Cond.code yX4_limps cX4_limps 2 (some .boolean), Cond.fieldLink RX4 47 "TwoMetals$World" "limping" "I", Cond.methodLink RX4 94 yX4_hasGold, Cond.instanceMethod yX4_hasGold, Cond.selects RX4 yX4_hasGold yX4_hasGold, Cond.code yX4_hasGold cX4_hasGold 2 (some .boolean), Cond.fieldLink RX4 33 "TwoMetals$World" "gold" "[J"]
def wsX1_settle_r3 : List Cond := [Cond.methodLink RX4 97 yX4_hasSilver, Cond.instanceMethod yX4_hasSilver, Cond.selects RX4 yX4_hasSilver yX4_hasSilver, Cond.code yX4_hasSilver cX4_hasSilver 2 (some .boolean), Cond.fieldLink RX4 37 "TwoMetals$World" "silver" "[J", Cond.methodLink RX1 71 yX4_carry, Cond.instanceMethod yX4_carry, Cond.selects RX4 yX4_carry yX4_carry, Cond.code yX4_carry cX4_carry 4 none, Cond.methodLink RX4 100 yX4_weigh, Cond.instanceMethod yX4_weigh, Cond.selects RX4 yX4_weigh yX4_weigh, Cond.code yX4_weigh cX4_weigh 1 none, Cond.constant RX4 60 (1000000), Cond.fieldLink RX4 57 "TwoMetals$World" "scarcity" "I", Cond.constantLong RX4 73 (1000), Cond.constantLong RX4 81 (1000000), Cond.methodLink RX4 83 Lib.MathLoose.min_long.x, Cond.static Lib.MathLoose.min_long.x, Cond.initialized "java/lang/Math", Cond.code Lib.MathLoose.min_long.x Lib.MathLoose.min_long.code 4 (some .long), Cond.methodLink RX1 58 yX1_isMarked, Cond.instanceMethod yX1_isMarked, Cond.selects RX1 yX1_isMarked yX1_isMarked]
def wsX1_settle_r4 : List Cond := [Cond.code yX1_isMarked cX1_isMarked 3 (some .boolean), Cond.methodLink RX1 62 yJ6_bitCount_0f7a4, Cond.static yJ6_bitCount_0f7a4, Cond.initialized RJ6, Cond.code yJ6_bitCount_0f7a4 cJ6_bitCount_0f7a4 1 (some .int), Cond.constant RJ6 265 (1431655765), Cond.constant RJ6 266 (858993459), Cond.constant RJ6 267 (252645135)]
def wsX1_settle : List Cond := .code yX1_settle cX1_settle 5 (some .int) :: ((wsX1_settle_r1 ++ (wsX1_settle_r2 ++ (wsX1_settle_r3 ++ wsX1_settle_r4))) ++ wsX10 ++ wsX40)
def wsX4_init : List Cond := .code yX4_init cX4_init 1 none :: ([.methodLink RX4 3 objectInit, .instanceMethod objectInit, .code objectInit ⟨#[0xb1]⟩ 1 none, .arrayClass .int, .fieldLink RX4 9 "TwoMetals$World" "law" "[I", .fieldLink RX4 15 "TwoMetals$World" "cut" "[I", .fieldLink RX4 18 "TwoMetals$World" "way" "[I", .fieldLink RX4 21 "TwoMetals$World" "yearly" "[I", .fieldLink RX4 24 "TwoMetals$World" "stopAt" "[I", .fieldLink RX4 27 "TwoMetals$World" "low" "[I", .fieldLink RX4 30 "TwoMetals$World" "high" "[I", .arrayClass .long, .fieldLink RX4 33 "TwoMetals$World" "gold" "[J", .fieldLink RX4 37 "TwoMetals$World" "silver" "[J", .fieldLink RX4 40 "TwoMetals$World" "told" "I", .fieldLink RX4 44 "TwoMetals$World" "minting" "I", .fieldLink RX4 47 "TwoMetals$World" "limping" "I", .fieldLink RX4 50 "TwoMetals$World" "marketGold" "J", .fieldLink RX4 54 "TwoMetals$World" "marketSilver" "J", .fieldLink RX4 57 "TwoMetals$World" "scarcity" "I", .constant RX4 60 (1000000), .fieldLink RX4 61 "TwoMetals$World" "price" "I", .fieldLink RX4 64 "TwoMetals$World" "age" "I"] ++ wsX40)
def wsX2_init_r1 : List Cond := [Cond.methodLink RX2 3 objectInit, Cond.instanceMethod objectInit, Cond.code objectInit ⟨#[0xb1]⟩ 1 none, Cond.classLink RX2 9 RX4, Cond.instantiable RX4 17, Cond.initialized RX4, Cond.fieldLink RX2 12 "TwoMetals$Reader" "world" "LTwoMetals$World;", Cond.classLink RX2 18 RX0, Cond.instantiable RX0 3, Cond.initialized RX0, Cond.fieldLink RX2 21 "TwoMetals$Reader" "mines" "LTwoMetals$Mines;", Cond.arrayClass .int, Cond.fieldLink RX2 25 "TwoMetals$Reader" "number" "[I", Cond.fieldLink RX2 29 "TwoMetals$Reader" "at" "I", Cond.instanceMethod yX4_init, Cond.code yX4_init cX4_init 1 none, Cond.methodLink RX4 3 objectInit, Cond.fieldLink RX4 9 "TwoMetals$World" "law" "[I", Cond.fieldLink RX4 15 "TwoMetals$World" "cut" "[I", Cond.fieldLink RX4 18 "TwoMetals$World" "way" "[I", Cond.fieldLink RX4 21 "TwoMetals$World" "yearly" "[I", Cond.fieldLink RX4 24 "TwoMetals$World" "stopAt" "[I", Cond.fieldLink RX4 27 "TwoMetals$World" "low" "[I", Cond.fieldLink RX4 30 "TwoMetals$World" "high" "[I"]
def wsX2_init_r2 : List Cond := [Cond.arrayClass .long, Cond.fieldLink RX4 33 "TwoMetals$World" "gold" "[J", Cond.fieldLink RX4 37 "TwoMetals$World" "silver" "[J", Cond.fieldLink RX4 40 "TwoMetals$World" "told" "I", Cond.fieldLink RX4 44 "TwoMetals$World" "minting" "I", Cond.fieldLink RX4 47 "TwoMetals$World" "limping" "I", Cond.fieldLink RX4 50 "TwoMetals$World" "marketGold" "J", Cond.fieldLink RX4 54 "TwoMetals$World" "marketSilver" "J", Cond.fieldLink RX4 57 "TwoMetals$World" "scarcity" "I", Cond.constant RX4 60 (1000000), Cond.fieldLink RX4 61 "TwoMetals$World" "price" "I", Cond.fieldLink RX4 64 "TwoMetals$World" "age" "I", Cond.instanceMethod yX0_init, Cond.code yX0_init cX0_init 1 none, Cond.methodLink RX0 3 objectInit, Cond.fieldLink RX0 11 "TwoMetals$Mines" "told" "[I", Cond.fieldLink RX0 15 "TwoMetals$Mines" "gold" "[I", Cond.fieldLink RX0 18 "TwoMetals$Mines" "silver" "[I"]
def wsX2_init : List Cond := .code yX2_init cX2_init 1 none :: ((wsX2_init_r1 ++ wsX2_init_r2) ++ wsX40 ++ wsX20 ++ wsX00)
def wsX4_clear : List Cond := .code yX4_clear cX4_clear 1 none :: ([.fieldLink RX4 40 "TwoMetals$World" "told" "I", .fieldLink RX4 44 "TwoMetals$World" "minting" "I", .fieldLink RX4 47 "TwoMetals$World" "limping" "I", .fieldLink RX4 50 "TwoMetals$World" "marketGold" "J", .fieldLink RX4 54 "TwoMetals$World" "marketSilver" "J", .fieldLink RX4 57 "TwoMetals$World" "scarcity" "I", .constant RX4 60 (1000000), .fieldLink RX4 61 "TwoMetals$World" "price" "I", .fieldLink RX4 64 "TwoMetals$World" "age" "I"] ++ wsX40)
def wsX2_numbersBehind : List Cond := .code yX2_numbersBehind cX2_numbersBehind 1 (some .int) :: ([])
def wsX2_isFigure : List Cond := .code yX2_isFigure cX2_isFigure 1 (some .boolean) :: ([])
def wsX2_readNumber : List Cond := .code yX2_readNumber cX2_readNumber 5 (some .boolean) :: ([.fieldLink RX2 29 "TwoMetals$Reader" "at" "I", .fieldLink RX2 39 "TwoMetals$Text" "length" "I", .fieldLink RX2 52 "TwoMetals$Text" "bytes" "[B", .fieldLink RX2 25 "TwoMetals$Reader" "number" "[I", .methodLink RX2 74 yX2_isFigure, .static yX2_isFigure, .initialized RX2, .code yX2_isFigure cX2_isFigure 1 (some .boolean)] ++ wsX20 ++ wsX30)
def wsX2_readSign : List Cond := .code yX2_readSign cX2_readSign 3 (some .boolean) :: ([.fieldLink RX2 29 "TwoMetals$Reader" "at" "I", .fieldLink RX2 39 "TwoMetals$Text" "length" "I", .fieldLink RX2 52 "TwoMetals$Text" "bytes" "[B"] ++ wsX20 ++ wsX30)
def wsX2_readNumbers : List Cond := .code yX2_readNumbers cX2_readNumbers 5 (some .boolean) :: ([.methodLink RX2 68 yX2_readNumber, .instanceMethod yX2_readNumber, .selects RX2 yX2_readNumber yX2_readNumber, .initialized RX2, .code yX2_readNumber cX2_readNumber 5 (some .boolean), .fieldLink RX2 29 "TwoMetals$Reader" "at" "I", .fieldLink RX2 39 "TwoMetals$Text" "length" "I", .fieldLink RX2 52 "TwoMetals$Text" "bytes" "[B", .fieldLink RX2 25 "TwoMetals$Reader" "number" "[I", .methodLink RX2 74 yX2_isFigure, .static yX2_isFigure, .code yX2_isFigure cX2_isFigure 1 (some .boolean), .methodLink RX2 71 yX2_readSign, .instanceMethod yX2_readSign, .selects RX2 yX2_readSign yX2_readSign, .code yX2_readSign cX2_readSign 3 (some .boolean)] ++ wsX20 ++ wsX30)
def wsX2_isWithin : List Cond := .code yX2_isWithin cX2_isWithin 4 (some .boolean) :: ([.fieldLink RX2 25 "TwoMetals$Reader" "number" "[I"] ++ wsX20)
def wsX4_has : List Cond := .code yX4_has cX4_has 2 (some .boolean) :: ([.fieldLink RX4 40 "TwoMetals$World" "told" "I"] ++ wsX40)
def wsX4_setLaw : List Cond := .code yX4_setLaw cX4_setLaw 8 none :: ([.fieldLink RX4 9 "TwoMetals$World" "law" "[I", .fieldLink RX4 18 "TwoMetals$World" "way" "[I", .constantLong RX4 73 (1000), .fieldLink RX4 15 "TwoMetals$World" "cut" "[I", .methodLink RX4 75 Lib.Math.max.name, .static Lib.Math.max.name, .initialized "java/lang/Math", .code Lib.Math.max.name Lib.Math.max.code 2 (some .int), .fieldLink RX4 27 "TwoMetals$World" "low" "[I", .fieldLink RX4 30 "TwoMetals$World" "high" "[I", .constantLong RX4 81 (1000000), .methodLink RX4 83 Lib.MathLoose.min_long.x, .static Lib.MathLoose.min_long.x, .code Lib.MathLoose.min_long.x Lib.MathLoose.min_long.code 4 (some .long)] ++ wsX40)
def wsX2_takeRealm_r1 : List Cond := [Cond.fieldLink RX2 12 "TwoMetals$Reader" "world" "LTwoMetals$World;", Cond.fieldLink RX2 25 "TwoMetals$Reader" "number" "[I", Cond.constant RX2 103 (99999), Cond.fieldLink RX2 106 "TwoMetals$World" "told" "I", Cond.fieldLink RX2 109 "TwoMetals$World" "minting" "I", Cond.fieldLink RX2 112 "TwoMetals$World" "cut" "[I", Cond.fieldLink RX2 115 "TwoMetals$World" "way" "[I", Cond.fieldLink RX2 122 "TwoMetals$World" "gold" "[J", Cond.fieldLink RX2 126 "TwoMetals$World" "silver" "[J", Cond.constantLong RX2 129 (1000), Cond.fieldLink RX2 131 "TwoMetals$World" "yearly" "[I", Cond.fieldLink RX2 134 "TwoMetals$World" "stopAt" "[I", Cond.methodLink RX2 96 yX2_isWithin, Cond.instanceMethod yX2_isWithin, Cond.selects RX2 yX2_isWithin yX2_isWithin, Cond.initialized RX2, Cond.code yX2_isWithin cX2_isWithin 4 (some .boolean), Cond.methodLink RX2 100 yX4_has, Cond.instanceMethod yX4_has, Cond.selects RX4 yX4_has yX4_has, Cond.initialized RX4, Cond.code yX4_has cX4_has 2 (some .boolean), Cond.fieldLink RX4 40 "TwoMetals$World" "told" "I", Cond.methodLink RX2 118 yX4_setLaw]
def wsX2_takeRealm_r2 : List Cond := [Cond.instanceMethod yX4_setLaw, Cond.selects RX4 yX4_setLaw yX4_setLaw, Cond.code yX4_setLaw cX4_setLaw 8 none, Cond.fieldLink RX4 9 "TwoMetals$World" "law" "[I", Cond.fieldLink RX4 18 "TwoMetals$World" "way" "[I", Cond.constantLong RX4 73 (1000), Cond.fieldLink RX4 15 "TwoMetals$World" "cut" "[I", Cond.methodLink RX4 75 Lib.Math.max.name, Cond.static Lib.Math.max.name, Cond.initialized "java/lang/Math", Cond.code Lib.Math.max.name Lib.Math.max.code 2 (some .int), Cond.fieldLink RX4 27 "TwoMetals$World" "low" "[I", Cond.fieldLink RX4 30 "TwoMetals$World" "high" "[I", Cond.constantLong RX4 81 (1000000), Cond.methodLink RX4 83 Lib.MathLoose.min_long.x, Cond.static Lib.MathLoose.min_long.x, Cond.code Lib.MathLoose.min_long.x Lib.MathLoose.min_long.code 4 (some .long)]
def wsX2_takeRealm : List Cond := .code yX2_takeRealm cX2_takeRealm 5 (some .boolean) :: ((wsX2_takeRealm_r1 ++ wsX2_takeRealm_r2) ++ wsX20 ++ wsX40)
def wsX2_takeLimp : List Cond := .code yX2_takeLimp cX2_takeLimp 1 (some .boolean) :: ([.fieldLink RX2 12 "TwoMetals$Reader" "world" "LTwoMetals$World;", .fieldLink RX2 25 "TwoMetals$Reader" "number" "[I", .fieldLink RX2 137 "TwoMetals$World" "limping" "I", .methodLink RX2 100 yX4_has, .instanceMethod yX4_has, .selects RX4 yX4_has yX4_has, .initialized RX4, .code yX4_has cX4_has 2 (some .boolean), .fieldLink RX4 40 "TwoMetals$World" "told" "I"] ++ wsX20 ++ wsX40)
def wsX2_takeStop : List Cond := .code yX2_takeStop cX2_takeStop 1 (some .boolean) :: ([.fieldLink RX2 12 "TwoMetals$Reader" "world" "LTwoMetals$World;", .fieldLink RX2 25 "TwoMetals$Reader" "number" "[I", .fieldLink RX2 134 "TwoMetals$World" "stopAt" "[I", .methodLink RX2 100 yX4_has, .instanceMethod yX4_has, .selects RX4 yX4_has yX4_has, .initialized RX4, .code yX4_has cX4_has 2 (some .boolean), .fieldLink RX4 40 "TwoMetals$World" "told" "I", .methodLink RX2 96 yX2_isWithin, .instanceMethod yX2_isWithin, .selects RX2 yX2_isWithin yX2_isWithin, .initialized RX2, .code yX2_isWithin cX2_isWithin 4 (some .boolean)] ++ wsX20 ++ wsX40)
def wsX2_takeMarket : List Cond := .code yX2_takeMarket cX2_takeMarket 1 (some .boolean) :: ([.fieldLink RX2 12 "TwoMetals$Reader" "world" "LTwoMetals$World;", .fieldLink RX2 25 "TwoMetals$Reader" "number" "[I", .fieldLink RX2 140 "TwoMetals$World" "marketGold" "J", .constantLong RX2 129 (1000), .fieldLink RX2 144 "TwoMetals$World" "marketSilver" "J"] ++ wsX20 ++ wsX40)
def wsX2_takeScarcity : List Cond := .code yX2_takeScarcity cX2_takeScarcity 1 (some .boolean) :: ([.fieldLink RX2 12 "TwoMetals$Reader" "world" "LTwoMetals$World;", .fieldLink RX2 25 "TwoMetals$Reader" "number" "[I", .fieldLink RX2 147 "TwoMetals$World" "scarcity" "I", .methodLink RX2 96 yX2_isWithin, .instanceMethod yX2_isWithin, .selects RX2 yX2_isWithin yX2_isWithin, .initialized RX2, .code yX2_isWithin cX2_isWithin 4 (some .boolean)] ++ wsX20 ++ wsX40)
def wsX2_takeMines : List Cond := .code yX2_takeMines cX2_takeMines 1 (some .boolean) :: ([.fieldLink RX2 21 "TwoMetals$Reader" "mines" "LTwoMetals$Mines;", .fieldLink RX2 25 "TwoMetals$Reader" "number" "[I", .methodLink RX2 96 yX2_isWithin, .instanceMethod yX2_isWithin, .selects RX2 yX2_isWithin yX2_isWithin, .initialized RX2, .code yX2_isWithin cX2_isWithin 4 (some .boolean), .methodLink RX2 150 yX0_tell, .instanceMethod yX0_tell, .selects RX0 yX0_tell yX0_tell, .initialized RX0, .code yX0_tell cX0_tell 4 none, .fieldLink RX0 11 "TwoMetals$Mines" "told" "[I", .fieldLink RX0 15 "TwoMetals$Mines" "gold" "[I", .fieldLink RX0 18 "TwoMetals$Mines" "silver" "[I"] ++ wsX20 ++ wsX00)
def wsX2_takeItem_r1 : List Cond := [Cond.methodLink RX2 77 yX2_takeRealm, Cond.instanceMethod yX2_takeRealm, Cond.selects RX2 yX2_takeRealm yX2_takeRealm, Cond.initialized RX2, Cond.code yX2_takeRealm cX2_takeRealm 5 (some .boolean), Cond.fieldLink RX2 12 "TwoMetals$Reader" "world" "LTwoMetals$World;", Cond.fieldLink RX2 25 "TwoMetals$Reader" "number" "[I", Cond.constant RX2 103 (99999), Cond.fieldLink RX2 106 "TwoMetals$World" "told" "I", Cond.fieldLink RX2 109 "TwoMetals$World" "minting" "I", Cond.fieldLink RX2 112 "TwoMetals$World" "cut" "[I", Cond.fieldLink RX2 115 "TwoMetals$World" "way" "[I", Cond.fieldLink RX2 122 "TwoMetals$World" "gold" "[J", Cond.fieldLink RX2 126 "TwoMetals$World" "silver" "[J", Cond.constantLong RX2 129 (1000), Cond.fieldLink RX2 131 "TwoMetals$World" "yearly" "[I", Cond.fieldLink RX2 134 "TwoMetals$World" "stopAt" "[I", Cond.methodLink RX2 96 yX2_isWithin, Cond.instanceMethod yX2_isWithin, Cond.selects RX2 yX2_isWithin yX2_isWithin, Cond.code yX2_isWithin cX2_isWithin 4 (some .boolean), Cond.methodLink RX2 100 yX4_has, Cond.instanceMethod yX4_has, Cond.selects RX4 yX4_has yX4_has]
def wsX2_takeItem_r2 : List Cond := [Cond.initialized RX4, Cond.code yX4_has cX4_has 2 (some .boolean), Cond.fieldLink RX4 40 "TwoMetals$World" "told" "I", Cond.methodLink RX2 118 yX4_setLaw, Cond.instanceMethod yX4_setLaw, Cond.selects RX4 yX4_setLaw yX4_setLaw, Cond.code yX4_setLaw cX4_setLaw 8 none, Cond.fieldLink RX4 9 "TwoMetals$World" "law" "[I", Cond.fieldLink RX4 18 "TwoMetals$World" "way" "[I", Cond.constantLong RX4 73 (1000), Cond.fieldLink RX4 15 "TwoMetals$World" "cut" "[I", Cond.methodLink RX4 75 Lib.Math.max.name, Cond.static Lib.Math.max.name, Cond.initialized "java/lang/Math", Cond.code Lib.Math.max.name Lib.Math.max.code 2 (some .int), Cond.fieldLink RX4 27 "TwoMetals$World" "low" "[I", Cond.fieldLink RX4 30 "TwoMetals$World" "high" "[I", Cond.constantLong RX4 81 (1000000), Cond.methodLink RX4 83 Lib.MathLoose.min_long.x, Cond.static Lib.MathLoose.min_long.x, Cond.code Lib.MathLoose.min_long.x Lib.MathLoose.min_long.code 4 (some .long), Cond.methodLink RX2 81 yX2_takeLimp, Cond.instanceMethod yX2_takeLimp, Cond.selects RX2 yX2_takeLimp yX2_takeLimp]
def wsX2_takeItem_r3 : List Cond := [Cond.code yX2_takeLimp cX2_takeLimp 1 (some .boolean), Cond.fieldLink RX2 137 "TwoMetals$World" "limping" "I", Cond.methodLink RX2 84 yX2_takeStop, Cond.instanceMethod yX2_takeStop, Cond.selects RX2 yX2_takeStop yX2_takeStop, Cond.code yX2_takeStop cX2_takeStop 1 (some .boolean), Cond.methodLink RX2 87 yX2_takeMarket, Cond.instanceMethod yX2_takeMarket, Cond.selects RX2 yX2_takeMarket yX2_takeMarket, Cond.code yX2_takeMarket cX2_takeMarket 1 (some .boolean), Cond.fieldLink RX2 140 "TwoMetals$World" "marketGold" "J", Cond.fieldLink RX2 144 "TwoMetals$World" "marketSilver" "J", Cond.methodLink RX2 90 yX2_takeScarcity, Cond.instanceMethod yX2_takeScarcity, Cond.selects RX2 yX2_takeScarcity yX2_takeScarcity, Cond.code yX2_takeScarcity cX2_takeScarcity 1 (some .boolean), Cond.fieldLink RX2 147 "TwoMetals$World" "scarcity" "I", Cond.methodLink RX2 93 yX2_takeMines, Cond.instanceMethod yX2_takeMines, Cond.selects RX2 yX2_takeMines yX2_takeMines, Cond.code yX2_takeMines cX2_takeMines 1 (some .boolean), Cond.fieldLink RX2 21 "TwoMetals$Reader" "mines" "LTwoMetals$Mines;", Cond.methodLink RX2 150 yX0_tell, Cond.instanceMethod yX0_tell]
def wsX2_takeItem_r4 : List Cond := [Cond.selects RX0 yX0_tell yX0_tell, Cond.initialized RX0, Cond.code yX0_tell cX0_tell 4 none, Cond.fieldLink RX0 11 "TwoMetals$Mines" "told" "[I", Cond.fieldLink RX0 15 "TwoMetals$Mines" "gold" "[I", Cond.fieldLink RX0 18 "TwoMetals$Mines" "silver" "[I"]
def wsX2_takeItem : List Cond := .code yX2_takeItem cX2_takeItem 2 (some .boolean) :: ((wsX2_takeItem_r1 ++ (wsX2_takeItem_r2 ++ (wsX2_takeItem_r3 ++ wsX2_takeItem_r4))) ++ wsX20 ++ wsX40 ++ wsX00)
def wsX2_readItem_r1 : List Cond := [Cond.fieldLink RX2 52 "TwoMetals$Text" "bytes" "[B", Cond.fieldLink RX2 29 "TwoMetals$Reader" "at" "I", Cond.methodLink RX2 56 yX2_numbersBehind, Cond.static yX2_numbersBehind, Cond.initialized RX2, Cond.code yX2_numbersBehind cX2_numbersBehind 1 (some .int), Cond.methodLink RX2 60 yX2_readNumbers, Cond.instanceMethod yX2_readNumbers, Cond.selects RX2 yX2_readNumbers yX2_readNumbers, Cond.code yX2_readNumbers cX2_readNumbers 5 (some .boolean), Cond.methodLink RX2 68 yX2_readNumber, Cond.instanceMethod yX2_readNumber, Cond.selects RX2 yX2_readNumber yX2_readNumber, Cond.code yX2_readNumber cX2_readNumber 5 (some .boolean), Cond.fieldLink RX2 39 "TwoMetals$Text" "length" "I", Cond.fieldLink RX2 25 "TwoMetals$Reader" "number" "[I", Cond.methodLink RX2 74 yX2_isFigure, Cond.static yX2_isFigure, Cond.code yX2_isFigure cX2_isFigure 1 (some .boolean), Cond.methodLink RX2 71 yX2_readSign, Cond.instanceMethod yX2_readSign, Cond.selects RX2 yX2_readSign yX2_readSign, Cond.code yX2_readSign cX2_readSign 3 (some .boolean), Cond.methodLink RX2 64 yX2_takeItem]
def wsX2_readItem_r2 : List Cond := [Cond.instanceMethod yX2_takeItem, Cond.selects RX2 yX2_takeItem yX2_takeItem, Cond.code yX2_takeItem cX2_takeItem 2 (some .boolean), Cond.methodLink RX2 77 yX2_takeRealm, Cond.instanceMethod yX2_takeRealm, Cond.selects RX2 yX2_takeRealm yX2_takeRealm, Cond.code yX2_takeRealm cX2_takeRealm 5 (some .boolean), Cond.fieldLink RX2 12 "TwoMetals$Reader" "world" "LTwoMetals$World;", Cond.constant RX2 103 (99999), Cond.fieldLink RX2 106 "TwoMetals$World" "told" "I", Cond.fieldLink RX2 109 "TwoMetals$World" "minting" "I", Cond.fieldLink RX2 112 "TwoMetals$World" "cut" "[I", Cond.fieldLink RX2 115 "TwoMetals$World" "way" "[I", Cond.fieldLink RX2 122 "TwoMetals$World" "gold" "[J", Cond.fieldLink RX2 126 "TwoMetals$World" "silver" "[J", Cond.constantLong RX2 129 (1000), Cond.fieldLink RX2 131 "TwoMetals$World" "yearly" "[I", Cond.fieldLink RX2 134 "TwoMetals$World" "stopAt" "[I", Cond.methodLink RX2 96 yX2_isWithin, Cond.instanceMethod yX2_isWithin, Cond.selects RX2 yX2_isWithin yX2_isWithin, Cond.code yX2_isWithin cX2_isWithin 4 (some .boolean), Cond.methodLink RX2 100 yX4_has, Cond.instanceMethod yX4_has]
def wsX2_readItem_r3 : List Cond := [Cond.selects RX4 yX4_has yX4_has, Cond.initialized RX4, Cond.code yX4_has cX4_has 2 (some .boolean), Cond.fieldLink RX4 40 "TwoMetals$World" "told" "I", Cond.methodLink RX2 118 yX4_setLaw, Cond.instanceMethod yX4_setLaw, Cond.selects RX4 yX4_setLaw yX4_setLaw, Cond.code yX4_setLaw cX4_setLaw 8 none, Cond.fieldLink RX4 9 "TwoMetals$World" "law" "[I", Cond.fieldLink RX4 18 "TwoMetals$World" "way" "[I", Cond.constantLong RX4 73 (1000), Cond.fieldLink RX4 15 "TwoMetals$World" "cut" "[I", Cond.methodLink RX4 75 Lib.Math.max.name, Cond.static Lib.Math.max.name, Cond.initialized "java/lang/Math", Cond.code Lib.Math.max.name Lib.Math.max.code 2 (some .int), Cond.fieldLink RX4 27 "TwoMetals$World" "low" "[I", Cond.fieldLink RX4 30 "TwoMetals$World" "high" "[I", Cond.constantLong RX4 81 (1000000), Cond.methodLink RX4 83 Lib.MathLoose.min_long.x, Cond.static Lib.MathLoose.min_long.x, Cond.code Lib.MathLoose.min_long.x Lib.MathLoose.min_long.code 4 (some .long), Cond.methodLink RX2 81 yX2_takeLimp, Cond.instanceMethod yX2_takeLimp]
def wsX2_readItem_r4 : List Cond := [Cond.selects RX2 yX2_takeLimp yX2_takeLimp, Cond.code yX2_takeLimp cX2_takeLimp 1 (some .boolean), Cond.fieldLink RX2 137 "TwoMetals$World" "limping" "I", Cond.methodLink RX2 84 yX2_takeStop, Cond.instanceMethod yX2_takeStop, Cond.selects RX2 yX2_takeStop yX2_takeStop, Cond.code yX2_takeStop cX2_takeStop 1 (some .boolean), Cond.methodLink RX2 87 yX2_takeMarket, Cond.instanceMethod yX2_takeMarket, Cond.selects RX2 yX2_takeMarket yX2_takeMarket, Cond.code yX2_takeMarket cX2_takeMarket 1 (some .boolean), Cond.fieldLink RX2 140 "TwoMetals$World" "marketGold" "J", Cond.fieldLink RX2 144 "TwoMetals$World" "marketSilver" "J", Cond.methodLink RX2 90 yX2_takeScarcity, Cond.instanceMethod yX2_takeScarcity, Cond.selects RX2 yX2_takeScarcity yX2_takeScarcity, Cond.code yX2_takeScarcity cX2_takeScarcity 1 (some .boolean), Cond.fieldLink RX2 147 "TwoMetals$World" "scarcity" "I", Cond.methodLink RX2 93 yX2_takeMines, Cond.instanceMethod yX2_takeMines, Cond.selects RX2 yX2_takeMines yX2_takeMines, Cond.code yX2_takeMines cX2_takeMines 1 (some .boolean), Cond.fieldLink RX2 21 "TwoMetals$Reader" "mines" "LTwoMetals$Mines;", Cond.methodLink RX2 150 yX0_tell]
def wsX2_readItem_r5 : List Cond := [Cond.instanceMethod yX0_tell, Cond.selects RX0 yX0_tell yX0_tell, Cond.initialized RX0, Cond.code yX0_tell cX0_tell 4 none, Cond.fieldLink RX0 11 "TwoMetals$Mines" "told" "[I", Cond.fieldLink RX0 15 "TwoMetals$Mines" "gold" "[I", Cond.fieldLink RX0 18 "TwoMetals$Mines" "silver" "[I"]
def wsX2_readItem : List Cond := .code yX2_readItem cX2_readItem 4 (some .boolean) :: ((wsX2_readItem_r1 ++ (wsX2_readItem_r2 ++ (wsX2_readItem_r3 ++ (wsX2_readItem_r4 ++ wsX2_readItem_r5)))) ++ wsX30 ++ wsX20 ++ wsX40 ++ wsX00)
def wsX2_firstFault_r1 : List Cond := [Cond.fieldLink RX2 12 "TwoMetals$Reader" "world" "LTwoMetals$World;", Cond.fieldLink RX2 21 "TwoMetals$Reader" "mines" "LTwoMetals$Mines;", Cond.fieldLink RX2 29 "TwoMetals$Reader" "at" "I", Cond.fieldLink RX2 39 "TwoMetals$Text" "length" "I", Cond.methodLink RX2 33 yX4_clear, Cond.instanceMethod yX4_clear, Cond.selects RX4 yX4_clear yX4_clear, Cond.initialized RX4, Cond.code yX4_clear cX4_clear 1 none, Cond.fieldLink RX4 40 "TwoMetals$World" "told" "I", Cond.fieldLink RX4 44 "TwoMetals$World" "minting" "I", Cond.fieldLink RX4 47 "TwoMetals$World" "limping" "I", Cond.fieldLink RX4 50 "TwoMetals$World" "marketGold" "J", Cond.fieldLink RX4 54 "TwoMetals$World" "marketSilver" "J", Cond.fieldLink RX4 57 "TwoMetals$World" "scarcity" "I", Cond.constant RX4 60 (1000000), Cond.fieldLink RX4 61 "TwoMetals$World" "price" "I", Cond.fieldLink RX4 64 "TwoMetals$World" "age" "I", Cond.methodLink RX2 36 yX0_clear, Cond.instanceMethod yX0_clear, Cond.selects RX0 yX0_clear yX0_clear, Cond.initialized RX0, Cond.code yX0_clear cX0_clear 1 none, Cond.fieldLink RX0 11 "TwoMetals$Mines" "told" "[I"]
def wsX2_firstFault_r2 : List Cond := [Cond.fieldLink RX0 15 "TwoMetals$Mines" "gold" "[I", Cond.fieldLink RX0 18 "TwoMetals$Mines" "silver" "[I", Cond.methodLink RX0 21 yJ7_fill_53178, Cond.static yJ7_fill_53178, Cond.initialized RJ7, Cond.code yJ7_fill_53178 cJ7_fill_53178 4 none, Cond.methodLink RX2 42 yX2_readItem, Cond.instanceMethod yX2_readItem, Cond.selects RX2 yX2_readItem yX2_readItem, Cond.initialized RX2, Cond.code yX2_readItem cX2_readItem 4 (some .boolean), Cond.fieldLink RX2 52 "TwoMetals$Text" "bytes" "[B", Cond.methodLink RX2 56 yX2_numbersBehind, Cond.static yX2_numbersBehind, Cond.code yX2_numbersBehind cX2_numbersBehind 1 (some .int), Cond.methodLink RX2 60 yX2_readNumbers, Cond.instanceMethod yX2_readNumbers, Cond.selects RX2 yX2_readNumbers yX2_readNumbers, Cond.code yX2_readNumbers cX2_readNumbers 5 (some .boolean), Cond.methodLink RX2 68 yX2_readNumber, Cond.instanceMethod yX2_readNumber, Cond.selects RX2 yX2_readNumber yX2_readNumber, Cond.code yX2_readNumber cX2_readNumber 5 (some .boolean), Cond.fieldLink RX2 25 "TwoMetals$Reader" "number" "[I"]
def wsX2_firstFault_r3 : List Cond := [Cond.methodLink RX2 74 yX2_isFigure, Cond.static yX2_isFigure, Cond.code yX2_isFigure cX2_isFigure 1 (some .boolean), Cond.methodLink RX2 71 yX2_readSign, Cond.instanceMethod yX2_readSign, Cond.selects RX2 yX2_readSign yX2_readSign, Cond.code yX2_readSign cX2_readSign 3 (some .boolean), Cond.methodLink RX2 64 yX2_takeItem, Cond.instanceMethod yX2_takeItem, Cond.selects RX2 yX2_takeItem yX2_takeItem, Cond.code yX2_takeItem cX2_takeItem 2 (some .boolean), Cond.methodLink RX2 77 yX2_takeRealm, Cond.instanceMethod yX2_takeRealm, Cond.selects RX2 yX2_takeRealm yX2_takeRealm, Cond.code yX2_takeRealm cX2_takeRealm 5 (some .boolean), Cond.constant RX2 103 (99999), Cond.fieldLink RX2 106 "TwoMetals$World" "told" "I", Cond.fieldLink RX2 109 "TwoMetals$World" "minting" "I", Cond.fieldLink RX2 112 "TwoMetals$World" "cut" "[I", Cond.fieldLink RX2 115 "TwoMetals$World" "way" "[I", Cond.fieldLink RX2 122 "TwoMetals$World" "gold" "[J", Cond.fieldLink RX2 126 "TwoMetals$World" "silver" "[J", Cond.constantLong RX2 129 (1000), Cond.fieldLink RX2 131 "TwoMetals$World" "yearly" "[I"]
def wsX2_firstFault_r4 : List Cond := [Cond.fieldLink RX2 134 "TwoMetals$World" "stopAt" "[I", Cond.methodLink RX2 96 yX2_isWithin, Cond.instanceMethod yX2_isWithin, Cond.selects RX2 yX2_isWithin yX2_isWithin, Cond.code yX2_isWithin cX2_isWithin 4 (some .boolean), Cond.methodLink RX2 100 yX4_has, Cond.instanceMethod yX4_has, Cond.selects RX4 yX4_has yX4_has, Cond.code yX4_has cX4_has 2 (some .boolean), Cond.methodLink RX2 118 yX4_setLaw, Cond.instanceMethod yX4_setLaw, Cond.selects RX4 yX4_setLaw yX4_setLaw, Cond.code yX4_setLaw cX4_setLaw 8 none, Cond.fieldLink RX4 9 "TwoMetals$World" "law" "[I", Cond.fieldLink RX4 18 "TwoMetals$World" "way" "[I", Cond.constantLong RX4 73 (1000), Cond.fieldLink RX4 15 "TwoMetals$World" "cut" "[I", Cond.methodLink RX4 75 Lib.Math.max.name, Cond.static Lib.Math.max.name, Cond.initialized "java/lang/Math", Cond.code Lib.Math.max.name Lib.Math.max.code 2 (some .int), Cond.fieldLink RX4 27 "TwoMetals$World" "low" "[I", Cond.fieldLink RX4 30 "TwoMetals$World" "high" "[I", Cond.constantLong RX4 81 (1000000)]
def wsX2_firstFault_r5 : List Cond := [Cond.methodLink RX4 83 Lib.MathLoose.min_long.x, Cond.static Lib.MathLoose.min_long.x, Cond.code Lib.MathLoose.min_long.x Lib.MathLoose.min_long.code 4 (some .long), Cond.methodLink RX2 81 yX2_takeLimp, Cond.instanceMethod yX2_takeLimp, Cond.selects RX2 yX2_takeLimp yX2_takeLimp, Cond.code yX2_takeLimp cX2_takeLimp 1 (some .boolean), Cond.fieldLink RX2 137 "TwoMetals$World" "limping" "I", Cond.methodLink RX2 84 yX2_takeStop, Cond.instanceMethod yX2_takeStop, Cond.selects RX2 yX2_takeStop yX2_takeStop, Cond.code yX2_takeStop cX2_takeStop 1 (some .boolean), Cond.methodLink RX2 87 yX2_takeMarket, Cond.instanceMethod yX2_takeMarket, Cond.selects RX2 yX2_takeMarket yX2_takeMarket, Cond.code yX2_takeMarket cX2_takeMarket 1 (some .boolean), Cond.fieldLink RX2 140 "TwoMetals$World" "marketGold" "J", Cond.fieldLink RX2 144 "TwoMetals$World" "marketSilver" "J", Cond.methodLink RX2 90 yX2_takeScarcity, Cond.instanceMethod yX2_takeScarcity, Cond.selects RX2 yX2_takeScarcity yX2_takeScarcity, Cond.code yX2_takeScarcity cX2_takeScarcity 1 (some .boolean), Cond.fieldLink RX2 147 "TwoMetals$World" "scarcity" "I", Cond.methodLink RX2 93 yX2_takeMines]
def wsX2_firstFault_r6 : List Cond := [Cond.instanceMethod yX2_takeMines, Cond.selects RX2 yX2_takeMines yX2_takeMines, Cond.code yX2_takeMines cX2_takeMines 1 (some .boolean), Cond.methodLink RX2 150 yX0_tell, Cond.instanceMethod yX0_tell, Cond.selects RX0 yX0_tell yX0_tell, Cond.code yX0_tell cX0_tell 4 none, Cond.methodLink RX2 46 yX0_fillGaps, Cond.instanceMethod yX0_fillGaps, Cond.selects RX0 yX0_fillGaps yX0_fillGaps, Cond.code yX0_fillGaps cX0_fillGaps 2 none, Cond.methodLink RX2 49 yX4_weigh, Cond.instanceMethod yX4_weigh, Cond.selects RX4 yX4_weigh yX4_weigh, Cond.code yX4_weigh cX4_weigh 1 none]
def wsX2_firstFault : List Cond := .code yX2_firstFault cX2_firstFault 4 (some .int) :: ((wsX2_firstFault_r1 ++ (wsX2_firstFault_r2 ++ (wsX2_firstFault_r3 ++ (wsX2_firstFault_r4 ++ (wsX2_firstFault_r5 ++ wsX2_firstFault_r6))))) ++ wsX20 ++ wsX30 ++ wsX40 ++ wsX00)
def wsX3_init : List Cond := .code yX3_init cX3_init 1 none :: ([.methodLink RX3 1 objectInit, .instanceMethod objectInit, .code objectInit ⟨#[0xb1]⟩ 1 none, .arrayClass .byte, .fieldLink RX3 9 "TwoMetals$Text" "bytes" "[B", .fieldLink RX3 13 "TwoMetals$Text" "length" "I"] ++ wsX30)
def wsX3_hasRoomFor : List Cond := .code yX3_hasRoomFor cX3_hasRoomFor 2 (some .boolean) :: ([.fieldLink RX3 13 "TwoMetals$Text" "length" "I"] ++ wsX30)
def wsX3_append : List Cond := .code yX3_append cX3_append 5 none :: ([.fieldLink RX3 13 "TwoMetals$Text" "length" "I", .fieldLink RX3 9 "TwoMetals$Text" "bytes" "[B"] ++ wsX30)
def wsX4_copyFrom : List Cond := .code yX4_copyFrom cX4_copyFrom 2 none :: ([.fieldLink RX4 9 "TwoMetals$World" "law" "[I", .methodLink RX4 67 arraycopyName, .native arraycopyName, .static arraycopyName, .initialized "java/lang/System", .fieldLink RX4 15 "TwoMetals$World" "cut" "[I", .fieldLink RX4 18 "TwoMetals$World" "way" "[I", .fieldLink RX4 21 "TwoMetals$World" "yearly" "[I", .fieldLink RX4 24 "TwoMetals$World" "stopAt" "[I", .fieldLink RX4 27 "TwoMetals$World" "low" "[I", .fieldLink RX4 30 "TwoMetals$World" "high" "[I", .fieldLink RX4 33 "TwoMetals$World" "gold" "[J", .fieldLink RX4 37 "TwoMetals$World" "silver" "[J", .fieldLink RX4 40 "TwoMetals$World" "told" "I", .fieldLink RX4 44 "TwoMetals$World" "minting" "I", .fieldLink RX4 47 "TwoMetals$World" "limping" "I", .fieldLink RX4 50 "TwoMetals$World" "marketGold" "J", .fieldLink RX4 54 "TwoMetals$World" "marketSilver" "J", .fieldLink RX4 57 "TwoMetals$World" "scarcity" "I", .fieldLink RX4 61 "TwoMetals$World" "price" "I", .fieldLink RX4 64 "TwoMetals$World" "age" "I"] ++ wsX40)
def wsX4_holders : List Cond := .code yX4_holders cX4_holders 4 (some .int) :: ([.fieldLink RX4 61 "TwoMetals$World" "price" "I", .fieldLink RX4 27 "TwoMetals$World" "low" "[I", .fieldLink RX4 30 "TwoMetals$World" "high" "[I", .methodLink RX4 87 yX4_mints, .instanceMethod yX4_mints, .selects RX4 yX4_mints yX4_mints, .initialized RX4, .code yX4_mints cX4_mints 2 (some .boolean), .fieldLink RX4 44 "TwoMetals$World" "minting" "I", .methodLink RX4 94 yX4_hasGold, .instanceMethod yX4_hasGold, .selects RX4 yX4_hasGold yX4_hasGold, .code yX4_hasGold cX4_hasGold 2 (some .boolean), .fieldLink RX4 33 "TwoMetals$World" "gold" "[J", .methodLink RX4 97 yX4_hasSilver, .instanceMethod yX4_hasSilver, .selects RX4 yX4_hasSilver yX4_hasSilver, .code yX4_hasSilver cX4_hasSilver 2 (some .boolean), .fieldLink RX4 37 "TwoMetals$World" "silver" "[J", .fieldLink RX4 9 "TwoMetals$World" "law" "[I"] ++ wsX40)
def wsX4_goldInAll : List Cond := .code yX4_goldInAll cX4_goldInAll 4 (some .long) :: ([.fieldLink RX4 50 "TwoMetals$World" "marketGold" "J", .fieldLink RX4 33 "TwoMetals$World" "gold" "[J", .methodLink RX4 103 yX4_has, .instanceMethod yX4_has, .selects RX4 yX4_has yX4_has, .initialized RX4, .code yX4_has cX4_has 2 (some .boolean), .fieldLink RX4 40 "TwoMetals$World" "told" "I"] ++ wsX40)
def wsX5_init_r1 : List Cond := [Cond.methodLink RX5 1 objectInit, Cond.instanceMethod objectInit, Cond.code objectInit ⟨#[0xb1]⟩ 1 none, Cond.classLink RX5 7 RX3, Cond.instantiable RX3 2, Cond.initialized RX3, Cond.fieldLink RX5 10 "TwoMetals" "text" "LTwoMetals$Text;", Cond.classLink RX5 16 RX2, Cond.instantiable RX2 4, Cond.initialized RX2, Cond.fieldLink RX5 19 "TwoMetals" "reader" "LTwoMetals$Reader;", Cond.classLink RX5 23 RX1, Cond.instantiable RX1 2, Cond.initialized RX1, Cond.fieldLink RX5 26 "TwoMetals" "mover" "LTwoMetals$Mover;", Cond.classLink RX5 30 RX0, Cond.instantiable RX0 3, Cond.initialized RX0, Cond.fieldLink RX5 33 "TwoMetals" "mines" "LTwoMetals$Mines;", Cond.classLink RX5 37 RX4, Cond.instantiable RX4 17, Cond.initialized RX4, Cond.fieldLink RX5 40 "TwoMetals" "now" "LTwoMetals$World;", Cond.fieldLink RX5 44 "TwoMetals" "trial" "LTwoMetals$World;"]
def wsX5_init_r2 : List Cond := [Cond.fieldLink RX5 47 "TwoMetals" "kept" "[LTwoMetals$World;", Cond.fieldLink RX5 51 "TwoMetals" "keptCount" "I", Cond.instanceMethod yX3_init, Cond.code yX3_init cX3_init 1 none, Cond.methodLink RX3 1 objectInit, Cond.arrayClass .byte, Cond.fieldLink RX3 9 "TwoMetals$Text" "bytes" "[B", Cond.fieldLink RX3 13 "TwoMetals$Text" "length" "I", Cond.instanceMethod yX2_init, Cond.code yX2_init cX2_init 1 none, Cond.methodLink RX2 3 objectInit, Cond.classLink RX2 9 RX4, Cond.fieldLink RX2 12 "TwoMetals$Reader" "world" "LTwoMetals$World;", Cond.classLink RX2 18 RX0, Cond.fieldLink RX2 21 "TwoMetals$Reader" "mines" "LTwoMetals$Mines;", Cond.arrayClass .int, Cond.fieldLink RX2 25 "TwoMetals$Reader" "number" "[I", Cond.fieldLink RX2 29 "TwoMetals$Reader" "at" "I", Cond.instanceMethod yX4_init, Cond.code yX4_init cX4_init 1 none, Cond.methodLink RX4 3 objectInit, Cond.fieldLink RX4 9 "TwoMetals$World" "law" "[I", Cond.fieldLink RX4 15 "TwoMetals$World" "cut" "[I", Cond.fieldLink RX4 18 "TwoMetals$World" "way" "[I"]
def wsX5_init_r3 : List Cond := [Cond.fieldLink RX4 21 "TwoMetals$World" "yearly" "[I", Cond.fieldLink RX4 24 "TwoMetals$World" "stopAt" "[I", Cond.fieldLink RX4 27 "TwoMetals$World" "low" "[I", Cond.fieldLink RX4 30 "TwoMetals$World" "high" "[I", Cond.arrayClass .long, Cond.fieldLink RX4 33 "TwoMetals$World" "gold" "[J", Cond.fieldLink RX4 37 "TwoMetals$World" "silver" "[J", Cond.fieldLink RX4 40 "TwoMetals$World" "told" "I", Cond.fieldLink RX4 44 "TwoMetals$World" "minting" "I", Cond.fieldLink RX4 47 "TwoMetals$World" "limping" "I", Cond.fieldLink RX4 50 "TwoMetals$World" "marketGold" "J", Cond.fieldLink RX4 54 "TwoMetals$World" "marketSilver" "J", Cond.fieldLink RX4 57 "TwoMetals$World" "scarcity" "I", Cond.constant RX4 60 (1000000), Cond.fieldLink RX4 61 "TwoMetals$World" "price" "I", Cond.fieldLink RX4 64 "TwoMetals$World" "age" "I", Cond.instanceMethod yX0_init, Cond.code yX0_init cX0_init 1 none, Cond.methodLink RX0 3 objectInit, Cond.fieldLink RX0 11 "TwoMetals$Mines" "told" "[I", Cond.fieldLink RX0 15 "TwoMetals$Mines" "gold" "[I", Cond.fieldLink RX0 18 "TwoMetals$Mines" "silver" "[I", Cond.instanceMethod yX1_init, Cond.code yX1_init cX1_init 1 none]
def wsX5_init_r4 : List Cond := [Cond.methodLink RX1 5 objectInit, Cond.fieldLink RX1 11 "TwoMetals$Mover" "left" "[I", Cond.fieldLink RX1 15 "TwoMetals$Mover" "marked" "[J"]
def wsX5_init : List Cond := .code yX5_init cX5_init 2 none :: ((wsX5_init_r1 ++ (wsX5_init_r2 ++ (wsX5_init_r3 ++ wsX5_init_r4))) ++ wsX30 ++ wsX50 ++ wsX20 ++ wsX10 ++ wsX00 ++ wsX40)
def wsX5_write : List Cond := .code yX5_write cX5_write 4 (some .int) :: ([.fieldLink RX5 10 "TwoMetals" "text" "LTwoMetals$Text;", .fieldLink RX5 63 "TwoMetals$Text" "length" "I", .methodLink RX5 55 yX3_hasRoomFor, .instanceMethod yX3_hasRoomFor, .selects RX3 yX3_hasRoomFor yX3_hasRoomFor, .initialized RX3, .code yX3_hasRoomFor cX3_hasRoomFor 2 (some .boolean), .fieldLink RX3 13 "TwoMetals$Text" "length" "I", .methodLink RX5 59 yX3_append, .instanceMethod yX3_append, .selects RX3 yX3_append yX3_append, .code yX3_append cX3_append 5 none, .fieldLink RX3 9 "TwoMetals$Text" "bytes" "[B"] ++ wsX50 ++ wsX30)
def wsX5_wipe : List Cond := .code yX5_wipe cX5_wipe 2 (some .int) :: ([.fieldLink RX5 10 "TwoMetals" "text" "LTwoMetals$Text;", .fieldLink RX5 63 "TwoMetals$Text" "length" "I"] ++ wsX50 ++ wsX30)
def wsX5_fault_r1 : List Cond := [Cond.fieldLink RX5 19 "TwoMetals" "reader" "LTwoMetals$Reader;", Cond.fieldLink RX5 10 "TwoMetals" "text" "LTwoMetals$Text;", Cond.methodLink RX5 66 yX2_firstFault, Cond.instanceMethod yX2_firstFault, Cond.selects RX2 yX2_firstFault yX2_firstFault, Cond.initialized RX2, Cond.code yX2_firstFault cX2_firstFault 4 (some .int), Cond.fieldLink RX2 12 "TwoMetals$Reader" "world" "LTwoMetals$World;", Cond.fieldLink RX2 21 "TwoMetals$Reader" "mines" "LTwoMetals$Mines;", Cond.fieldLink RX2 29 "TwoMetals$Reader" "at" "I", Cond.fieldLink RX2 39 "TwoMetals$Text" "length" "I", Cond.methodLink RX2 33 yX4_clear, Cond.instanceMethod yX4_clear, Cond.selects RX4 yX4_clear yX4_clear, Cond.initialized RX4, Cond.code yX4_clear cX4_clear 1 none, Cond.fieldLink RX4 40 "TwoMetals$World" "told" "I", Cond.fieldLink RX4 44 "TwoMetals$World" "minting" "I", Cond.fieldLink RX4 47 "TwoMetals$World" "limping" "I", Cond.fieldLink RX4 50 "TwoMetals$World" "marketGold" "J", Cond.fieldLink RX4 54 "TwoMetals$World" "marketSilver" "J", Cond.fieldLink RX4 57 "TwoMetals$World" "scarcity" "I", Cond.constant RX4 60 (1000000), Cond.fieldLink RX4 61 "TwoMetals$World" "price" "I"]
def wsX5_fault_r2 : List Cond := [Cond.fieldLink RX4 64 "TwoMetals$World" "age" "I", Cond.methodLink RX2 36 yX0_clear, Cond.instanceMethod yX0_clear, Cond.selects RX0 yX0_clear yX0_clear, Cond.initialized RX0, Cond.code yX0_clear cX0_clear 1 none, Cond.fieldLink RX0 11 "TwoMetals$Mines" "told" "[I", Cond.fieldLink RX0 15 "TwoMetals$Mines" "gold" "[I", Cond.fieldLink RX0 18 "TwoMetals$Mines" "silver" "[I", Cond.methodLink RX0 21 yJ7_fill_53178, Cond.static yJ7_fill_53178, Cond.initialized RJ7, Cond.code yJ7_fill_53178 cJ7_fill_53178 4 none, Cond.methodLink RX2 42 yX2_readItem, Cond.instanceMethod yX2_readItem, Cond.selects RX2 yX2_readItem yX2_readItem, Cond.code yX2_readItem cX2_readItem 4 (some .boolean), Cond.fieldLink RX2 52 "TwoMetals$Text" "bytes" "[B", Cond.methodLink RX2 56 yX2_numbersBehind, Cond.static yX2_numbersBehind, Cond.code yX2_numbersBehind cX2_numbersBehind 1 (some .int), Cond.methodLink RX2 60 yX2_readNumbers, Cond.instanceMethod yX2_readNumbers, Cond.selects RX2 yX2_readNumbers yX2_readNumbers]
def wsX5_fault_r3 : List Cond := [Cond.code yX2_readNumbers cX2_readNumbers 5 (some .boolean), Cond.methodLink RX2 68 yX2_readNumber, Cond.instanceMethod yX2_readNumber, Cond.selects RX2 yX2_readNumber yX2_readNumber, Cond.code yX2_readNumber cX2_readNumber 5 (some .boolean), Cond.fieldLink RX2 25 "TwoMetals$Reader" "number" "[I", Cond.methodLink RX2 74 yX2_isFigure, Cond.static yX2_isFigure, Cond.code yX2_isFigure cX2_isFigure 1 (some .boolean), Cond.methodLink RX2 71 yX2_readSign, Cond.instanceMethod yX2_readSign, Cond.selects RX2 yX2_readSign yX2_readSign, Cond.code yX2_readSign cX2_readSign 3 (some .boolean), Cond.methodLink RX2 64 yX2_takeItem, Cond.instanceMethod yX2_takeItem, Cond.selects RX2 yX2_takeItem yX2_takeItem, Cond.code yX2_takeItem cX2_takeItem 2 (some .boolean), Cond.methodLink RX2 77 yX2_takeRealm, Cond.instanceMethod yX2_takeRealm, Cond.selects RX2 yX2_takeRealm yX2_takeRealm, Cond.code yX2_takeRealm cX2_takeRealm 5 (some .boolean), Cond.constant RX2 103 (99999), Cond.fieldLink RX2 106 "TwoMetals$World" "told" "I", Cond.fieldLink RX2 109 "TwoMetals$World" "minting" "I"]
def wsX5_fault_r4 : List Cond := [Cond.fieldLink RX2 112 "TwoMetals$World" "cut" "[I", Cond.fieldLink RX2 115 "TwoMetals$World" "way" "[I", Cond.fieldLink RX2 122 "TwoMetals$World" "gold" "[J", Cond.fieldLink RX2 126 "TwoMetals$World" "silver" "[J", Cond.constantLong RX2 129 (1000), Cond.fieldLink RX2 131 "TwoMetals$World" "yearly" "[I", Cond.fieldLink RX2 134 "TwoMetals$World" "stopAt" "[I", Cond.methodLink RX2 96 yX2_isWithin, Cond.instanceMethod yX2_isWithin, Cond.selects RX2 yX2_isWithin yX2_isWithin, Cond.code yX2_isWithin cX2_isWithin 4 (some .boolean), Cond.methodLink RX2 100 yX4_has, Cond.instanceMethod yX4_has, Cond.selects RX4 yX4_has yX4_has, Cond.code yX4_has cX4_has 2 (some .boolean), Cond.methodLink RX2 118 yX4_setLaw, Cond.instanceMethod yX4_setLaw, Cond.selects RX4 yX4_setLaw yX4_setLaw, Cond.code yX4_setLaw cX4_setLaw 8 none, Cond.fieldLink RX4 9 "TwoMetals$World" "law" "[I", Cond.fieldLink RX4 18 "TwoMetals$World" "way" "[I", Cond.constantLong RX4 73 (1000), Cond.fieldLink RX4 15 "TwoMetals$World" "cut" "[I", Cond.methodLink RX4 75 Lib.Math.max.name]
def wsX5_fault_r5 : List Cond := [Cond.static Lib.Math.max.name, Cond.initialized "java/lang/Math", Cond.code Lib.Math.max.name Lib.Math.max.code 2 (some .int), Cond.fieldLink RX4 27 "TwoMetals$World" "low" "[I", Cond.fieldLink RX4 30 "TwoMetals$World" "high" "[I", Cond.constantLong RX4 81 (1000000), Cond.methodLink RX4 83 Lib.MathLoose.min_long.x, Cond.static Lib.MathLoose.min_long.x, Cond.code Lib.MathLoose.min_long.x Lib.MathLoose.min_long.code 4 (some .long), Cond.methodLink RX2 81 yX2_takeLimp, Cond.instanceMethod yX2_takeLimp, Cond.selects RX2 yX2_takeLimp yX2_takeLimp, Cond.code yX2_takeLimp cX2_takeLimp 1 (some .boolean), Cond.fieldLink RX2 137 "TwoMetals$World" "limping" "I", Cond.methodLink RX2 84 yX2_takeStop, Cond.instanceMethod yX2_takeStop, Cond.selects RX2 yX2_takeStop yX2_takeStop, Cond.code yX2_takeStop cX2_takeStop 1 (some .boolean), Cond.methodLink RX2 87 yX2_takeMarket, Cond.instanceMethod yX2_takeMarket, Cond.selects RX2 yX2_takeMarket yX2_takeMarket, Cond.code yX2_takeMarket cX2_takeMarket 1 (some .boolean), Cond.fieldLink RX2 140 "TwoMetals$World" "marketGold" "J", Cond.fieldLink RX2 144 "TwoMetals$World" "marketSilver" "J"]
def wsX5_fault_r6 : List Cond := [Cond.methodLink RX2 90 yX2_takeScarcity, Cond.instanceMethod yX2_takeScarcity, Cond.selects RX2 yX2_takeScarcity yX2_takeScarcity, Cond.code yX2_takeScarcity cX2_takeScarcity 1 (some .boolean), Cond.fieldLink RX2 147 "TwoMetals$World" "scarcity" "I", Cond.methodLink RX2 93 yX2_takeMines, Cond.instanceMethod yX2_takeMines, Cond.selects RX2 yX2_takeMines yX2_takeMines, Cond.code yX2_takeMines cX2_takeMines 1 (some .boolean), Cond.methodLink RX2 150 yX0_tell, Cond.instanceMethod yX0_tell, Cond.selects RX0 yX0_tell yX0_tell, Cond.code yX0_tell cX0_tell 4 none, Cond.methodLink RX2 46 yX0_fillGaps, Cond.instanceMethod yX0_fillGaps, Cond.selects RX0 yX0_fillGaps yX0_fillGaps, Cond.code yX0_fillGaps cX0_fillGaps 2 none, Cond.methodLink RX2 49 yX4_weigh, Cond.instanceMethod yX4_weigh, Cond.selects RX4 yX4_weigh yX4_weigh, Cond.code yX4_weigh cX4_weigh 1 none]
def wsX5_fault : List Cond := .code yX5_fault cX5_fault 1 (some .int) :: ((wsX5_fault_r1 ++ (wsX5_fault_r2 ++ (wsX5_fault_r3 ++ (wsX5_fault_r4 ++ (wsX5_fault_r5 ++ wsX5_fault_r6))))) ++ wsX50 ++ wsX20 ++ wsX30 ++ wsX40 ++ wsX00)
def wsX5_lay_r1 : List Cond := [Cond.fieldLink RX5 19 "TwoMetals" "reader" "LTwoMetals$Reader;", Cond.fieldLink RX5 10 "TwoMetals" "text" "LTwoMetals$Text;", Cond.fieldLink RX5 40 "TwoMetals" "now" "LTwoMetals$World;", Cond.fieldLink RX5 70 "TwoMetals$Reader" "world" "LTwoMetals$World;", Cond.fieldLink RX5 33 "TwoMetals" "mines" "LTwoMetals$Mines;", Cond.fieldLink RX5 77 "TwoMetals$Reader" "mines" "LTwoMetals$Mines;", Cond.fieldLink RX5 51 "TwoMetals" "keptCount" "I", Cond.fieldLink RX5 81 "TwoMetals$World" "told" "I", Cond.methodLink RX5 66 yX2_firstFault, Cond.instanceMethod yX2_firstFault, Cond.selects RX2 yX2_firstFault yX2_firstFault, Cond.initialized RX2, Cond.code yX2_firstFault cX2_firstFault 4 (some .int), Cond.fieldLink RX2 12 "TwoMetals$Reader" "world" "LTwoMetals$World;", Cond.fieldLink RX2 21 "TwoMetals$Reader" "mines" "LTwoMetals$Mines;", Cond.fieldLink RX2 29 "TwoMetals$Reader" "at" "I", Cond.fieldLink RX2 39 "TwoMetals$Text" "length" "I", Cond.methodLink RX2 33 yX4_clear, Cond.instanceMethod yX4_clear, Cond.selects RX4 yX4_clear yX4_clear, Cond.initialized RX4, Cond.code yX4_clear cX4_clear 1 none, Cond.fieldLink RX4 40 "TwoMetals$World" "told" "I", Cond.fieldLink RX4 44 "TwoMetals$World" "minting" "I"]
def wsX5_lay_r2 : List Cond := [Cond.fieldLink RX4 47 "TwoMetals$World" "limping" "I", Cond.fieldLink RX4 50 "TwoMetals$World" "marketGold" "J", Cond.fieldLink RX4 54 "TwoMetals$World" "marketSilver" "J", Cond.fieldLink RX4 57 "TwoMetals$World" "scarcity" "I", Cond.constant RX4 60 (1000000), Cond.fieldLink RX4 61 "TwoMetals$World" "price" "I", Cond.fieldLink RX4 64 "TwoMetals$World" "age" "I", Cond.methodLink RX2 36 yX0_clear, Cond.instanceMethod yX0_clear, Cond.selects RX0 yX0_clear yX0_clear, Cond.initialized RX0, Cond.code yX0_clear cX0_clear 1 none, Cond.fieldLink RX0 11 "TwoMetals$Mines" "told" "[I", Cond.fieldLink RX0 15 "TwoMetals$Mines" "gold" "[I", Cond.fieldLink RX0 18 "TwoMetals$Mines" "silver" "[I", Cond.methodLink RX0 21 yJ7_fill_53178, Cond.static yJ7_fill_53178, Cond.initialized RJ7, Cond.code yJ7_fill_53178 cJ7_fill_53178 4 none, Cond.methodLink RX2 42 yX2_readItem, Cond.instanceMethod yX2_readItem, Cond.selects RX2 yX2_readItem yX2_readItem, Cond.code yX2_readItem cX2_readItem 4 (some .boolean), Cond.fieldLink RX2 52 "TwoMetals$Text" "bytes" "[B"]
def wsX5_lay_r3 : List Cond := [Cond.methodLink RX2 56 yX2_numbersBehind, Cond.static yX2_numbersBehind, Cond.code yX2_numbersBehind cX2_numbersBehind 1 (some .int), Cond.methodLink RX2 60 yX2_readNumbers, Cond.instanceMethod yX2_readNumbers, Cond.selects RX2 yX2_readNumbers yX2_readNumbers, Cond.code yX2_readNumbers cX2_readNumbers 5 (some .boolean), Cond.methodLink RX2 68 yX2_readNumber, Cond.instanceMethod yX2_readNumber, Cond.selects RX2 yX2_readNumber yX2_readNumber, Cond.code yX2_readNumber cX2_readNumber 5 (some .boolean), Cond.fieldLink RX2 25 "TwoMetals$Reader" "number" "[I", Cond.methodLink RX2 74 yX2_isFigure, Cond.static yX2_isFigure, Cond.code yX2_isFigure cX2_isFigure 1 (some .boolean), Cond.methodLink RX2 71 yX2_readSign, Cond.instanceMethod yX2_readSign, Cond.selects RX2 yX2_readSign yX2_readSign, Cond.code yX2_readSign cX2_readSign 3 (some .boolean), Cond.methodLink RX2 64 yX2_takeItem, Cond.instanceMethod yX2_takeItem, Cond.selects RX2 yX2_takeItem yX2_takeItem, Cond.code yX2_takeItem cX2_takeItem 2 (some .boolean), Cond.methodLink RX2 77 yX2_takeRealm]
def wsX5_lay_r4 : List Cond := [Cond.instanceMethod yX2_takeRealm, Cond.selects RX2 yX2_takeRealm yX2_takeRealm, Cond.code yX2_takeRealm cX2_takeRealm 5 (some .boolean), Cond.constant RX2 103 (99999), Cond.fieldLink RX2 106 "TwoMetals$World" "told" "I", Cond.fieldLink RX2 109 "TwoMetals$World" "minting" "I", Cond.fieldLink RX2 112 "TwoMetals$World" "cut" "[I", Cond.fieldLink RX2 115 "TwoMetals$World" "way" "[I", Cond.fieldLink RX2 122 "TwoMetals$World" "gold" "[J", Cond.fieldLink RX2 126 "TwoMetals$World" "silver" "[J", Cond.constantLong RX2 129 (1000), Cond.fieldLink RX2 131 "TwoMetals$World" "yearly" "[I", Cond.fieldLink RX2 134 "TwoMetals$World" "stopAt" "[I", Cond.methodLink RX2 96 yX2_isWithin, Cond.instanceMethod yX2_isWithin, Cond.selects RX2 yX2_isWithin yX2_isWithin, Cond.code yX2_isWithin cX2_isWithin 4 (some .boolean), Cond.methodLink RX2 100 yX4_has, Cond.instanceMethod yX4_has, Cond.selects RX4 yX4_has yX4_has, Cond.code yX4_has cX4_has 2 (some .boolean), Cond.methodLink RX2 118 yX4_setLaw, Cond.instanceMethod yX4_setLaw, Cond.selects RX4 yX4_setLaw yX4_setLaw]
def wsX5_lay_r5 : List Cond := [Cond.code yX4_setLaw cX4_setLaw 8 none, Cond.fieldLink RX4 9 "TwoMetals$World" "law" "[I", Cond.fieldLink RX4 18 "TwoMetals$World" "way" "[I", Cond.constantLong RX4 73 (1000), Cond.fieldLink RX4 15 "TwoMetals$World" "cut" "[I", Cond.methodLink RX4 75 Lib.Math.max.name, Cond.static Lib.Math.max.name, Cond.initialized "java/lang/Math", Cond.code Lib.Math.max.name Lib.Math.max.code 2 (some .int), Cond.fieldLink RX4 27 "TwoMetals$World" "low" "[I", Cond.fieldLink RX4 30 "TwoMetals$World" "high" "[I", Cond.constantLong RX4 81 (1000000), Cond.methodLink RX4 83 Lib.MathLoose.min_long.x, Cond.static Lib.MathLoose.min_long.x, Cond.code Lib.MathLoose.min_long.x Lib.MathLoose.min_long.code 4 (some .long), Cond.methodLink RX2 81 yX2_takeLimp, Cond.instanceMethod yX2_takeLimp, Cond.selects RX2 yX2_takeLimp yX2_takeLimp, Cond.code yX2_takeLimp cX2_takeLimp 1 (some .boolean), Cond.fieldLink RX2 137 "TwoMetals$World" "limping" "I", Cond.methodLink RX2 84 yX2_takeStop, Cond.instanceMethod yX2_takeStop, Cond.selects RX2 yX2_takeStop yX2_takeStop, Cond.code yX2_takeStop cX2_takeStop 1 (some .boolean)]
def wsX5_lay_r6 : List Cond := [Cond.methodLink RX2 87 yX2_takeMarket, Cond.instanceMethod yX2_takeMarket, Cond.selects RX2 yX2_takeMarket yX2_takeMarket, Cond.code yX2_takeMarket cX2_takeMarket 1 (some .boolean), Cond.fieldLink RX2 140 "TwoMetals$World" "marketGold" "J", Cond.fieldLink RX2 144 "TwoMetals$World" "marketSilver" "J", Cond.methodLink RX2 90 yX2_takeScarcity, Cond.instanceMethod yX2_takeScarcity, Cond.selects RX2 yX2_takeScarcity yX2_takeScarcity, Cond.code yX2_takeScarcity cX2_takeScarcity 1 (some .boolean), Cond.fieldLink RX2 147 "TwoMetals$World" "scarcity" "I", Cond.methodLink RX2 93 yX2_takeMines, Cond.instanceMethod yX2_takeMines, Cond.selects RX2 yX2_takeMines yX2_takeMines, Cond.code yX2_takeMines cX2_takeMines 1 (some .boolean), Cond.methodLink RX2 150 yX0_tell, Cond.instanceMethod yX0_tell, Cond.selects RX0 yX0_tell yX0_tell, Cond.code yX0_tell cX0_tell 4 none, Cond.methodLink RX2 46 yX0_fillGaps, Cond.instanceMethod yX0_fillGaps, Cond.selects RX0 yX0_fillGaps yX0_fillGaps, Cond.code yX0_fillGaps cX0_fillGaps 2 none, Cond.methodLink RX2 49 yX4_weigh]
def wsX5_lay_r7 : List Cond := [Cond.instanceMethod yX4_weigh, Cond.selects RX4 yX4_weigh yX4_weigh, Cond.code yX4_weigh cX4_weigh 1 none, Cond.methodLink RX5 73 yX4_copyFrom, Cond.instanceMethod yX4_copyFrom, Cond.selects RX4 yX4_copyFrom yX4_copyFrom, Cond.code yX4_copyFrom cX4_copyFrom 2 none, Cond.methodLink RX4 67 arraycopyName, Cond.native arraycopyName, Cond.static arraycopyName, Cond.initialized "java/lang/System", Cond.fieldLink RX4 21 "TwoMetals$World" "yearly" "[I", Cond.fieldLink RX4 24 "TwoMetals$World" "stopAt" "[I", Cond.fieldLink RX4 33 "TwoMetals$World" "gold" "[J", Cond.fieldLink RX4 37 "TwoMetals$World" "silver" "[J", Cond.methodLink RX5 78 yX0_copyFrom, Cond.instanceMethod yX0_copyFrom, Cond.selects RX0 yX0_copyFrom yX0_copyFrom, Cond.code yX0_copyFrom cX0_copyFrom 2 none, Cond.methodLink RX0 27 arraycopyName, Cond.methodLink RX5 84 yJ6_bitCount_0f7a4, Cond.static yJ6_bitCount_0f7a4, Cond.initialized RJ6, Cond.code yJ6_bitCount_0f7a4 cJ6_bitCount_0f7a4 1 (some .int)]
def wsX5_lay_r8 : List Cond := [Cond.constant RJ6 265 (1431655765), Cond.constant RJ6 266 (858993459), Cond.constant RJ6 267 (252645135)]
def wsX5_lay : List Cond := .code yX5_lay cX5_lay 1 (some .int) :: ((wsX5_lay_r1 ++ (wsX5_lay_r2 ++ (wsX5_lay_r3 ++ (wsX5_lay_r4 ++ (wsX5_lay_r5 ++ (wsX5_lay_r6 ++ (wsX5_lay_r7 ++ wsX5_lay_r8))))))) ++ wsX50 ++ wsX20 ++ wsX40 ++ wsX30 ++ wsX00)
def wsX5_realm : List Cond := .code yX5_realm cX5_realm 3 (some .long) :: ([.fieldLink RX5 40 "TwoMetals" "now" "LTwoMetals$World;", .constantLong RX5 93 (-1), .fieldLink RX5 95 "TwoMetals$World" "law" "[I", .fieldLink RX5 99 "TwoMetals$World" "cut" "[I", .fieldLink RX5 102 "TwoMetals$World" "way" "[I", .fieldLink RX5 105 "TwoMetals$World" "gold" "[J", .fieldLink RX5 109 "TwoMetals$World" "silver" "[J", .fieldLink RX5 112 "TwoMetals$World" "yearly" "[I", .methodLink RX5 90 yX4_has, .instanceMethod yX4_has, .selects RX4 yX4_has yX4_has, .initialized RX4, .code yX4_has cX4_has 2 (some .boolean), .fieldLink RX4 40 "TwoMetals$World" "told" "I", .methodLink RX5 115 yX4_mints, .instanceMethod yX4_mints, .selects RX4 yX4_mints yX4_mints, .code yX4_mints cX4_mints 2 (some .boolean), .fieldLink RX4 44 "TwoMetals$World" "minting" "I", .methodLink RX5 118 yX4_limps, .instanceMethod yX4_limps, .selects RX4 yX4_limps yX4_limps, .code yX4_limps cX4_limps 2 (some .boolean), .fieldLink RX4 47 "TwoMetals$World" "limping" "I"] ++ wsX50 ++ wsX40)
def wsX5_market : List Cond := .code yX5_market cX5_market 2 (some .long) :: ([.fieldLink RX5 40 "TwoMetals" "now" "LTwoMetals$World;", .fieldLink RX5 121 "TwoMetals$World" "marketGold" "J", .fieldLink RX5 125 "TwoMetals$World" "marketSilver" "J", .fieldLink RX5 128 "TwoMetals$World" "price" "I", .fieldLink RX5 131 "TwoMetals$World" "age" "I", .constantLong RX5 93 (-1)] ++ wsX50 ++ wsX40)
def wsX5_moves_r1 : List Cond := [Cond.fieldLink RX5 40 "TwoMetals" "now" "LTwoMetals$World;", Cond.methodLink RX5 90 yX4_has, Cond.instanceMethod yX4_has, Cond.selects RX4 yX4_has yX4_has, Cond.initialized RX4, Cond.code yX4_has cX4_has 2 (some .boolean), Cond.fieldLink RX4 40 "TwoMetals$World" "told" "I", Cond.methodLink RX5 134 yX4_heading, Cond.instanceMethod yX4_heading, Cond.selects RX4 yX4_heading yX4_heading, Cond.code yX4_heading cX4_heading 3 (some .int), Cond.fieldLink RX4 61 "TwoMetals$World" "price" "I", Cond.fieldLink RX4 30 "TwoMetals$World" "high" "[I", Cond.fieldLink RX4 54 "TwoMetals$World" "marketSilver" "J", Cond.fieldLink RX4 9 "TwoMetals$World" "law" "[I", Cond.fieldLink RX4 27 "TwoMetals$World" "low" "[I", Cond.fieldLink RX4 50 "TwoMetals$World" "marketGold" "J", Cond.methodLink RX4 87 yX4_mints, Cond.instanceMethod yX4_mints, Cond.selects RX4 yX4_mints yX4_mints, Cond.code yX4_mints cX4_mints 2 (some .boolean), Cond.fieldLink RX4 44 "TwoMetals$World" "minting" "I", Cond.methodLink RX4 91 yX4_limps, Cond.instanceMethod yX4_limps]
def wsX5_moves_r2 : List Cond := [Cond.selects RX4 yX4_limps yX4_limps, Cond.code yX4_limps cX4_limps 2 (some .boolean), Cond.fieldLink RX4 47 "TwoMetals$World" "limping" "I", Cond.methodLink RX4 94 yX4_hasGold, Cond.instanceMethod yX4_hasGold, Cond.selects RX4 yX4_hasGold yX4_hasGold, Cond.code yX4_hasGold cX4_hasGold 2 (some .boolean), Cond.fieldLink RX4 33 "TwoMetals$World" "gold" "[J", Cond.methodLink RX4 97 yX4_hasSilver, Cond.instanceMethod yX4_hasSilver, Cond.selects RX4 yX4_hasSilver yX4_hasSilver, Cond.code yX4_hasSilver cX4_hasSilver 2 (some .boolean), Cond.fieldLink RX4 37 "TwoMetals$World" "silver" "[J"]
def wsX5_moves : List Cond := .code yX5_moves cX5_moves 2 (some .int) :: ((wsX5_moves_r1 ++ wsX5_moves_r2) ++ wsX50 ++ wsX40)
def wsX5_isZeroOrOne : List Cond := .code yX5_isZeroOrOne cX5_isZeroOrOne 1 (some .boolean) :: ([])
def wsX5_ends : List Cond := .code yX5_ends cX5_ends 3 (some .int) :: ([.fieldLink RX5 40 "TwoMetals" "now" "LTwoMetals$World;", .fieldLink RX5 140 "TwoMetals$World" "low" "[I", .fieldLink RX5 143 "TwoMetals$World" "high" "[I", .methodLink RX5 90 yX4_has, .instanceMethod yX4_has, .selects RX4 yX4_has yX4_has, .initialized RX4, .code yX4_has cX4_has 2 (some .boolean), .fieldLink RX4 40 "TwoMetals$World" "told" "I", .methodLink RX5 137 yX5_isZeroOrOne, .static yX5_isZeroOrOne, .initialized RX5, .code yX5_isZeroOrOne cX5_isZeroOrOne 1 (some .boolean)] ++ wsX50 ++ wsX40)
def wsX5_held_r1 : List Cond := [Cond.fieldLink RX5 40 "TwoMetals" "now" "LTwoMetals$World;", Cond.methodLink RX5 146 yX4_holders, Cond.instanceMethod yX4_holders, Cond.selects RX4 yX4_holders yX4_holders, Cond.initialized RX4, Cond.code yX4_holders cX4_holders 4 (some .int), Cond.fieldLink RX4 61 "TwoMetals$World" "price" "I", Cond.fieldLink RX4 27 "TwoMetals$World" "low" "[I", Cond.fieldLink RX4 30 "TwoMetals$World" "high" "[I", Cond.methodLink RX4 87 yX4_mints, Cond.instanceMethod yX4_mints, Cond.selects RX4 yX4_mints yX4_mints, Cond.code yX4_mints cX4_mints 2 (some .boolean), Cond.fieldLink RX4 44 "TwoMetals$World" "minting" "I", Cond.methodLink RX4 94 yX4_hasGold, Cond.instanceMethod yX4_hasGold, Cond.selects RX4 yX4_hasGold yX4_hasGold, Cond.code yX4_hasGold cX4_hasGold 2 (some .boolean), Cond.fieldLink RX4 33 "TwoMetals$World" "gold" "[J", Cond.methodLink RX4 97 yX4_hasSilver, Cond.instanceMethod yX4_hasSilver, Cond.selects RX4 yX4_hasSilver yX4_hasSilver, Cond.code yX4_hasSilver cX4_hasSilver 2 (some .boolean), Cond.fieldLink RX4 37 "TwoMetals$World" "silver" "[J"]
def wsX5_held_r2 : List Cond := [Cond.fieldLink RX4 9 "TwoMetals$World" "law" "[I"]
def wsX5_held : List Cond := .code yX5_held cX5_held 1 (some .int) :: ((wsX5_held_r1 ++ wsX5_held_r2) ++ wsX50 ++ wsX40)
def wsX5_year_r1 : List Cond := [Cond.fieldLink RX5 26 "TwoMetals" "mover" "LTwoMetals$Mover;", Cond.fieldLink RX5 40 "TwoMetals" "now" "LTwoMetals$World;", Cond.fieldLink RX5 33 "TwoMetals" "mines" "LTwoMetals$Mines;", Cond.methodLink RX5 150 yX1_passYear, Cond.instanceMethod yX1_passYear, Cond.selects RX1 yX1_passYear yX1_passYear, Cond.initialized RX1, Cond.code yX1_passYear cX1_passYear 6 (some .int), Cond.fieldLink RX1 25 "TwoMetals$World" "yearly" "[I", Cond.fieldLink RX1 11 "TwoMetals$Mover" "left" "[I", Cond.methodLink RX1 30 arraycopyName, Cond.native arraycopyName, Cond.static arraycopyName, Cond.initialized "java/lang/System", Cond.fieldLink RX1 43 "TwoMetals$World" "age" "I", Cond.methodLink RX1 19 yX0_bringTo, Cond.instanceMethod yX0_bringTo, Cond.selects RX0 yX0_bringTo yX0_bringTo, Cond.initialized RX0, Cond.code yX0_bringTo cX0_bringTo 3 none, Cond.fieldLink RX0 33 "TwoMetals$World" "age" "I", Cond.methodLink RX0 39 Lib.Math.min.name, Cond.static Lib.Math.min.name, Cond.initialized "java/lang/Math"]
def wsX5_year_r2 : List Cond := [Cond.code Lib.Math.min.name Lib.Math.min.code 2 (some .int), Cond.methodLink RX0 45 Lib.Math.max.name, Cond.static Lib.Math.max.name, Cond.code Lib.Math.max.name Lib.Math.max.code 2 (some .int), Cond.fieldLink RX0 48 "TwoMetals$World" "marketGold" "J", Cond.fieldLink RX0 15 "TwoMetals$Mines" "gold" "[I", Cond.fieldLink RX0 52 "TwoMetals$World" "marketSilver" "J", Cond.constantLong RX0 55 (1000), Cond.fieldLink RX0 18 "TwoMetals$Mines" "silver" "[I", Cond.methodLink RX0 57 yX4_weigh, Cond.instanceMethod yX4_weigh, Cond.selects RX4 yX4_weigh yX4_weigh, Cond.initialized RX4, Cond.code yX4_weigh cX4_weigh 1 none, Cond.fieldLink RX4 50 "TwoMetals$World" "marketGold" "J", Cond.constant RX4 60 (1000000), Cond.fieldLink RX4 61 "TwoMetals$World" "price" "I", Cond.fieldLink RX4 57 "TwoMetals$World" "scarcity" "I", Cond.fieldLink RX4 54 "TwoMetals$World" "marketSilver" "J", Cond.constantLong RX4 73 (1000), Cond.constantLong RX4 81 (1000000), Cond.methodLink RX4 83 Lib.MathLoose.min_long.x, Cond.static Lib.MathLoose.min_long.x, Cond.code Lib.MathLoose.min_long.x Lib.MathLoose.min_long.code 4 (some .long)]
def wsX5_year_r3 : List Cond := [Cond.methodLink RX1 36 yX1_goRound, Cond.instanceMethod yX1_goRound, Cond.selects RX1 yX1_goRound yX1_goRound, Cond.code yX1_goRound cX1_goRound 5 (some .int), Cond.methodLink RX1 68 yX4_heading, Cond.instanceMethod yX4_heading, Cond.selects RX4 yX4_heading yX4_heading, Cond.code yX4_heading cX4_heading 3 (some .int), Cond.fieldLink RX4 30 "TwoMetals$World" "high" "[I", Cond.fieldLink RX4 9 "TwoMetals$World" "law" "[I", Cond.fieldLink RX4 27 "TwoMetals$World" "low" "[I", Cond.methodLink RX4 87 yX4_mints, Cond.instanceMethod yX4_mints, Cond.selects RX4 yX4_mints yX4_mints, Cond.code yX4_mints cX4_mints 2 (some .boolean), Cond.fieldLink RX4 44 "TwoMetals$World" "minting" "I", Cond.methodLink RX4 91 yX4_limps, Cond.instanceMethod yX4_limps, Cond.selects RX4 yX4_limps yX4_limps, Cond.code yX4_limps cX4_limps 2 (some .boolean), Cond.fieldLink RX4 47 "TwoMetals$World" "limping" "I", Cond.methodLink RX4 94 yX4_hasGold, Cond.instanceMethod yX4_hasGold, Cond.selects RX4 yX4_hasGold yX4_hasGold]
def wsX5_year_r4 : List Cond := [Cond.code yX4_hasGold cX4_hasGold 2 (some .boolean), Cond.fieldLink RX4 33 "TwoMetals$World" "gold" "[J", Cond.methodLink RX4 97 yX4_hasSilver, Cond.instanceMethod yX4_hasSilver, Cond.selects RX4 yX4_hasSilver yX4_hasSilver, Cond.code yX4_hasSilver cX4_hasSilver 2 (some .boolean), Cond.fieldLink RX4 37 "TwoMetals$World" "silver" "[J", Cond.methodLink RX1 71 yX4_carry, Cond.instanceMethod yX4_carry, Cond.selects RX4 yX4_carry yX4_carry, Cond.code yX4_carry cX4_carry 4 none, Cond.methodLink RX4 100 yX4_weigh, Cond.methodLink RX1 40 yX4_stopThoseThatRanLow, Cond.instanceMethod yX4_stopThoseThatRanLow, Cond.selects RX4 yX4_stopThoseThatRanLow yX4_stopThoseThatRanLow, Cond.code yX4_stopThoseThatRanLow cX4_stopThoseThatRanLow 2 none, Cond.fieldLink RX4 24 "TwoMetals$World" "stopAt" "[I"]
def wsX5_year : List Cond := .code yX5_year cX5_year 1 (some .int) :: ((wsX5_year_r1 ++ (wsX5_year_r2 ++ (wsX5_year_r3 ++ wsX5_year_r4))) ++ wsX50 ++ wsX40 ++ wsX10 ++ wsX00)
def wsX5_rest_r1 : List Cond := [Cond.fieldLink RX5 44 "TwoMetals" "trial" "LTwoMetals$World;", Cond.fieldLink RX5 40 "TwoMetals" "now" "LTwoMetals$World;", Cond.fieldLink RX5 26 "TwoMetals" "mover" "LTwoMetals$Mover;", Cond.methodLink RX5 73 yX4_copyFrom, Cond.instanceMethod yX4_copyFrom, Cond.selects RX4 yX4_copyFrom yX4_copyFrom, Cond.initialized RX4, Cond.code yX4_copyFrom cX4_copyFrom 2 none, Cond.fieldLink RX4 9 "TwoMetals$World" "law" "[I", Cond.methodLink RX4 67 arraycopyName, Cond.native arraycopyName, Cond.static arraycopyName, Cond.initialized "java/lang/System", Cond.fieldLink RX4 15 "TwoMetals$World" "cut" "[I", Cond.fieldLink RX4 18 "TwoMetals$World" "way" "[I", Cond.fieldLink RX4 21 "TwoMetals$World" "yearly" "[I", Cond.fieldLink RX4 24 "TwoMetals$World" "stopAt" "[I", Cond.fieldLink RX4 27 "TwoMetals$World" "low" "[I", Cond.fieldLink RX4 30 "TwoMetals$World" "high" "[I", Cond.fieldLink RX4 33 "TwoMetals$World" "gold" "[J", Cond.fieldLink RX4 37 "TwoMetals$World" "silver" "[J", Cond.fieldLink RX4 40 "TwoMetals$World" "told" "I", Cond.fieldLink RX4 44 "TwoMetals$World" "minting" "I", Cond.fieldLink RX4 47 "TwoMetals$World" "limping" "I"]
def wsX5_rest_r2 : List Cond := [Cond.fieldLink RX4 50 "TwoMetals$World" "marketGold" "J", Cond.fieldLink RX4 54 "TwoMetals$World" "marketSilver" "J", Cond.fieldLink RX4 57 "TwoMetals$World" "scarcity" "I", Cond.fieldLink RX4 61 "TwoMetals$World" "price" "I", Cond.fieldLink RX4 64 "TwoMetals$World" "age" "I", Cond.methodLink RX5 154 yX1_settle, Cond.instanceMethod yX1_settle, Cond.selects RX1 yX1_settle yX1_settle, Cond.initialized RX1, Cond.code yX1_settle cX1_settle 5 (some .int), Cond.fieldLink RX1 11 "TwoMetals$Mover" "left" "[I", Cond.constant RX1 47 (200001), Cond.constant RX1 57 (200000), Cond.methodLink RX1 48 yJ7_fill_53178, Cond.static yJ7_fill_53178, Cond.initialized RJ7, Cond.code yJ7_fill_53178 cJ7_fill_53178 4 none, Cond.methodLink RX1 54 yX1_mark, Cond.instanceMethod yX1_mark, Cond.selects RX1 yX1_mark yX1_mark, Cond.code yX1_mark cX1_mark 2 none, Cond.fieldLink RX1 75 "TwoMetals$World" "gold" "[J", Cond.fieldLink RX1 15 "TwoMetals$Mover" "marked" "[J", Cond.methodLink RX1 30 arraycopyName]
def wsX5_rest_r3 : List Cond := [Cond.methodLink RX1 36 yX1_goRound, Cond.instanceMethod yX1_goRound, Cond.selects RX1 yX1_goRound yX1_goRound, Cond.code yX1_goRound cX1_goRound 5 (some .int), Cond.methodLink RX1 68 yX4_heading, Cond.instanceMethod yX4_heading, Cond.selects RX4 yX4_heading yX4_heading, Cond.code yX4_heading cX4_heading 3 (some .int), Cond.methodLink RX4 87 yX4_mints, Cond.instanceMethod yX4_mints, Cond.selects RX4 yX4_mints yX4_mints, Cond.code yX4_mints cX4_mints 2 (some .boolean), Cond.methodLink RX4 91 yX4_limps, Cond.instanceMethod yX4_limps, Cond.selects RX4 yX4_limps yX4_limps, Cond.code yX4_limps cX4_limps 2 (some .boolean), Cond.methodLink RX4 94 yX4_hasGold, Cond.instanceMethod yX4_hasGold, Cond.selects RX4 yX4_hasGold yX4_hasGold, Cond.code yX4_hasGold cX4_hasGold 2 (some .boolean), Cond.methodLink RX4 97 yX4_hasSilver, Cond.instanceMethod yX4_hasSilver, Cond.selects RX4 yX4_hasSilver yX4_hasSilver, Cond.code yX4_hasSilver cX4_hasSilver 2 (some .boolean)]
def wsX5_rest_r4 : List Cond := [Cond.methodLink RX1 71 yX4_carry, Cond.instanceMethod yX4_carry, Cond.selects RX4 yX4_carry yX4_carry, Cond.code yX4_carry cX4_carry 4 none, Cond.methodLink RX4 100 yX4_weigh, Cond.instanceMethod yX4_weigh, Cond.selects RX4 yX4_weigh yX4_weigh, Cond.code yX4_weigh cX4_weigh 1 none, Cond.constant RX4 60 (1000000), Cond.constantLong RX4 73 (1000), Cond.constantLong RX4 81 (1000000), Cond.methodLink RX4 83 Lib.MathLoose.min_long.x, Cond.static Lib.MathLoose.min_long.x, Cond.initialized "java/lang/Math", Cond.code Lib.MathLoose.min_long.x Lib.MathLoose.min_long.code 4 (some .long), Cond.methodLink RX1 58 yX1_isMarked, Cond.instanceMethod yX1_isMarked, Cond.selects RX1 yX1_isMarked yX1_isMarked, Cond.code yX1_isMarked cX1_isMarked 3 (some .boolean), Cond.methodLink RX1 62 yJ6_bitCount_0f7a4, Cond.static yJ6_bitCount_0f7a4, Cond.initialized RJ6, Cond.code yJ6_bitCount_0f7a4 cJ6_bitCount_0f7a4 1 (some .int), Cond.constant RJ6 265 (1431655765)]
def wsX5_rest_r5 : List Cond := [Cond.constant RJ6 266 (858993459), Cond.constant RJ6 267 (252645135)]
def wsX5_rest : List Cond := .code yX5_rest cX5_rest 2 (some .int) :: ((wsX5_rest_r1 ++ (wsX5_rest_r2 ++ (wsX5_rest_r3 ++ (wsX5_rest_r4 ++ wsX5_rest_r5)))) ++ wsX50 ++ wsX40 ++ wsX10)
def wsX5_isSpanOfYears : List Cond := .code yX5_isSpanOfYears cX5_isSpanOfYears 1 (some .boolean) :: ([])
def wsX5_gone_r1 : List Cond := [Cond.fieldLink RX5 40 "TwoMetals" "now" "LTwoMetals$World;", Cond.fieldLink RX5 44 "TwoMetals" "trial" "LTwoMetals$World;", Cond.fieldLink RX5 26 "TwoMetals" "mover" "LTwoMetals$Mover;", Cond.fieldLink RX5 33 "TwoMetals" "mines" "LTwoMetals$Mines;", Cond.methodLink RX5 90 yX4_has, Cond.instanceMethod yX4_has, Cond.selects RX4 yX4_has yX4_has, Cond.initialized RX4, Cond.code yX4_has cX4_has 2 (some .boolean), Cond.fieldLink RX4 40 "TwoMetals$World" "told" "I", Cond.methodLink RX5 137 yX5_isZeroOrOne, Cond.static yX5_isZeroOrOne, Cond.initialized RX5, Cond.code yX5_isZeroOrOne cX5_isZeroOrOne 1 (some .boolean), Cond.methodLink RX5 158 yX5_isSpanOfYears, Cond.static yX5_isSpanOfYears, Cond.code yX5_isSpanOfYears cX5_isSpanOfYears 1 (some .boolean), Cond.methodLink RX5 73 yX4_copyFrom, Cond.instanceMethod yX4_copyFrom, Cond.selects RX4 yX4_copyFrom yX4_copyFrom, Cond.code yX4_copyFrom cX4_copyFrom 2 none, Cond.fieldLink RX4 9 "TwoMetals$World" "law" "[I", Cond.methodLink RX4 67 arraycopyName, Cond.native arraycopyName]
def wsX5_gone_r2 : List Cond := [Cond.static arraycopyName, Cond.initialized "java/lang/System", Cond.fieldLink RX4 15 "TwoMetals$World" "cut" "[I", Cond.fieldLink RX4 18 "TwoMetals$World" "way" "[I", Cond.fieldLink RX4 21 "TwoMetals$World" "yearly" "[I", Cond.fieldLink RX4 24 "TwoMetals$World" "stopAt" "[I", Cond.fieldLink RX4 27 "TwoMetals$World" "low" "[I", Cond.fieldLink RX4 30 "TwoMetals$World" "high" "[I", Cond.fieldLink RX4 33 "TwoMetals$World" "gold" "[J", Cond.fieldLink RX4 37 "TwoMetals$World" "silver" "[J", Cond.fieldLink RX4 44 "TwoMetals$World" "minting" "I", Cond.fieldLink RX4 47 "TwoMetals$World" "limping" "I", Cond.fieldLink RX4 50 "TwoMetals$World" "marketGold" "J", Cond.fieldLink RX4 54 "TwoMetals$World" "marketSilver" "J", Cond.fieldLink RX4 57 "TwoMetals$World" "scarcity" "I", Cond.fieldLink RX4 61 "TwoMetals$World" "price" "I", Cond.fieldLink RX4 64 "TwoMetals$World" "age" "I", Cond.methodLink RX5 150 yX1_passYear, Cond.instanceMethod yX1_passYear, Cond.selects RX1 yX1_passYear yX1_passYear, Cond.initialized RX1, Cond.code yX1_passYear cX1_passYear 6 (some .int), Cond.fieldLink RX1 25 "TwoMetals$World" "yearly" "[I", Cond.fieldLink RX1 11 "TwoMetals$Mover" "left" "[I"]
def wsX5_gone_r3 : List Cond := [Cond.methodLink RX1 30 arraycopyName, Cond.fieldLink RX1 43 "TwoMetals$World" "age" "I", Cond.methodLink RX1 19 yX0_bringTo, Cond.instanceMethod yX0_bringTo, Cond.selects RX0 yX0_bringTo yX0_bringTo, Cond.initialized RX0, Cond.code yX0_bringTo cX0_bringTo 3 none, Cond.fieldLink RX0 33 "TwoMetals$World" "age" "I", Cond.methodLink RX0 39 Lib.Math.min.name, Cond.static Lib.Math.min.name, Cond.initialized "java/lang/Math", Cond.code Lib.Math.min.name Lib.Math.min.code 2 (some .int), Cond.methodLink RX0 45 Lib.Math.max.name, Cond.static Lib.Math.max.name, Cond.code Lib.Math.max.name Lib.Math.max.code 2 (some .int), Cond.fieldLink RX0 48 "TwoMetals$World" "marketGold" "J", Cond.fieldLink RX0 15 "TwoMetals$Mines" "gold" "[I", Cond.fieldLink RX0 52 "TwoMetals$World" "marketSilver" "J", Cond.constantLong RX0 55 (1000), Cond.fieldLink RX0 18 "TwoMetals$Mines" "silver" "[I", Cond.methodLink RX0 57 yX4_weigh, Cond.instanceMethod yX4_weigh, Cond.selects RX4 yX4_weigh yX4_weigh, Cond.code yX4_weigh cX4_weigh 1 none]
def wsX5_gone_r4 : List Cond := [Cond.constant RX4 60 (1000000), Cond.constantLong RX4 73 (1000), Cond.constantLong RX4 81 (1000000), Cond.methodLink RX4 83 Lib.MathLoose.min_long.x, Cond.static Lib.MathLoose.min_long.x, Cond.code Lib.MathLoose.min_long.x Lib.MathLoose.min_long.code 4 (some .long), Cond.methodLink RX1 36 yX1_goRound, Cond.instanceMethod yX1_goRound, Cond.selects RX1 yX1_goRound yX1_goRound, Cond.code yX1_goRound cX1_goRound 5 (some .int), Cond.methodLink RX1 68 yX4_heading, Cond.instanceMethod yX4_heading, Cond.selects RX4 yX4_heading yX4_heading, Cond.code yX4_heading cX4_heading 3 (some .int), Cond.methodLink RX4 87 yX4_mints, Cond.instanceMethod yX4_mints, Cond.selects RX4 yX4_mints yX4_mints, Cond.code yX4_mints cX4_mints 2 (some .boolean), Cond.methodLink RX4 91 yX4_limps, Cond.instanceMethod yX4_limps, Cond.selects RX4 yX4_limps yX4_limps, Cond.code yX4_limps cX4_limps 2 (some .boolean), Cond.methodLink RX4 94 yX4_hasGold, Cond.instanceMethod yX4_hasGold]
def wsX5_gone_r5 : List Cond := [Cond.selects RX4 yX4_hasGold yX4_hasGold, Cond.code yX4_hasGold cX4_hasGold 2 (some .boolean), Cond.methodLink RX4 97 yX4_hasSilver, Cond.instanceMethod yX4_hasSilver, Cond.selects RX4 yX4_hasSilver yX4_hasSilver, Cond.code yX4_hasSilver cX4_hasSilver 2 (some .boolean), Cond.methodLink RX1 71 yX4_carry, Cond.instanceMethod yX4_carry, Cond.selects RX4 yX4_carry yX4_carry, Cond.code yX4_carry cX4_carry 4 none, Cond.methodLink RX4 100 yX4_weigh, Cond.methodLink RX1 40 yX4_stopThoseThatRanLow, Cond.instanceMethod yX4_stopThoseThatRanLow, Cond.selects RX4 yX4_stopThoseThatRanLow yX4_stopThoseThatRanLow, Cond.code yX4_stopThoseThatRanLow cX4_stopThoseThatRanLow 2 none, Cond.methodLink RX5 161 yX4_hasGold, Cond.methodLink RX5 164 yX4_hasSilver]
def wsX5_gone : List Cond := .code yX5_gone cX5_gone 5 (some .int) :: ((wsX5_gone_r1 ++ (wsX5_gone_r2 ++ (wsX5_gone_r3 ++ (wsX5_gone_r4 ++ wsX5_gone_r5)))) ++ wsX50 ++ wsX40 ++ wsX10 ++ wsX00)
def wsX5_stopped_r1 : List Cond := [Cond.fieldLink RX5 40 "TwoMetals" "now" "LTwoMetals$World;", Cond.fieldLink RX5 44 "TwoMetals" "trial" "LTwoMetals$World;", Cond.fieldLink RX5 26 "TwoMetals" "mover" "LTwoMetals$Mover;", Cond.fieldLink RX5 33 "TwoMetals" "mines" "LTwoMetals$Mines;", Cond.methodLink RX5 90 yX4_has, Cond.instanceMethod yX4_has, Cond.selects RX4 yX4_has yX4_has, Cond.initialized RX4, Cond.code yX4_has cX4_has 2 (some .boolean), Cond.fieldLink RX4 40 "TwoMetals$World" "told" "I", Cond.methodLink RX5 158 yX5_isSpanOfYears, Cond.static yX5_isSpanOfYears, Cond.initialized RX5, Cond.code yX5_isSpanOfYears cX5_isSpanOfYears 1 (some .boolean), Cond.methodLink RX5 115 yX4_mints, Cond.instanceMethod yX4_mints, Cond.selects RX4 yX4_mints yX4_mints, Cond.code yX4_mints cX4_mints 2 (some .boolean), Cond.fieldLink RX4 44 "TwoMetals$World" "minting" "I", Cond.methodLink RX5 73 yX4_copyFrom, Cond.instanceMethod yX4_copyFrom, Cond.selects RX4 yX4_copyFrom yX4_copyFrom, Cond.code yX4_copyFrom cX4_copyFrom 2 none, Cond.fieldLink RX4 9 "TwoMetals$World" "law" "[I"]
def wsX5_stopped_r2 : List Cond := [Cond.methodLink RX4 67 arraycopyName, Cond.native arraycopyName, Cond.static arraycopyName, Cond.initialized "java/lang/System", Cond.fieldLink RX4 15 "TwoMetals$World" "cut" "[I", Cond.fieldLink RX4 18 "TwoMetals$World" "way" "[I", Cond.fieldLink RX4 21 "TwoMetals$World" "yearly" "[I", Cond.fieldLink RX4 24 "TwoMetals$World" "stopAt" "[I", Cond.fieldLink RX4 27 "TwoMetals$World" "low" "[I", Cond.fieldLink RX4 30 "TwoMetals$World" "high" "[I", Cond.fieldLink RX4 33 "TwoMetals$World" "gold" "[J", Cond.fieldLink RX4 37 "TwoMetals$World" "silver" "[J", Cond.fieldLink RX4 47 "TwoMetals$World" "limping" "I", Cond.fieldLink RX4 50 "TwoMetals$World" "marketGold" "J", Cond.fieldLink RX4 54 "TwoMetals$World" "marketSilver" "J", Cond.fieldLink RX4 57 "TwoMetals$World" "scarcity" "I", Cond.fieldLink RX4 61 "TwoMetals$World" "price" "I", Cond.fieldLink RX4 64 "TwoMetals$World" "age" "I", Cond.methodLink RX5 150 yX1_passYear, Cond.instanceMethod yX1_passYear, Cond.selects RX1 yX1_passYear yX1_passYear, Cond.initialized RX1, Cond.code yX1_passYear cX1_passYear 6 (some .int), Cond.fieldLink RX1 25 "TwoMetals$World" "yearly" "[I"]
def wsX5_stopped_r3 : List Cond := [Cond.fieldLink RX1 11 "TwoMetals$Mover" "left" "[I", Cond.methodLink RX1 30 arraycopyName, Cond.fieldLink RX1 43 "TwoMetals$World" "age" "I", Cond.methodLink RX1 19 yX0_bringTo, Cond.instanceMethod yX0_bringTo, Cond.selects RX0 yX0_bringTo yX0_bringTo, Cond.initialized RX0, Cond.code yX0_bringTo cX0_bringTo 3 none, Cond.fieldLink RX0 33 "TwoMetals$World" "age" "I", Cond.methodLink RX0 39 Lib.Math.min.name, Cond.static Lib.Math.min.name, Cond.initialized "java/lang/Math", Cond.code Lib.Math.min.name Lib.Math.min.code 2 (some .int), Cond.methodLink RX0 45 Lib.Math.max.name, Cond.static Lib.Math.max.name, Cond.code Lib.Math.max.name Lib.Math.max.code 2 (some .int), Cond.fieldLink RX0 48 "TwoMetals$World" "marketGold" "J", Cond.fieldLink RX0 15 "TwoMetals$Mines" "gold" "[I", Cond.fieldLink RX0 52 "TwoMetals$World" "marketSilver" "J", Cond.constantLong RX0 55 (1000), Cond.fieldLink RX0 18 "TwoMetals$Mines" "silver" "[I", Cond.methodLink RX0 57 yX4_weigh, Cond.instanceMethod yX4_weigh, Cond.selects RX4 yX4_weigh yX4_weigh]
def wsX5_stopped_r4 : List Cond := [Cond.code yX4_weigh cX4_weigh 1 none, Cond.constant RX4 60 (1000000), Cond.constantLong RX4 73 (1000), Cond.constantLong RX4 81 (1000000), Cond.methodLink RX4 83 Lib.MathLoose.min_long.x, Cond.static Lib.MathLoose.min_long.x, Cond.code Lib.MathLoose.min_long.x Lib.MathLoose.min_long.code 4 (some .long), Cond.methodLink RX1 36 yX1_goRound, Cond.instanceMethod yX1_goRound, Cond.selects RX1 yX1_goRound yX1_goRound, Cond.code yX1_goRound cX1_goRound 5 (some .int), Cond.methodLink RX1 68 yX4_heading, Cond.instanceMethod yX4_heading, Cond.selects RX4 yX4_heading yX4_heading, Cond.code yX4_heading cX4_heading 3 (some .int), Cond.methodLink RX4 87 yX4_mints, Cond.methodLink RX4 91 yX4_limps, Cond.instanceMethod yX4_limps, Cond.selects RX4 yX4_limps yX4_limps, Cond.code yX4_limps cX4_limps 2 (some .boolean), Cond.methodLink RX4 94 yX4_hasGold, Cond.instanceMethod yX4_hasGold, Cond.selects RX4 yX4_hasGold yX4_hasGold, Cond.code yX4_hasGold cX4_hasGold 2 (some .boolean)]
def wsX5_stopped_r5 : List Cond := [Cond.methodLink RX4 97 yX4_hasSilver, Cond.instanceMethod yX4_hasSilver, Cond.selects RX4 yX4_hasSilver yX4_hasSilver, Cond.code yX4_hasSilver cX4_hasSilver 2 (some .boolean), Cond.methodLink RX1 71 yX4_carry, Cond.instanceMethod yX4_carry, Cond.selects RX4 yX4_carry yX4_carry, Cond.code yX4_carry cX4_carry 4 none, Cond.methodLink RX4 100 yX4_weigh, Cond.methodLink RX1 40 yX4_stopThoseThatRanLow, Cond.instanceMethod yX4_stopThoseThatRanLow, Cond.selects RX4 yX4_stopThoseThatRanLow yX4_stopThoseThatRanLow, Cond.code yX4_stopThoseThatRanLow cX4_stopThoseThatRanLow 2 none]
def wsX5_stopped : List Cond := .code yX5_stopped cX5_stopped 4 (some .int) :: ((wsX5_stopped_r1 ++ (wsX5_stopped_r2 ++ (wsX5_stopped_r3 ++ (wsX5_stopped_r4 ++ wsX5_stopped_r5)))) ++ wsX50 ++ wsX40 ++ wsX10 ++ wsX00)
def wsX5_free_r1 : List Cond := [Cond.fieldLink RX5 44 "TwoMetals" "trial" "LTwoMetals$World;", Cond.fieldLink RX5 40 "TwoMetals" "now" "LTwoMetals$World;", Cond.fieldLink RX5 26 "TwoMetals" "mover" "LTwoMetals$Mover;", Cond.fieldLink RX5 33 "TwoMetals" "mines" "LTwoMetals$Mines;", Cond.methodLink RX5 158 yX5_isSpanOfYears, Cond.static yX5_isSpanOfYears, Cond.initialized RX5, Cond.code yX5_isSpanOfYears cX5_isSpanOfYears 1 (some .boolean), Cond.methodLink RX5 73 yX4_copyFrom, Cond.instanceMethod yX4_copyFrom, Cond.selects RX4 yX4_copyFrom yX4_copyFrom, Cond.initialized RX4, Cond.code yX4_copyFrom cX4_copyFrom 2 none, Cond.fieldLink RX4 9 "TwoMetals$World" "law" "[I", Cond.methodLink RX4 67 arraycopyName, Cond.native arraycopyName, Cond.static arraycopyName, Cond.initialized "java/lang/System", Cond.fieldLink RX4 15 "TwoMetals$World" "cut" "[I", Cond.fieldLink RX4 18 "TwoMetals$World" "way" "[I", Cond.fieldLink RX4 21 "TwoMetals$World" "yearly" "[I", Cond.fieldLink RX4 24 "TwoMetals$World" "stopAt" "[I", Cond.fieldLink RX4 27 "TwoMetals$World" "low" "[I", Cond.fieldLink RX4 30 "TwoMetals$World" "high" "[I"]
def wsX5_free_r2 : List Cond := [Cond.fieldLink RX4 33 "TwoMetals$World" "gold" "[J", Cond.fieldLink RX4 37 "TwoMetals$World" "silver" "[J", Cond.fieldLink RX4 40 "TwoMetals$World" "told" "I", Cond.fieldLink RX4 44 "TwoMetals$World" "minting" "I", Cond.fieldLink RX4 47 "TwoMetals$World" "limping" "I", Cond.fieldLink RX4 50 "TwoMetals$World" "marketGold" "J", Cond.fieldLink RX4 54 "TwoMetals$World" "marketSilver" "J", Cond.fieldLink RX4 57 "TwoMetals$World" "scarcity" "I", Cond.fieldLink RX4 61 "TwoMetals$World" "price" "I", Cond.fieldLink RX4 64 "TwoMetals$World" "age" "I", Cond.methodLink RX5 150 yX1_passYear, Cond.instanceMethod yX1_passYear, Cond.selects RX1 yX1_passYear yX1_passYear, Cond.initialized RX1, Cond.code yX1_passYear cX1_passYear 6 (some .int), Cond.fieldLink RX1 25 "TwoMetals$World" "yearly" "[I", Cond.fieldLink RX1 11 "TwoMetals$Mover" "left" "[I", Cond.methodLink RX1 30 arraycopyName, Cond.fieldLink RX1 43 "TwoMetals$World" "age" "I", Cond.methodLink RX1 19 yX0_bringTo, Cond.instanceMethod yX0_bringTo, Cond.selects RX0 yX0_bringTo yX0_bringTo, Cond.initialized RX0, Cond.code yX0_bringTo cX0_bringTo 3 none]
def wsX5_free_r3 : List Cond := [Cond.fieldLink RX0 33 "TwoMetals$World" "age" "I", Cond.methodLink RX0 39 Lib.Math.min.name, Cond.static Lib.Math.min.name, Cond.initialized "java/lang/Math", Cond.code Lib.Math.min.name Lib.Math.min.code 2 (some .int), Cond.methodLink RX0 45 Lib.Math.max.name, Cond.static Lib.Math.max.name, Cond.code Lib.Math.max.name Lib.Math.max.code 2 (some .int), Cond.fieldLink RX0 48 "TwoMetals$World" "marketGold" "J", Cond.fieldLink RX0 15 "TwoMetals$Mines" "gold" "[I", Cond.fieldLink RX0 52 "TwoMetals$World" "marketSilver" "J", Cond.constantLong RX0 55 (1000), Cond.fieldLink RX0 18 "TwoMetals$Mines" "silver" "[I", Cond.methodLink RX0 57 yX4_weigh, Cond.instanceMethod yX4_weigh, Cond.selects RX4 yX4_weigh yX4_weigh, Cond.code yX4_weigh cX4_weigh 1 none, Cond.constant RX4 60 (1000000), Cond.constantLong RX4 73 (1000), Cond.constantLong RX4 81 (1000000), Cond.methodLink RX4 83 Lib.MathLoose.min_long.x, Cond.static Lib.MathLoose.min_long.x, Cond.code Lib.MathLoose.min_long.x Lib.MathLoose.min_long.code 4 (some .long), Cond.methodLink RX1 36 yX1_goRound]
def wsX5_free_r4 : List Cond := [Cond.instanceMethod yX1_goRound, Cond.selects RX1 yX1_goRound yX1_goRound, Cond.code yX1_goRound cX1_goRound 5 (some .int), Cond.methodLink RX1 68 yX4_heading, Cond.instanceMethod yX4_heading, Cond.selects RX4 yX4_heading yX4_heading, Cond.code yX4_heading cX4_heading 3 (some .int), Cond.methodLink RX4 87 yX4_mints, Cond.instanceMethod yX4_mints, Cond.selects RX4 yX4_mints yX4_mints, Cond.code yX4_mints cX4_mints 2 (some .boolean), Cond.methodLink RX4 91 yX4_limps, Cond.instanceMethod yX4_limps, Cond.selects RX4 yX4_limps yX4_limps, Cond.code yX4_limps cX4_limps 2 (some .boolean), Cond.methodLink RX4 94 yX4_hasGold, Cond.instanceMethod yX4_hasGold, Cond.selects RX4 yX4_hasGold yX4_hasGold, Cond.code yX4_hasGold cX4_hasGold 2 (some .boolean), Cond.methodLink RX4 97 yX4_hasSilver, Cond.instanceMethod yX4_hasSilver, Cond.selects RX4 yX4_hasSilver yX4_hasSilver, Cond.code yX4_hasSilver cX4_hasSilver 2 (some .boolean), Cond.methodLink RX1 71 yX4_carry]
def wsX5_free_r5 : List Cond := [Cond.instanceMethod yX4_carry, Cond.selects RX4 yX4_carry yX4_carry, Cond.code yX4_carry cX4_carry 4 none, Cond.methodLink RX4 100 yX4_weigh, Cond.methodLink RX1 40 yX4_stopThoseThatRanLow, Cond.instanceMethod yX4_stopThoseThatRanLow, Cond.selects RX4 yX4_stopThoseThatRanLow yX4_stopThoseThatRanLow, Cond.code yX4_stopThoseThatRanLow cX4_stopThoseThatRanLow 2 none, Cond.methodLink RX5 146 yX4_holders, Cond.instanceMethod yX4_holders, Cond.selects RX4 yX4_holders yX4_holders, Cond.code yX4_holders cX4_holders 4 (some .int)]
def wsX5_free : List Cond := .code yX5_free cX5_free 3 (some .int) :: ((wsX5_free_r1 ++ (wsX5_free_r2 ++ (wsX5_free_r3 ++ (wsX5_free_r4 ++ wsX5_free_r5)))) ++ wsX50 ++ wsX40 ++ wsX10 ++ wsX00)
def wsX5_ahead_r1 : List Cond := [Cond.fieldLink RX5 44 "TwoMetals" "trial" "LTwoMetals$World;", Cond.fieldLink RX5 40 "TwoMetals" "now" "LTwoMetals$World;", Cond.fieldLink RX5 26 "TwoMetals" "mover" "LTwoMetals$Mover;", Cond.fieldLink RX5 33 "TwoMetals" "mines" "LTwoMetals$Mines;", Cond.fieldLink RX5 128 "TwoMetals$World" "price" "I", Cond.methodLink RX5 158 yX5_isSpanOfYears, Cond.static yX5_isSpanOfYears, Cond.initialized RX5, Cond.code yX5_isSpanOfYears cX5_isSpanOfYears 1 (some .boolean), Cond.methodLink RX5 73 yX4_copyFrom, Cond.instanceMethod yX4_copyFrom, Cond.selects RX4 yX4_copyFrom yX4_copyFrom, Cond.initialized RX4, Cond.code yX4_copyFrom cX4_copyFrom 2 none, Cond.fieldLink RX4 9 "TwoMetals$World" "law" "[I", Cond.methodLink RX4 67 arraycopyName, Cond.native arraycopyName, Cond.static arraycopyName, Cond.initialized "java/lang/System", Cond.fieldLink RX4 15 "TwoMetals$World" "cut" "[I", Cond.fieldLink RX4 18 "TwoMetals$World" "way" "[I", Cond.fieldLink RX4 21 "TwoMetals$World" "yearly" "[I", Cond.fieldLink RX4 24 "TwoMetals$World" "stopAt" "[I", Cond.fieldLink RX4 27 "TwoMetals$World" "low" "[I"]
def wsX5_ahead_r2 : List Cond := [Cond.fieldLink RX4 30 "TwoMetals$World" "high" "[I", Cond.fieldLink RX4 33 "TwoMetals$World" "gold" "[J", Cond.fieldLink RX4 37 "TwoMetals$World" "silver" "[J", Cond.fieldLink RX4 40 "TwoMetals$World" "told" "I", Cond.fieldLink RX4 44 "TwoMetals$World" "minting" "I", Cond.fieldLink RX4 47 "TwoMetals$World" "limping" "I", Cond.fieldLink RX4 50 "TwoMetals$World" "marketGold" "J", Cond.fieldLink RX4 54 "TwoMetals$World" "marketSilver" "J", Cond.fieldLink RX4 57 "TwoMetals$World" "scarcity" "I", Cond.fieldLink RX4 61 "TwoMetals$World" "price" "I", Cond.fieldLink RX4 64 "TwoMetals$World" "age" "I", Cond.methodLink RX5 150 yX1_passYear, Cond.instanceMethod yX1_passYear, Cond.selects RX1 yX1_passYear yX1_passYear, Cond.initialized RX1, Cond.code yX1_passYear cX1_passYear 6 (some .int), Cond.fieldLink RX1 25 "TwoMetals$World" "yearly" "[I", Cond.fieldLink RX1 11 "TwoMetals$Mover" "left" "[I", Cond.methodLink RX1 30 arraycopyName, Cond.fieldLink RX1 43 "TwoMetals$World" "age" "I", Cond.methodLink RX1 19 yX0_bringTo, Cond.instanceMethod yX0_bringTo, Cond.selects RX0 yX0_bringTo yX0_bringTo, Cond.initialized RX0]
def wsX5_ahead_r3 : List Cond := [Cond.code yX0_bringTo cX0_bringTo 3 none, Cond.fieldLink RX0 33 "TwoMetals$World" "age" "I", Cond.methodLink RX0 39 Lib.Math.min.name, Cond.static Lib.Math.min.name, Cond.initialized "java/lang/Math", Cond.code Lib.Math.min.name Lib.Math.min.code 2 (some .int), Cond.methodLink RX0 45 Lib.Math.max.name, Cond.static Lib.Math.max.name, Cond.code Lib.Math.max.name Lib.Math.max.code 2 (some .int), Cond.fieldLink RX0 48 "TwoMetals$World" "marketGold" "J", Cond.fieldLink RX0 15 "TwoMetals$Mines" "gold" "[I", Cond.fieldLink RX0 52 "TwoMetals$World" "marketSilver" "J", Cond.constantLong RX0 55 (1000), Cond.fieldLink RX0 18 "TwoMetals$Mines" "silver" "[I", Cond.methodLink RX0 57 yX4_weigh, Cond.instanceMethod yX4_weigh, Cond.selects RX4 yX4_weigh yX4_weigh, Cond.code yX4_weigh cX4_weigh 1 none, Cond.constant RX4 60 (1000000), Cond.constantLong RX4 73 (1000), Cond.constantLong RX4 81 (1000000), Cond.methodLink RX4 83 Lib.MathLoose.min_long.x, Cond.static Lib.MathLoose.min_long.x, Cond.code Lib.MathLoose.min_long.x Lib.MathLoose.min_long.code 4 (some .long)]
def wsX5_ahead_r4 : List Cond := [Cond.methodLink RX1 36 yX1_goRound, Cond.instanceMethod yX1_goRound, Cond.selects RX1 yX1_goRound yX1_goRound, Cond.code yX1_goRound cX1_goRound 5 (some .int), Cond.methodLink RX1 68 yX4_heading, Cond.instanceMethod yX4_heading, Cond.selects RX4 yX4_heading yX4_heading, Cond.code yX4_heading cX4_heading 3 (some .int), Cond.methodLink RX4 87 yX4_mints, Cond.instanceMethod yX4_mints, Cond.selects RX4 yX4_mints yX4_mints, Cond.code yX4_mints cX4_mints 2 (some .boolean), Cond.methodLink RX4 91 yX4_limps, Cond.instanceMethod yX4_limps, Cond.selects RX4 yX4_limps yX4_limps, Cond.code yX4_limps cX4_limps 2 (some .boolean), Cond.methodLink RX4 94 yX4_hasGold, Cond.instanceMethod yX4_hasGold, Cond.selects RX4 yX4_hasGold yX4_hasGold, Cond.code yX4_hasGold cX4_hasGold 2 (some .boolean), Cond.methodLink RX4 97 yX4_hasSilver, Cond.instanceMethod yX4_hasSilver, Cond.selects RX4 yX4_hasSilver yX4_hasSilver, Cond.code yX4_hasSilver cX4_hasSilver 2 (some .boolean)]
def wsX5_ahead_r5 : List Cond := [Cond.methodLink RX1 71 yX4_carry, Cond.instanceMethod yX4_carry, Cond.selects RX4 yX4_carry yX4_carry, Cond.code yX4_carry cX4_carry 4 none, Cond.methodLink RX4 100 yX4_weigh, Cond.methodLink RX1 40 yX4_stopThoseThatRanLow, Cond.instanceMethod yX4_stopThoseThatRanLow, Cond.selects RX4 yX4_stopThoseThatRanLow yX4_stopThoseThatRanLow, Cond.code yX4_stopThoseThatRanLow cX4_stopThoseThatRanLow 2 none]
def wsX5_ahead : List Cond := .code yX5_ahead cX5_ahead 3 (some .int) :: ((wsX5_ahead_r1 ++ (wsX5_ahead_r2 ++ (wsX5_ahead_r3 ++ (wsX5_ahead_r4 ++ wsX5_ahead_r5)))) ++ wsX50 ++ wsX40 ++ wsX10 ++ wsX00)
def wsX5_debt : List Cond := .code yX5_debt cX5_debt 5 (some .int) :: ([.fieldLink RX5 40 "TwoMetals" "now" "LTwoMetals$World;", .constant RX5 167 (100000000), .fieldLink RX5 128 "TwoMetals$World" "price" "I", .fieldLink RX5 95 "TwoMetals$World" "law" "[I", .methodLink RX5 168 Lib.Math.max.name, .static Lib.Math.max.name, .initialized "java/lang/Math", .code Lib.Math.max.name Lib.Math.max.code 2 (some .int), .methodLink RX5 90 yX4_has, .instanceMethod yX4_has, .selects RX4 yX4_has yX4_has, .initialized RX4, .code yX4_has cX4_has 2 (some .boolean), .fieldLink RX4 40 "TwoMetals$World" "told" "I", .methodLink RX5 137 yX5_isZeroOrOne, .static yX5_isZeroOrOne, .initialized RX5, .code yX5_isZeroOrOne cX5_isZeroOrOne 1 (some .boolean), .methodLink RX5 115 yX4_mints, .instanceMethod yX4_mints, .selects RX4 yX4_mints yX4_mints, .code yX4_mints cX4_mints 2 (some .boolean), .fieldLink RX4 44 "TwoMetals$World" "minting" "I"] ++ wsX50 ++ wsX40)
def wsX5_isLaw : List Cond := .code yX5_isLaw cX5_isLaw 1 (some .boolean) :: ([.constant RX5 203 (99999)])
def wsX5_tryPact_r1 : List Cond := [Cond.fieldLink RX5 44 "TwoMetals" "trial" "LTwoMetals$World;", Cond.fieldLink RX5 40 "TwoMetals" "now" "LTwoMetals$World;", Cond.fieldLink RX5 26 "TwoMetals" "mover" "LTwoMetals$Mover;", Cond.methodLink RX5 73 yX4_copyFrom, Cond.instanceMethod yX4_copyFrom, Cond.selects RX4 yX4_copyFrom yX4_copyFrom, Cond.initialized RX4, Cond.code yX4_copyFrom cX4_copyFrom 2 none, Cond.fieldLink RX4 9 "TwoMetals$World" "law" "[I", Cond.methodLink RX4 67 arraycopyName, Cond.native arraycopyName, Cond.static arraycopyName, Cond.initialized "java/lang/System", Cond.fieldLink RX4 15 "TwoMetals$World" "cut" "[I", Cond.fieldLink RX4 18 "TwoMetals$World" "way" "[I", Cond.fieldLink RX4 21 "TwoMetals$World" "yearly" "[I", Cond.fieldLink RX4 24 "TwoMetals$World" "stopAt" "[I", Cond.fieldLink RX4 27 "TwoMetals$World" "low" "[I", Cond.fieldLink RX4 30 "TwoMetals$World" "high" "[I", Cond.fieldLink RX4 33 "TwoMetals$World" "gold" "[J", Cond.fieldLink RX4 37 "TwoMetals$World" "silver" "[J", Cond.fieldLink RX4 40 "TwoMetals$World" "told" "I", Cond.fieldLink RX4 44 "TwoMetals$World" "minting" "I", Cond.fieldLink RX4 47 "TwoMetals$World" "limping" "I"]
def wsX5_tryPact_r2 : List Cond := [Cond.fieldLink RX4 50 "TwoMetals$World" "marketGold" "J", Cond.fieldLink RX4 54 "TwoMetals$World" "marketSilver" "J", Cond.fieldLink RX4 57 "TwoMetals$World" "scarcity" "I", Cond.fieldLink RX4 61 "TwoMetals$World" "price" "I", Cond.fieldLink RX4 64 "TwoMetals$World" "age" "I", Cond.methodLink RX5 192 yX4_setLaw, Cond.instanceMethod yX4_setLaw, Cond.selects RX4 yX4_setLaw yX4_setLaw, Cond.code yX4_setLaw cX4_setLaw 8 none, Cond.constantLong RX4 73 (1000), Cond.methodLink RX4 75 Lib.Math.max.name, Cond.static Lib.Math.max.name, Cond.initialized "java/lang/Math", Cond.code Lib.Math.max.name Lib.Math.max.code 2 (some .int), Cond.constantLong RX4 81 (1000000), Cond.methodLink RX4 83 Lib.MathLoose.min_long.x, Cond.static Lib.MathLoose.min_long.x, Cond.code Lib.MathLoose.min_long.x Lib.MathLoose.min_long.code 4 (some .long), Cond.methodLink RX5 154 yX1_settle, Cond.instanceMethod yX1_settle, Cond.selects RX1 yX1_settle yX1_settle, Cond.initialized RX1, Cond.code yX1_settle cX1_settle 5 (some .int), Cond.fieldLink RX1 11 "TwoMetals$Mover" "left" "[I"]
def wsX5_tryPact_r3 : List Cond := [Cond.constant RX1 47 (200001), Cond.constant RX1 57 (200000), Cond.methodLink RX1 48 yJ7_fill_53178, Cond.static yJ7_fill_53178, Cond.initialized RJ7, Cond.code yJ7_fill_53178 cJ7_fill_53178 4 none, Cond.methodLink RX1 54 yX1_mark, Cond.instanceMethod yX1_mark, Cond.selects RX1 yX1_mark yX1_mark, Cond.code yX1_mark cX1_mark 2 none, Cond.fieldLink RX1 75 "TwoMetals$World" "gold" "[J", Cond.fieldLink RX1 15 "TwoMetals$Mover" "marked" "[J", Cond.methodLink RX1 30 arraycopyName, Cond.methodLink RX1 36 yX1_goRound, Cond.instanceMethod yX1_goRound, Cond.selects RX1 yX1_goRound yX1_goRound, Cond.code yX1_goRound cX1_goRound 5 (some .int), Cond.methodLink RX1 68 yX4_heading, Cond.instanceMethod yX4_heading, Cond.selects RX4 yX4_heading yX4_heading, Cond.code yX4_heading cX4_heading 3 (some .int), Cond.methodLink RX4 87 yX4_mints, Cond.instanceMethod yX4_mints, Cond.selects RX4 yX4_mints yX4_mints]
def wsX5_tryPact_r4 : List Cond := [Cond.code yX4_mints cX4_mints 2 (some .boolean), Cond.methodLink RX4 91 yX4_limps, Cond.instanceMethod yX4_limps, Cond.selects RX4 yX4_limps yX4_limps, Cond.code yX4_limps cX4_limps 2 (some .boolean), Cond.methodLink RX4 94 yX4_hasGold, Cond.instanceMethod yX4_hasGold, Cond.selects RX4 yX4_hasGold yX4_hasGold, Cond.code yX4_hasGold cX4_hasGold 2 (some .boolean), Cond.methodLink RX4 97 yX4_hasSilver, Cond.instanceMethod yX4_hasSilver, Cond.selects RX4 yX4_hasSilver yX4_hasSilver, Cond.code yX4_hasSilver cX4_hasSilver 2 (some .boolean), Cond.methodLink RX1 71 yX4_carry, Cond.instanceMethod yX4_carry, Cond.selects RX4 yX4_carry yX4_carry, Cond.code yX4_carry cX4_carry 4 none, Cond.methodLink RX4 100 yX4_weigh, Cond.instanceMethod yX4_weigh, Cond.selects RX4 yX4_weigh yX4_weigh, Cond.code yX4_weigh cX4_weigh 1 none, Cond.constant RX4 60 (1000000), Cond.methodLink RX1 58 yX1_isMarked, Cond.instanceMethod yX1_isMarked]
def wsX5_tryPact_r5 : List Cond := [Cond.selects RX1 yX1_isMarked yX1_isMarked, Cond.code yX1_isMarked cX1_isMarked 3 (some .boolean), Cond.methodLink RX1 62 yJ6_bitCount_0f7a4, Cond.static yJ6_bitCount_0f7a4, Cond.initialized RJ6, Cond.code yJ6_bitCount_0f7a4 cJ6_bitCount_0f7a4 1 (some .int), Cond.constant RJ6 265 (1431655765), Cond.constant RJ6 266 (858993459), Cond.constant RJ6 267 (252645135)]
def wsX5_tryPact : List Cond := .code yX5_tryPact cX5_tryPact 4 (some .int) :: ((wsX5_tryPact_r1 ++ (wsX5_tryPact_r2 ++ (wsX5_tryPact_r3 ++ (wsX5_tryPact_r4 ++ wsX5_tryPact_r5)))) ++ wsX50 ++ wsX40 ++ wsX10)
def wsX5_allHold_r1 : List Cond := [Cond.fieldLink RX5 44 "TwoMetals" "trial" "LTwoMetals$World;", Cond.methodLink RX5 146 yX4_holders, Cond.instanceMethod yX4_holders, Cond.selects RX4 yX4_holders yX4_holders, Cond.initialized RX4, Cond.code yX4_holders cX4_holders 4 (some .int), Cond.fieldLink RX4 61 "TwoMetals$World" "price" "I", Cond.fieldLink RX4 27 "TwoMetals$World" "low" "[I", Cond.fieldLink RX4 30 "TwoMetals$World" "high" "[I", Cond.methodLink RX4 87 yX4_mints, Cond.instanceMethod yX4_mints, Cond.selects RX4 yX4_mints yX4_mints, Cond.code yX4_mints cX4_mints 2 (some .boolean), Cond.fieldLink RX4 44 "TwoMetals$World" "minting" "I", Cond.methodLink RX4 94 yX4_hasGold, Cond.instanceMethod yX4_hasGold, Cond.selects RX4 yX4_hasGold yX4_hasGold, Cond.code yX4_hasGold cX4_hasGold 2 (some .boolean), Cond.fieldLink RX4 33 "TwoMetals$World" "gold" "[J", Cond.methodLink RX4 97 yX4_hasSilver, Cond.instanceMethod yX4_hasSilver, Cond.selects RX4 yX4_hasSilver yX4_hasSilver, Cond.code yX4_hasSilver cX4_hasSilver 2 (some .boolean), Cond.fieldLink RX4 37 "TwoMetals$World" "silver" "[J"]
def wsX5_allHold_r2 : List Cond := [Cond.fieldLink RX4 9 "TwoMetals$World" "law" "[I"]
def wsX5_allHold : List Cond := .code yX5_allHold cX5_allHold 2 (some .boolean) :: ((wsX5_allHold_r1 ++ wsX5_allHold_r2) ++ wsX50 ++ wsX40)
def wsX5_pact_r1 : List Cond := [Cond.fieldLink RX5 40 "TwoMetals" "now" "LTwoMetals$World;", Cond.fieldLink RX5 174 "TwoMetals$World" "minting" "I", Cond.fieldLink RX5 44 "TwoMetals" "trial" "LTwoMetals$World;", Cond.fieldLink RX5 128 "TwoMetals$World" "price" "I", Cond.methodLink RX5 177 yX5_isLaw, Cond.static yX5_isLaw, Cond.initialized RX5, Cond.code yX5_isLaw cX5_isLaw 1 (some .boolean), Cond.constant RX5 203 (99999), Cond.methodLink RX5 137 yX5_isZeroOrOne, Cond.static yX5_isZeroOrOne, Cond.code yX5_isZeroOrOne cX5_isZeroOrOne 1 (some .boolean), Cond.methodLink RX5 180 yX5_tryPact, Cond.instanceMethod yX5_tryPact, Cond.selects RX5 yX5_tryPact yX5_tryPact, Cond.code yX5_tryPact cX5_tryPact 4 (some .int), Cond.fieldLink RX5 26 "TwoMetals" "mover" "LTwoMetals$Mover;", Cond.methodLink RX5 73 yX4_copyFrom, Cond.instanceMethod yX4_copyFrom, Cond.selects RX4 yX4_copyFrom yX4_copyFrom, Cond.initialized RX4, Cond.code yX4_copyFrom cX4_copyFrom 2 none, Cond.fieldLink RX4 9 "TwoMetals$World" "law" "[I", Cond.methodLink RX4 67 arraycopyName]
def wsX5_pact_r2 : List Cond := [Cond.native arraycopyName, Cond.static arraycopyName, Cond.initialized "java/lang/System", Cond.fieldLink RX4 15 "TwoMetals$World" "cut" "[I", Cond.fieldLink RX4 18 "TwoMetals$World" "way" "[I", Cond.fieldLink RX4 21 "TwoMetals$World" "yearly" "[I", Cond.fieldLink RX4 24 "TwoMetals$World" "stopAt" "[I", Cond.fieldLink RX4 27 "TwoMetals$World" "low" "[I", Cond.fieldLink RX4 30 "TwoMetals$World" "high" "[I", Cond.fieldLink RX4 33 "TwoMetals$World" "gold" "[J", Cond.fieldLink RX4 37 "TwoMetals$World" "silver" "[J", Cond.fieldLink RX4 40 "TwoMetals$World" "told" "I", Cond.fieldLink RX4 44 "TwoMetals$World" "minting" "I", Cond.fieldLink RX4 47 "TwoMetals$World" "limping" "I", Cond.fieldLink RX4 50 "TwoMetals$World" "marketGold" "J", Cond.fieldLink RX4 54 "TwoMetals$World" "marketSilver" "J", Cond.fieldLink RX4 57 "TwoMetals$World" "scarcity" "I", Cond.fieldLink RX4 61 "TwoMetals$World" "price" "I", Cond.fieldLink RX4 64 "TwoMetals$World" "age" "I", Cond.methodLink RX5 192 yX4_setLaw, Cond.instanceMethod yX4_setLaw, Cond.selects RX4 yX4_setLaw yX4_setLaw, Cond.code yX4_setLaw cX4_setLaw 8 none, Cond.constantLong RX4 73 (1000)]
def wsX5_pact_r3 : List Cond := [Cond.methodLink RX4 75 Lib.Math.max.name, Cond.static Lib.Math.max.name, Cond.initialized "java/lang/Math", Cond.code Lib.Math.max.name Lib.Math.max.code 2 (some .int), Cond.constantLong RX4 81 (1000000), Cond.methodLink RX4 83 Lib.MathLoose.min_long.x, Cond.static Lib.MathLoose.min_long.x, Cond.code Lib.MathLoose.min_long.x Lib.MathLoose.min_long.code 4 (some .long), Cond.methodLink RX5 154 yX1_settle, Cond.instanceMethod yX1_settle, Cond.selects RX1 yX1_settle yX1_settle, Cond.initialized RX1, Cond.code yX1_settle cX1_settle 5 (some .int), Cond.fieldLink RX1 11 "TwoMetals$Mover" "left" "[I", Cond.constant RX1 47 (200001), Cond.constant RX1 57 (200000), Cond.methodLink RX1 48 yJ7_fill_53178, Cond.static yJ7_fill_53178, Cond.initialized RJ7, Cond.code yJ7_fill_53178 cJ7_fill_53178 4 none, Cond.methodLink RX1 54 yX1_mark, Cond.instanceMethod yX1_mark, Cond.selects RX1 yX1_mark yX1_mark, Cond.code yX1_mark cX1_mark 2 none]
def wsX5_pact_r4 : List Cond := [Cond.fieldLink RX1 75 "TwoMetals$World" "gold" "[J", Cond.fieldLink RX1 15 "TwoMetals$Mover" "marked" "[J", Cond.methodLink RX1 30 arraycopyName, Cond.methodLink RX1 36 yX1_goRound, Cond.instanceMethod yX1_goRound, Cond.selects RX1 yX1_goRound yX1_goRound, Cond.code yX1_goRound cX1_goRound 5 (some .int), Cond.methodLink RX1 68 yX4_heading, Cond.instanceMethod yX4_heading, Cond.selects RX4 yX4_heading yX4_heading, Cond.code yX4_heading cX4_heading 3 (some .int), Cond.methodLink RX4 87 yX4_mints, Cond.instanceMethod yX4_mints, Cond.selects RX4 yX4_mints yX4_mints, Cond.code yX4_mints cX4_mints 2 (some .boolean), Cond.methodLink RX4 91 yX4_limps, Cond.instanceMethod yX4_limps, Cond.selects RX4 yX4_limps yX4_limps, Cond.code yX4_limps cX4_limps 2 (some .boolean), Cond.methodLink RX4 94 yX4_hasGold, Cond.instanceMethod yX4_hasGold, Cond.selects RX4 yX4_hasGold yX4_hasGold, Cond.code yX4_hasGold cX4_hasGold 2 (some .boolean), Cond.methodLink RX4 97 yX4_hasSilver]
def wsX5_pact_r5 : List Cond := [Cond.instanceMethod yX4_hasSilver, Cond.selects RX4 yX4_hasSilver yX4_hasSilver, Cond.code yX4_hasSilver cX4_hasSilver 2 (some .boolean), Cond.methodLink RX1 71 yX4_carry, Cond.instanceMethod yX4_carry, Cond.selects RX4 yX4_carry yX4_carry, Cond.code yX4_carry cX4_carry 4 none, Cond.methodLink RX4 100 yX4_weigh, Cond.instanceMethod yX4_weigh, Cond.selects RX4 yX4_weigh yX4_weigh, Cond.code yX4_weigh cX4_weigh 1 none, Cond.constant RX4 60 (1000000), Cond.methodLink RX1 58 yX1_isMarked, Cond.instanceMethod yX1_isMarked, Cond.selects RX1 yX1_isMarked yX1_isMarked, Cond.code yX1_isMarked cX1_isMarked 3 (some .boolean), Cond.methodLink RX1 62 yJ6_bitCount_0f7a4, Cond.static yJ6_bitCount_0f7a4, Cond.initialized RJ6, Cond.code yJ6_bitCount_0f7a4 cJ6_bitCount_0f7a4 1 (some .int), Cond.constant RJ6 265 (1431655765), Cond.constant RJ6 266 (858993459), Cond.constant RJ6 267 (252645135), Cond.methodLink RX5 183 yX5_allHold]
def wsX5_pact_r6 : List Cond := [Cond.instanceMethod yX5_allHold, Cond.selects RX5 yX5_allHold yX5_allHold, Cond.code yX5_allHold cX5_allHold 2 (some .boolean), Cond.methodLink RX5 146 yX4_holders, Cond.instanceMethod yX4_holders, Cond.selects RX4 yX4_holders yX4_holders, Cond.code yX4_holders cX4_holders 4 (some .int)]
def wsX5_pact : List Cond := .code yX5_pact cX5_pact 5 (some .int) :: ((wsX5_pact_r1 ++ (wsX5_pact_r2 ++ (wsX5_pact_r3 ++ (wsX5_pact_r4 ++ (wsX5_pact_r5 ++ wsX5_pact_r6))))) ++ wsX50 ++ wsX40 ++ wsX10)
def wsX5_fewest_r1 : List Cond := [Cond.fieldLink RX5 40 "TwoMetals" "now" "LTwoMetals$World;", Cond.fieldLink RX5 174 "TwoMetals$World" "minting" "I", Cond.methodLink RX5 177 yX5_isLaw, Cond.static yX5_isLaw, Cond.initialized RX5, Cond.code yX5_isLaw cX5_isLaw 1 (some .boolean), Cond.constant RX5 203 (99999), Cond.methodLink RX5 84 yJ6_bitCount_0f7a4, Cond.static yJ6_bitCount_0f7a4, Cond.initialized RJ6, Cond.code yJ6_bitCount_0f7a4 cJ6_bitCount_0f7a4 1 (some .int), Cond.constant RJ6 265 (1431655765), Cond.constant RJ6 266 (858993459), Cond.constant RJ6 267 (252645135), Cond.methodLink RX5 180 yX5_tryPact, Cond.instanceMethod yX5_tryPact, Cond.selects RX5 yX5_tryPact yX5_tryPact, Cond.code yX5_tryPact cX5_tryPact 4 (some .int), Cond.fieldLink RX5 44 "TwoMetals" "trial" "LTwoMetals$World;", Cond.fieldLink RX5 26 "TwoMetals" "mover" "LTwoMetals$Mover;", Cond.methodLink RX5 73 yX4_copyFrom, Cond.instanceMethod yX4_copyFrom, Cond.selects RX4 yX4_copyFrom yX4_copyFrom, Cond.initialized RX4]
def wsX5_fewest_r2 : List Cond := [Cond.code yX4_copyFrom cX4_copyFrom 2 none, Cond.fieldLink RX4 9 "TwoMetals$World" "law" "[I", Cond.methodLink RX4 67 arraycopyName, Cond.native arraycopyName, Cond.static arraycopyName, Cond.initialized "java/lang/System", Cond.fieldLink RX4 15 "TwoMetals$World" "cut" "[I", Cond.fieldLink RX4 18 "TwoMetals$World" "way" "[I", Cond.fieldLink RX4 21 "TwoMetals$World" "yearly" "[I", Cond.fieldLink RX4 24 "TwoMetals$World" "stopAt" "[I", Cond.fieldLink RX4 27 "TwoMetals$World" "low" "[I", Cond.fieldLink RX4 30 "TwoMetals$World" "high" "[I", Cond.fieldLink RX4 33 "TwoMetals$World" "gold" "[J", Cond.fieldLink RX4 37 "TwoMetals$World" "silver" "[J", Cond.fieldLink RX4 40 "TwoMetals$World" "told" "I", Cond.fieldLink RX4 44 "TwoMetals$World" "minting" "I", Cond.fieldLink RX4 47 "TwoMetals$World" "limping" "I", Cond.fieldLink RX4 50 "TwoMetals$World" "marketGold" "J", Cond.fieldLink RX4 54 "TwoMetals$World" "marketSilver" "J", Cond.fieldLink RX4 57 "TwoMetals$World" "scarcity" "I", Cond.fieldLink RX4 61 "TwoMetals$World" "price" "I", Cond.fieldLink RX4 64 "TwoMetals$World" "age" "I", Cond.methodLink RX5 192 yX4_setLaw, Cond.instanceMethod yX4_setLaw]
def wsX5_fewest_r3 : List Cond := [Cond.selects RX4 yX4_setLaw yX4_setLaw, Cond.code yX4_setLaw cX4_setLaw 8 none, Cond.constantLong RX4 73 (1000), Cond.methodLink RX4 75 Lib.Math.max.name, Cond.static Lib.Math.max.name, Cond.initialized "java/lang/Math", Cond.code Lib.Math.max.name Lib.Math.max.code 2 (some .int), Cond.constantLong RX4 81 (1000000), Cond.methodLink RX4 83 Lib.MathLoose.min_long.x, Cond.static Lib.MathLoose.min_long.x, Cond.code Lib.MathLoose.min_long.x Lib.MathLoose.min_long.code 4 (some .long), Cond.methodLink RX5 154 yX1_settle, Cond.instanceMethod yX1_settle, Cond.selects RX1 yX1_settle yX1_settle, Cond.initialized RX1, Cond.code yX1_settle cX1_settle 5 (some .int), Cond.fieldLink RX1 11 "TwoMetals$Mover" "left" "[I", Cond.constant RX1 47 (200001), Cond.constant RX1 57 (200000), Cond.methodLink RX1 48 yJ7_fill_53178, Cond.static yJ7_fill_53178, Cond.initialized RJ7, Cond.code yJ7_fill_53178 cJ7_fill_53178 4 none, Cond.methodLink RX1 54 yX1_mark]
def wsX5_fewest_r4 : List Cond := [Cond.instanceMethod yX1_mark, Cond.selects RX1 yX1_mark yX1_mark, Cond.code yX1_mark cX1_mark 2 none, Cond.fieldLink RX1 75 "TwoMetals$World" "gold" "[J", Cond.fieldLink RX1 15 "TwoMetals$Mover" "marked" "[J", Cond.methodLink RX1 30 arraycopyName, Cond.methodLink RX1 36 yX1_goRound, Cond.instanceMethod yX1_goRound, Cond.selects RX1 yX1_goRound yX1_goRound, Cond.code yX1_goRound cX1_goRound 5 (some .int), Cond.methodLink RX1 68 yX4_heading, Cond.instanceMethod yX4_heading, Cond.selects RX4 yX4_heading yX4_heading, Cond.code yX4_heading cX4_heading 3 (some .int), Cond.methodLink RX4 87 yX4_mints, Cond.instanceMethod yX4_mints, Cond.selects RX4 yX4_mints yX4_mints, Cond.code yX4_mints cX4_mints 2 (some .boolean), Cond.methodLink RX4 91 yX4_limps, Cond.instanceMethod yX4_limps, Cond.selects RX4 yX4_limps yX4_limps, Cond.code yX4_limps cX4_limps 2 (some .boolean), Cond.methodLink RX4 94 yX4_hasGold, Cond.instanceMethod yX4_hasGold]
def wsX5_fewest_r5 : List Cond := [Cond.selects RX4 yX4_hasGold yX4_hasGold, Cond.code yX4_hasGold cX4_hasGold 2 (some .boolean), Cond.methodLink RX4 97 yX4_hasSilver, Cond.instanceMethod yX4_hasSilver, Cond.selects RX4 yX4_hasSilver yX4_hasSilver, Cond.code yX4_hasSilver cX4_hasSilver 2 (some .boolean), Cond.methodLink RX1 71 yX4_carry, Cond.instanceMethod yX4_carry, Cond.selects RX4 yX4_carry yX4_carry, Cond.code yX4_carry cX4_carry 4 none, Cond.methodLink RX4 100 yX4_weigh, Cond.instanceMethod yX4_weigh, Cond.selects RX4 yX4_weigh yX4_weigh, Cond.code yX4_weigh cX4_weigh 1 none, Cond.constant RX4 60 (1000000), Cond.methodLink RX1 58 yX1_isMarked, Cond.instanceMethod yX1_isMarked, Cond.selects RX1 yX1_isMarked yX1_isMarked, Cond.code yX1_isMarked cX1_isMarked 3 (some .boolean), Cond.methodLink RX1 62 yJ6_bitCount_0f7a4, Cond.methodLink RX5 183 yX5_allHold, Cond.instanceMethod yX5_allHold, Cond.selects RX5 yX5_allHold yX5_allHold, Cond.code yX5_allHold cX5_allHold 2 (some .boolean)]
def wsX5_fewest_r6 : List Cond := [Cond.methodLink RX5 146 yX4_holders, Cond.instanceMethod yX4_holders, Cond.selects RX4 yX4_holders yX4_holders, Cond.code yX4_holders cX4_holders 4 (some .int)]
def wsX5_fewest : List Cond := .code yX5_fewest cX5_fewest 5 (some .int) :: ((wsX5_fewest_r1 ++ (wsX5_fewest_r2 ++ (wsX5_fewest_r3 ++ (wsX5_fewest_r4 ++ (wsX5_fewest_r5 ++ wsX5_fewest_r6))))) ++ wsX50 ++ wsX40 ++ wsX10)
def wsX5_tryPurchase_r1 : List Cond := [Cond.fieldLink RX5 44 "TwoMetals" "trial" "LTwoMetals$World;", Cond.fieldLink RX5 40 "TwoMetals" "now" "LTwoMetals$World;", Cond.fieldLink RX5 121 "TwoMetals$World" "marketGold" "J", Cond.fieldLink RX5 26 "TwoMetals" "mover" "LTwoMetals$Mover;", Cond.methodLink RX5 73 yX4_copyFrom, Cond.instanceMethod yX4_copyFrom, Cond.selects RX4 yX4_copyFrom yX4_copyFrom, Cond.initialized RX4, Cond.code yX4_copyFrom cX4_copyFrom 2 none, Cond.fieldLink RX4 9 "TwoMetals$World" "law" "[I", Cond.methodLink RX4 67 arraycopyName, Cond.native arraycopyName, Cond.static arraycopyName, Cond.initialized "java/lang/System", Cond.fieldLink RX4 15 "TwoMetals$World" "cut" "[I", Cond.fieldLink RX4 18 "TwoMetals$World" "way" "[I", Cond.fieldLink RX4 21 "TwoMetals$World" "yearly" "[I", Cond.fieldLink RX4 24 "TwoMetals$World" "stopAt" "[I", Cond.fieldLink RX4 27 "TwoMetals$World" "low" "[I", Cond.fieldLink RX4 30 "TwoMetals$World" "high" "[I", Cond.fieldLink RX4 33 "TwoMetals$World" "gold" "[J", Cond.fieldLink RX4 37 "TwoMetals$World" "silver" "[J", Cond.fieldLink RX4 40 "TwoMetals$World" "told" "I", Cond.fieldLink RX4 44 "TwoMetals$World" "minting" "I"]
def wsX5_tryPurchase_r2 : List Cond := [Cond.fieldLink RX4 47 "TwoMetals$World" "limping" "I", Cond.fieldLink RX4 50 "TwoMetals$World" "marketGold" "J", Cond.fieldLink RX4 54 "TwoMetals$World" "marketSilver" "J", Cond.fieldLink RX4 57 "TwoMetals$World" "scarcity" "I", Cond.fieldLink RX4 61 "TwoMetals$World" "price" "I", Cond.fieldLink RX4 64 "TwoMetals$World" "age" "I", Cond.methodLink RX5 200 yX4_weigh, Cond.instanceMethod yX4_weigh, Cond.selects RX4 yX4_weigh yX4_weigh, Cond.code yX4_weigh cX4_weigh 1 none, Cond.constant RX4 60 (1000000), Cond.constantLong RX4 73 (1000), Cond.constantLong RX4 81 (1000000), Cond.methodLink RX4 83 Lib.MathLoose.min_long.x, Cond.static Lib.MathLoose.min_long.x, Cond.initialized "java/lang/Math", Cond.code Lib.MathLoose.min_long.x Lib.MathLoose.min_long.code 4 (some .long), Cond.methodLink RX5 154 yX1_settle, Cond.instanceMethod yX1_settle, Cond.selects RX1 yX1_settle yX1_settle, Cond.initialized RX1, Cond.code yX1_settle cX1_settle 5 (some .int), Cond.fieldLink RX1 11 "TwoMetals$Mover" "left" "[I", Cond.constant RX1 47 (200001)]
def wsX5_tryPurchase_r3 : List Cond := [Cond.constant RX1 57 (200000), Cond.methodLink RX1 48 yJ7_fill_53178, Cond.static yJ7_fill_53178, Cond.initialized RJ7, Cond.code yJ7_fill_53178 cJ7_fill_53178 4 none, Cond.methodLink RX1 54 yX1_mark, Cond.instanceMethod yX1_mark, Cond.selects RX1 yX1_mark yX1_mark, Cond.code yX1_mark cX1_mark 2 none, Cond.fieldLink RX1 75 "TwoMetals$World" "gold" "[J", Cond.fieldLink RX1 15 "TwoMetals$Mover" "marked" "[J", Cond.methodLink RX1 30 arraycopyName, Cond.methodLink RX1 36 yX1_goRound, Cond.instanceMethod yX1_goRound, Cond.selects RX1 yX1_goRound yX1_goRound, Cond.code yX1_goRound cX1_goRound 5 (some .int), Cond.methodLink RX1 68 yX4_heading, Cond.instanceMethod yX4_heading, Cond.selects RX4 yX4_heading yX4_heading, Cond.code yX4_heading cX4_heading 3 (some .int), Cond.methodLink RX4 87 yX4_mints, Cond.instanceMethod yX4_mints, Cond.selects RX4 yX4_mints yX4_mints, Cond.code yX4_mints cX4_mints 2 (some .boolean)]
def wsX5_tryPurchase_r4 : List Cond := [Cond.methodLink RX4 91 yX4_limps, Cond.instanceMethod yX4_limps, Cond.selects RX4 yX4_limps yX4_limps, Cond.code yX4_limps cX4_limps 2 (some .boolean), Cond.methodLink RX4 94 yX4_hasGold, Cond.instanceMethod yX4_hasGold, Cond.selects RX4 yX4_hasGold yX4_hasGold, Cond.code yX4_hasGold cX4_hasGold 2 (some .boolean), Cond.methodLink RX4 97 yX4_hasSilver, Cond.instanceMethod yX4_hasSilver, Cond.selects RX4 yX4_hasSilver yX4_hasSilver, Cond.code yX4_hasSilver cX4_hasSilver 2 (some .boolean), Cond.methodLink RX1 71 yX4_carry, Cond.instanceMethod yX4_carry, Cond.selects RX4 yX4_carry yX4_carry, Cond.code yX4_carry cX4_carry 4 none, Cond.methodLink RX4 100 yX4_weigh, Cond.methodLink RX1 58 yX1_isMarked, Cond.instanceMethod yX1_isMarked, Cond.selects RX1 yX1_isMarked yX1_isMarked, Cond.code yX1_isMarked cX1_isMarked 3 (some .boolean), Cond.methodLink RX1 62 yJ6_bitCount_0f7a4, Cond.static yJ6_bitCount_0f7a4, Cond.initialized RJ6]
def wsX5_tryPurchase_r5 : List Cond := [Cond.code yJ6_bitCount_0f7a4 cJ6_bitCount_0f7a4 1 (some .int), Cond.constant RJ6 265 (1431655765), Cond.constant RJ6 266 (858993459), Cond.constant RJ6 267 (252645135)]
def wsX5_tryPurchase : List Cond := .code yX5_tryPurchase cX5_tryPurchase 2 (some .int) :: ((wsX5_tryPurchase_r1 ++ (wsX5_tryPurchase_r2 ++ (wsX5_tryPurchase_r3 ++ (wsX5_tryPurchase_r4 ++ wsX5_tryPurchase_r5)))) ++ wsX50 ++ wsX40 ++ wsX10)
def wsX5_bought_r1 : List Cond := [Cond.fieldLink RX5 40 "TwoMetals" "now" "LTwoMetals$World;", Cond.fieldLink RX5 121 "TwoMetals$World" "marketGold" "J", Cond.fieldLink RX5 44 "TwoMetals" "trial" "LTwoMetals$World;", Cond.fieldLink RX5 128 "TwoMetals$World" "price" "I", Cond.fieldLink RX5 105 "TwoMetals$World" "gold" "[J", Cond.methodLink RX5 90 yX4_has, Cond.instanceMethod yX4_has, Cond.selects RX4 yX4_has yX4_has, Cond.initialized RX4, Cond.code yX4_has cX4_has 2 (some .boolean), Cond.fieldLink RX4 40 "TwoMetals$World" "told" "I", Cond.methodLink RX5 186 yX5_tryPurchase, Cond.instanceMethod yX5_tryPurchase, Cond.selects RX5 yX5_tryPurchase yX5_tryPurchase, Cond.initialized RX5, Cond.code yX5_tryPurchase cX5_tryPurchase 2 (some .int), Cond.fieldLink RX5 26 "TwoMetals" "mover" "LTwoMetals$Mover;", Cond.methodLink RX5 73 yX4_copyFrom, Cond.instanceMethod yX4_copyFrom, Cond.selects RX4 yX4_copyFrom yX4_copyFrom, Cond.code yX4_copyFrom cX4_copyFrom 2 none, Cond.fieldLink RX4 9 "TwoMetals$World" "law" "[I", Cond.methodLink RX4 67 arraycopyName, Cond.native arraycopyName]
def wsX5_bought_r2 : List Cond := [Cond.static arraycopyName, Cond.initialized "java/lang/System", Cond.fieldLink RX4 15 "TwoMetals$World" "cut" "[I", Cond.fieldLink RX4 18 "TwoMetals$World" "way" "[I", Cond.fieldLink RX4 21 "TwoMetals$World" "yearly" "[I", Cond.fieldLink RX4 24 "TwoMetals$World" "stopAt" "[I", Cond.fieldLink RX4 27 "TwoMetals$World" "low" "[I", Cond.fieldLink RX4 30 "TwoMetals$World" "high" "[I", Cond.fieldLink RX4 33 "TwoMetals$World" "gold" "[J", Cond.fieldLink RX4 37 "TwoMetals$World" "silver" "[J", Cond.fieldLink RX4 44 "TwoMetals$World" "minting" "I", Cond.fieldLink RX4 47 "TwoMetals$World" "limping" "I", Cond.fieldLink RX4 50 "TwoMetals$World" "marketGold" "J", Cond.fieldLink RX4 54 "TwoMetals$World" "marketSilver" "J", Cond.fieldLink RX4 57 "TwoMetals$World" "scarcity" "I", Cond.fieldLink RX4 61 "TwoMetals$World" "price" "I", Cond.fieldLink RX4 64 "TwoMetals$World" "age" "I", Cond.methodLink RX5 200 yX4_weigh, Cond.instanceMethod yX4_weigh, Cond.selects RX4 yX4_weigh yX4_weigh, Cond.code yX4_weigh cX4_weigh 1 none, Cond.constant RX4 60 (1000000), Cond.constantLong RX4 73 (1000), Cond.constantLong RX4 81 (1000000)]
def wsX5_bought_r3 : List Cond := [Cond.methodLink RX4 83 Lib.MathLoose.min_long.x, Cond.static Lib.MathLoose.min_long.x, Cond.initialized "java/lang/Math", Cond.code Lib.MathLoose.min_long.x Lib.MathLoose.min_long.code 4 (some .long), Cond.methodLink RX5 154 yX1_settle, Cond.instanceMethod yX1_settle, Cond.selects RX1 yX1_settle yX1_settle, Cond.initialized RX1, Cond.code yX1_settle cX1_settle 5 (some .int), Cond.fieldLink RX1 11 "TwoMetals$Mover" "left" "[I", Cond.constant RX1 47 (200001), Cond.constant RX1 57 (200000), Cond.methodLink RX1 48 yJ7_fill_53178, Cond.static yJ7_fill_53178, Cond.initialized RJ7, Cond.code yJ7_fill_53178 cJ7_fill_53178 4 none, Cond.methodLink RX1 54 yX1_mark, Cond.instanceMethod yX1_mark, Cond.selects RX1 yX1_mark yX1_mark, Cond.code yX1_mark cX1_mark 2 none, Cond.fieldLink RX1 75 "TwoMetals$World" "gold" "[J", Cond.fieldLink RX1 15 "TwoMetals$Mover" "marked" "[J", Cond.methodLink RX1 30 arraycopyName, Cond.methodLink RX1 36 yX1_goRound]
def wsX5_bought_r4 : List Cond := [Cond.instanceMethod yX1_goRound, Cond.selects RX1 yX1_goRound yX1_goRound, Cond.code yX1_goRound cX1_goRound 5 (some .int), Cond.methodLink RX1 68 yX4_heading, Cond.instanceMethod yX4_heading, Cond.selects RX4 yX4_heading yX4_heading, Cond.code yX4_heading cX4_heading 3 (some .int), Cond.methodLink RX4 87 yX4_mints, Cond.instanceMethod yX4_mints, Cond.selects RX4 yX4_mints yX4_mints, Cond.code yX4_mints cX4_mints 2 (some .boolean), Cond.methodLink RX4 91 yX4_limps, Cond.instanceMethod yX4_limps, Cond.selects RX4 yX4_limps yX4_limps, Cond.code yX4_limps cX4_limps 2 (some .boolean), Cond.methodLink RX4 94 yX4_hasGold, Cond.instanceMethod yX4_hasGold, Cond.selects RX4 yX4_hasGold yX4_hasGold, Cond.code yX4_hasGold cX4_hasGold 2 (some .boolean), Cond.methodLink RX4 97 yX4_hasSilver, Cond.instanceMethod yX4_hasSilver, Cond.selects RX4 yX4_hasSilver yX4_hasSilver, Cond.code yX4_hasSilver cX4_hasSilver 2 (some .boolean), Cond.methodLink RX1 71 yX4_carry]
def wsX5_bought_r5 : List Cond := [Cond.instanceMethod yX4_carry, Cond.selects RX4 yX4_carry yX4_carry, Cond.code yX4_carry cX4_carry 4 none, Cond.methodLink RX4 100 yX4_weigh, Cond.methodLink RX1 58 yX1_isMarked, Cond.instanceMethod yX1_isMarked, Cond.selects RX1 yX1_isMarked yX1_isMarked, Cond.code yX1_isMarked cX1_isMarked 3 (some .boolean), Cond.methodLink RX1 62 yJ6_bitCount_0f7a4, Cond.static yJ6_bitCount_0f7a4, Cond.initialized RJ6, Cond.code yJ6_bitCount_0f7a4 cJ6_bitCount_0f7a4 1 (some .int), Cond.constant RJ6 265 (1431655765), Cond.constant RJ6 266 (858993459), Cond.constant RJ6 267 (252645135)]
def wsX5_bought : List Cond := .code yX5_bought cX5_bought 3 (some .int) :: ((wsX5_bought_r1 ++ (wsX5_bought_r2 ++ (wsX5_bought_r3 ++ (wsX5_bought_r4 ++ wsX5_bought_r5)))) ++ wsX50 ++ wsX40 ++ wsX10)
def wsX5_corner_r1 : List Cond := [Cond.fieldLink RX5 40 "TwoMetals" "now" "LTwoMetals$World;", Cond.fieldLink RX5 121 "TwoMetals$World" "marketGold" "J", Cond.methodLink RX5 189 Lib.Math.min.name, Cond.static Lib.Math.min.name, Cond.initialized "java/lang/Math", Cond.code Lib.Math.min.name Lib.Math.min.code 2 (some .int), Cond.fieldLink RX5 44 "TwoMetals" "trial" "LTwoMetals$World;", Cond.methodLink RX5 90 yX4_has, Cond.instanceMethod yX4_has, Cond.selects RX4 yX4_has yX4_has, Cond.initialized RX4, Cond.code yX4_has cX4_has 2 (some .boolean), Cond.fieldLink RX4 40 "TwoMetals$World" "told" "I", Cond.methodLink RX5 115 yX4_mints, Cond.instanceMethod yX4_mints, Cond.selects RX4 yX4_mints yX4_mints, Cond.code yX4_mints cX4_mints 2 (some .boolean), Cond.fieldLink RX4 44 "TwoMetals$World" "minting" "I", Cond.methodLink RX5 186 yX5_tryPurchase, Cond.instanceMethod yX5_tryPurchase, Cond.selects RX5 yX5_tryPurchase yX5_tryPurchase, Cond.initialized RX5, Cond.code yX5_tryPurchase cX5_tryPurchase 2 (some .int), Cond.fieldLink RX5 26 "TwoMetals" "mover" "LTwoMetals$Mover;"]
def wsX5_corner_r2 : List Cond := [Cond.methodLink RX5 73 yX4_copyFrom, Cond.instanceMethod yX4_copyFrom, Cond.selects RX4 yX4_copyFrom yX4_copyFrom, Cond.code yX4_copyFrom cX4_copyFrom 2 none, Cond.fieldLink RX4 9 "TwoMetals$World" "law" "[I", Cond.methodLink RX4 67 arraycopyName, Cond.native arraycopyName, Cond.static arraycopyName, Cond.initialized "java/lang/System", Cond.fieldLink RX4 15 "TwoMetals$World" "cut" "[I", Cond.fieldLink RX4 18 "TwoMetals$World" "way" "[I", Cond.fieldLink RX4 21 "TwoMetals$World" "yearly" "[I", Cond.fieldLink RX4 24 "TwoMetals$World" "stopAt" "[I", Cond.fieldLink RX4 27 "TwoMetals$World" "low" "[I", Cond.fieldLink RX4 30 "TwoMetals$World" "high" "[I", Cond.fieldLink RX4 33 "TwoMetals$World" "gold" "[J", Cond.fieldLink RX4 37 "TwoMetals$World" "silver" "[J", Cond.fieldLink RX4 47 "TwoMetals$World" "limping" "I", Cond.fieldLink RX4 50 "TwoMetals$World" "marketGold" "J", Cond.fieldLink RX4 54 "TwoMetals$World" "marketSilver" "J", Cond.fieldLink RX4 57 "TwoMetals$World" "scarcity" "I", Cond.fieldLink RX4 61 "TwoMetals$World" "price" "I", Cond.fieldLink RX4 64 "TwoMetals$World" "age" "I", Cond.methodLink RX5 200 yX4_weigh]
def wsX5_corner_r3 : List Cond := [Cond.instanceMethod yX4_weigh, Cond.selects RX4 yX4_weigh yX4_weigh, Cond.code yX4_weigh cX4_weigh 1 none, Cond.constant RX4 60 (1000000), Cond.constantLong RX4 73 (1000), Cond.constantLong RX4 81 (1000000), Cond.methodLink RX4 83 Lib.MathLoose.min_long.x, Cond.static Lib.MathLoose.min_long.x, Cond.code Lib.MathLoose.min_long.x Lib.MathLoose.min_long.code 4 (some .long), Cond.methodLink RX5 154 yX1_settle, Cond.instanceMethod yX1_settle, Cond.selects RX1 yX1_settle yX1_settle, Cond.initialized RX1, Cond.code yX1_settle cX1_settle 5 (some .int), Cond.fieldLink RX1 11 "TwoMetals$Mover" "left" "[I", Cond.constant RX1 47 (200001), Cond.constant RX1 57 (200000), Cond.methodLink RX1 48 yJ7_fill_53178, Cond.static yJ7_fill_53178, Cond.initialized RJ7, Cond.code yJ7_fill_53178 cJ7_fill_53178 4 none, Cond.methodLink RX1 54 yX1_mark, Cond.instanceMethod yX1_mark, Cond.selects RX1 yX1_mark yX1_mark]
def wsX5_corner_r4 : List Cond := [Cond.code yX1_mark cX1_mark 2 none, Cond.fieldLink RX1 75 "TwoMetals$World" "gold" "[J", Cond.fieldLink RX1 15 "TwoMetals$Mover" "marked" "[J", Cond.methodLink RX1 30 arraycopyName, Cond.methodLink RX1 36 yX1_goRound, Cond.instanceMethod yX1_goRound, Cond.selects RX1 yX1_goRound yX1_goRound, Cond.code yX1_goRound cX1_goRound 5 (some .int), Cond.methodLink RX1 68 yX4_heading, Cond.instanceMethod yX4_heading, Cond.selects RX4 yX4_heading yX4_heading, Cond.code yX4_heading cX4_heading 3 (some .int), Cond.methodLink RX4 87 yX4_mints, Cond.methodLink RX4 91 yX4_limps, Cond.instanceMethod yX4_limps, Cond.selects RX4 yX4_limps yX4_limps, Cond.code yX4_limps cX4_limps 2 (some .boolean), Cond.methodLink RX4 94 yX4_hasGold, Cond.instanceMethod yX4_hasGold, Cond.selects RX4 yX4_hasGold yX4_hasGold, Cond.code yX4_hasGold cX4_hasGold 2 (some .boolean), Cond.methodLink RX4 97 yX4_hasSilver, Cond.instanceMethod yX4_hasSilver, Cond.selects RX4 yX4_hasSilver yX4_hasSilver]
def wsX5_corner_r5 : List Cond := [Cond.code yX4_hasSilver cX4_hasSilver 2 (some .boolean), Cond.methodLink RX1 71 yX4_carry, Cond.instanceMethod yX4_carry, Cond.selects RX4 yX4_carry yX4_carry, Cond.code yX4_carry cX4_carry 4 none, Cond.methodLink RX4 100 yX4_weigh, Cond.methodLink RX1 58 yX1_isMarked, Cond.instanceMethod yX1_isMarked, Cond.selects RX1 yX1_isMarked yX1_isMarked, Cond.code yX1_isMarked cX1_isMarked 3 (some .boolean), Cond.methodLink RX1 62 yJ6_bitCount_0f7a4, Cond.static yJ6_bitCount_0f7a4, Cond.initialized RJ6, Cond.code yJ6_bitCount_0f7a4 cJ6_bitCount_0f7a4 1 (some .int), Cond.constant RJ6 265 (1431655765), Cond.constant RJ6 266 (858993459), Cond.constant RJ6 267 (252645135), Cond.methodLink RX5 161 yX4_hasGold]
def wsX5_corner : List Cond := .code yX5_corner cX5_corner 6 (some .int) :: ((wsX5_corner_r1 ++ (wsX5_corner_r2 ++ (wsX5_corner_r3 ++ (wsX5_corner_r4 ++ wsX5_corner_r5)))) ++ wsX50 ++ wsX40 ++ wsX10)
def wsX5_move_r1 : List Cond := [Cond.fieldLink RX5 40 "TwoMetals" "now" "LTwoMetals$World;", Cond.fieldLink RX5 95 "TwoMetals$World" "law" "[I", Cond.methodLink RX5 90 yX4_has, Cond.instanceMethod yX4_has, Cond.selects RX4 yX4_has yX4_has, Cond.initialized RX4, Cond.code yX4_has cX4_has 2 (some .boolean), Cond.fieldLink RX4 40 "TwoMetals$World" "told" "I", Cond.methodLink RX5 177 yX5_isLaw, Cond.static yX5_isLaw, Cond.initialized RX5, Cond.code yX5_isLaw cX5_isLaw 1 (some .boolean), Cond.constant RX5 203 (99999), Cond.methodLink RX5 192 yX4_setLaw, Cond.instanceMethod yX4_setLaw, Cond.selects RX4 yX4_setLaw yX4_setLaw, Cond.code yX4_setLaw cX4_setLaw 8 none, Cond.fieldLink RX4 9 "TwoMetals$World" "law" "[I", Cond.fieldLink RX4 18 "TwoMetals$World" "way" "[I", Cond.constantLong RX4 73 (1000), Cond.fieldLink RX4 15 "TwoMetals$World" "cut" "[I", Cond.methodLink RX4 75 Lib.Math.max.name, Cond.static Lib.Math.max.name, Cond.initialized "java/lang/Math"]
def wsX5_move_r2 : List Cond := [Cond.code Lib.Math.max.name Lib.Math.max.code 2 (some .int), Cond.fieldLink RX4 27 "TwoMetals$World" "low" "[I", Cond.fieldLink RX4 30 "TwoMetals$World" "high" "[I", Cond.constantLong RX4 81 (1000000), Cond.methodLink RX4 83 Lib.MathLoose.min_long.x, Cond.static Lib.MathLoose.min_long.x, Cond.code Lib.MathLoose.min_long.x Lib.MathLoose.min_long.code 4 (some .long)]
def wsX5_move : List Cond := .code yX5_move cX5_move 4 (some .int) :: ((wsX5_move_r1 ++ wsX5_move_r2) ++ wsX50 ++ wsX40)
def wsX5_melted : List Cond := .code yX5_melted cX5_melted 3 (some .int) :: ([.fieldLink RX5 40 "TwoMetals" "now" "LTwoMetals$World;", .fieldLink RX5 128 "TwoMetals$World" "price" "I", .fieldLink RX5 95 "TwoMetals$World" "law" "[I", .methodLink RX5 90 yX4_has, .instanceMethod yX4_has, .selects RX4 yX4_has yX4_has, .initialized RX4, .code yX4_has cX4_has 2 (some .boolean), .fieldLink RX4 40 "TwoMetals$World" "told" "I"] ++ wsX50 ++ wsX40)
def wsX5_keep_r1 : List Cond := [Cond.fieldLink RX5 51 "TwoMetals" "keptCount" "I", Cond.fieldLink RX5 47 "TwoMetals" "kept" "[LTwoMetals$World;", Cond.fieldLink RX5 40 "TwoMetals" "now" "LTwoMetals$World;", Cond.methodLink RX5 73 yX4_copyFrom, Cond.instanceMethod yX4_copyFrom, Cond.selects RX4 yX4_copyFrom yX4_copyFrom, Cond.initialized RX4, Cond.code yX4_copyFrom cX4_copyFrom 2 none, Cond.fieldLink RX4 9 "TwoMetals$World" "law" "[I", Cond.methodLink RX4 67 arraycopyName, Cond.native arraycopyName, Cond.static arraycopyName, Cond.initialized "java/lang/System", Cond.fieldLink RX4 15 "TwoMetals$World" "cut" "[I", Cond.fieldLink RX4 18 "TwoMetals$World" "way" "[I", Cond.fieldLink RX4 21 "TwoMetals$World" "yearly" "[I", Cond.fieldLink RX4 24 "TwoMetals$World" "stopAt" "[I", Cond.fieldLink RX4 27 "TwoMetals$World" "low" "[I", Cond.fieldLink RX4 30 "TwoMetals$World" "high" "[I", Cond.fieldLink RX4 33 "TwoMetals$World" "gold" "[J", Cond.fieldLink RX4 37 "TwoMetals$World" "silver" "[J", Cond.fieldLink RX4 40 "TwoMetals$World" "told" "I", Cond.fieldLink RX4 44 "TwoMetals$World" "minting" "I", Cond.fieldLink RX4 47 "TwoMetals$World" "limping" "I"]
def wsX5_keep_r2 : List Cond := [Cond.fieldLink RX4 50 "TwoMetals$World" "marketGold" "J", Cond.fieldLink RX4 54 "TwoMetals$World" "marketSilver" "J", Cond.fieldLink RX4 57 "TwoMetals$World" "scarcity" "I", Cond.fieldLink RX4 61 "TwoMetals$World" "price" "I", Cond.fieldLink RX4 64 "TwoMetals$World" "age" "I"]
def wsX5_keep : List Cond := .code yX5_keep cX5_keep 1 (some .int) :: ((wsX5_keep_r1 ++ wsX5_keep_r2) ++ wsX50 ++ wsX40)
def wsX5_back_r1 : List Cond := [Cond.fieldLink RX5 51 "TwoMetals" "keptCount" "I", Cond.fieldLink RX5 40 "TwoMetals" "now" "LTwoMetals$World;", Cond.fieldLink RX5 47 "TwoMetals" "kept" "[LTwoMetals$World;", Cond.methodLink RX5 73 yX4_copyFrom, Cond.instanceMethod yX4_copyFrom, Cond.selects RX4 yX4_copyFrom yX4_copyFrom, Cond.initialized RX4, Cond.code yX4_copyFrom cX4_copyFrom 2 none, Cond.fieldLink RX4 9 "TwoMetals$World" "law" "[I", Cond.methodLink RX4 67 arraycopyName, Cond.native arraycopyName, Cond.static arraycopyName, Cond.initialized "java/lang/System", Cond.fieldLink RX4 15 "TwoMetals$World" "cut" "[I", Cond.fieldLink RX4 18 "TwoMetals$World" "way" "[I", Cond.fieldLink RX4 21 "TwoMetals$World" "yearly" "[I", Cond.fieldLink RX4 24 "TwoMetals$World" "stopAt" "[I", Cond.fieldLink RX4 27 "TwoMetals$World" "low" "[I", Cond.fieldLink RX4 30 "TwoMetals$World" "high" "[I", Cond.fieldLink RX4 33 "TwoMetals$World" "gold" "[J", Cond.fieldLink RX4 37 "TwoMetals$World" "silver" "[J", Cond.fieldLink RX4 40 "TwoMetals$World" "told" "I", Cond.fieldLink RX4 44 "TwoMetals$World" "minting" "I", Cond.fieldLink RX4 47 "TwoMetals$World" "limping" "I"]
def wsX5_back_r2 : List Cond := [Cond.fieldLink RX4 50 "TwoMetals$World" "marketGold" "J", Cond.fieldLink RX4 54 "TwoMetals$World" "marketSilver" "J", Cond.fieldLink RX4 57 "TwoMetals$World" "scarcity" "I", Cond.fieldLink RX4 61 "TwoMetals$World" "price" "I", Cond.fieldLink RX4 64 "TwoMetals$World" "age" "I"]
def wsX5_back : List Cond := .code yX5_back cX5_back 1 (some .int) :: ((wsX5_back_r1 ++ wsX5_back_r2) ++ wsX50 ++ wsX40)
def wsX5_count_r1 : List Cond := [Cond.fieldLink RX5 40 "TwoMetals" "now" "LTwoMetals$World;", Cond.fieldLink RX5 81 "TwoMetals$World" "told" "I", Cond.fieldLink RX5 10 "TwoMetals" "text" "LTwoMetals$Text;", Cond.fieldLink RX5 63 "TwoMetals$Text" "length" "I", Cond.fieldLink RX5 174 "TwoMetals$World" "minting" "I", Cond.fieldLink RX5 51 "TwoMetals" "keptCount" "I", Cond.methodLink RX5 84 yJ6_bitCount_0f7a4, Cond.static yJ6_bitCount_0f7a4, Cond.initialized RJ6, Cond.code yJ6_bitCount_0f7a4 cJ6_bitCount_0f7a4 1 (some .int), Cond.constant RJ6 265 (1431655765), Cond.constant RJ6 266 (858993459), Cond.constant RJ6 267 (252645135), Cond.methodLink RX5 196 yX4_goldInAll, Cond.instanceMethod yX4_goldInAll, Cond.selects RX4 yX4_goldInAll yX4_goldInAll, Cond.initialized RX4, Cond.code yX4_goldInAll cX4_goldInAll 4 (some .long), Cond.fieldLink RX4 50 "TwoMetals$World" "marketGold" "J", Cond.fieldLink RX4 33 "TwoMetals$World" "gold" "[J", Cond.methodLink RX4 103 yX4_has, Cond.instanceMethod yX4_has, Cond.selects RX4 yX4_has yX4_has, Cond.code yX4_has cX4_has 2 (some .boolean)]
def wsX5_count_r2 : List Cond := [Cond.fieldLink RX4 40 "TwoMetals$World" "told" "I"]
def wsX5_count : List Cond := .code yX5_count cX5_count 2 (some .int) :: ((wsX5_count_r1 ++ wsX5_count_r2) ++ wsX50 ++ wsX40 ++ wsX30)
def wsX6_noWorld : List Cond := .code yX6_noWorld cX6_noWorld 4 none :: ([.fieldLink RX6 13 "TwoMetalsModel" "realms" "[J", .constantLong RX6 39 (-1), .fieldLink RX6 17 "TwoMetalsModel" "markets" "[J", .fieldLink RX6 20 "TwoMetalsModel" "scarce" "[I", .fieldLink RX6 23 "TwoMetalsModel" "mineMany" "[I"] ++ wsX60)
def wsX6_init : List Cond := .code yX6_init cX6_init 1 none :: ([.methodLink RX6 1 objectInit, .instanceMethod objectInit, .code objectInit ⟨#[0xb1]⟩ 1 none, .arrayClass .int, .fieldLink RX6 7 "TwoMetalsModel" "text" "[I", .arrayClass .long, .fieldLink RX6 13 "TwoMetalsModel" "realms" "[J", .fieldLink RX6 17 "TwoMetalsModel" "markets" "[J", .fieldLink RX6 20 "TwoMetalsModel" "scarce" "[I", .fieldLink RX6 23 "TwoMetalsModel" "mineMany" "[I", .fieldLink RX6 26 "TwoMetalsModel" "mines" "[I", .fieldLink RX6 29 "TwoMetalsModel" "numbers" "[I", .fieldLink RX6 32 "TwoMetalsModel" "moved" "[I", .methodLink RX6 35 yX6_noWorld, .instanceMethod yX6_noWorld, .selects RX6 yX6_noWorld yX6_noWorld, .initialized RX6, .code yX6_noWorld cX6_noWorld 4 none, .constantLong RX6 39 (-1)] ++ wsX60)
def wsX6_in : List Cond := .code yX6_in cX6_in 6 (some .boolean) :: ([])
def wsX6_has : List Cond := .code yX6_has cX6_has 2 (some .boolean) :: ([])
def wsX6_bits : List Cond := .code yX6_bits cX6_bits 3 (some .int) :: ([])
def wsX6_write : List Cond := .code yX6_write cX6_write 5 (some .int) :: ([.constantLong RX6 41 (8), .fieldLink RX6 47 "TwoMetalsModel" "length" "I", .fieldLink RX6 7 "TwoMetalsModel" "text" "[I", .constantLong RX6 51 (255), .methodLink RX6 43 yX6_in, .static yX6_in, .initialized RX6, .code yX6_in cX6_in 6 (some .boolean)] ++ wsX60)
def wsX6_wipe : List Cond := .code yX6_wipe cX6_wipe 2 (some .int) :: ([.fieldLink RX6 47 "TwoMetalsModel" "length" "I"] ++ wsX60)
def wsX6_byteAt : List Cond := .code yX6_byteAt cX6_byteAt 2 (some .int) :: ([.fieldLink RX6 47 "TwoMetalsModel" "length" "I", .fieldLink RX6 7 "TwoMetalsModel" "text" "[I"] ++ wsX60)
def wsX6_figures : List Cond := .code yX6_figures cX6_figures 5 (some .boolean) :: ([.fieldLink RX6 53 "TwoMetalsModel" "place" "I", .constantLong RX6 60 (48), .constantLong RX6 62 (57), .constantLong RX6 64 (5), .fieldLink RX6 29 "TwoMetalsModel" "numbers" "[I", .methodLink RX6 56 yX6_byteAt, .instanceMethod yX6_byteAt, .selects RX6 yX6_byteAt yX6_byteAt, .initialized RX6, .code yX6_byteAt cX6_byteAt 2 (some .int), .fieldLink RX6 47 "TwoMetalsModel" "length" "I", .fieldLink RX6 7 "TwoMetalsModel" "text" "[I", .methodLink RX6 43 yX6_in, .static yX6_in, .code yX6_in cX6_in 6 (some .boolean)] ++ wsX60)
def wsX6_isRead : List Cond := .code yX6_isRead cX6_isRead 2 (some .boolean) :: ([.fieldLink RX6 13 "TwoMetalsModel" "realms" "[J"] ++ wsX60)
def wsX6_realmItem_r1 : List Cond := [Cond.fieldLink RX6 29 "TwoMetalsModel" "numbers" "[I", Cond.fieldLink RX6 13 "TwoMetalsModel" "realms" "[J", Cond.constantLong RX6 73 (1000), Cond.methodLink RX6 66 yX6_figures, Cond.instanceMethod yX6_figures, Cond.selects RX6 yX6_figures yX6_figures, Cond.initialized RX6, Cond.code yX6_figures cX6_figures 5 (some .boolean), Cond.fieldLink RX6 53 "TwoMetalsModel" "place" "I", Cond.constantLong RX6 60 (48), Cond.constantLong RX6 62 (57), Cond.constantLong RX6 64 (5), Cond.methodLink RX6 56 yX6_byteAt, Cond.instanceMethod yX6_byteAt, Cond.selects RX6 yX6_byteAt yX6_byteAt, Cond.code yX6_byteAt cX6_byteAt 2 (some .int), Cond.fieldLink RX6 47 "TwoMetalsModel" "length" "I", Cond.fieldLink RX6 7 "TwoMetalsModel" "text" "[I", Cond.methodLink RX6 43 yX6_in, Cond.static yX6_in, Cond.code yX6_in cX6_in 6 (some .boolean), Cond.methodLink RX6 70 yX6_isRead, Cond.instanceMethod yX6_isRead, Cond.selects RX6 yX6_isRead yX6_isRead]
def wsX6_realmItem_r2 : List Cond := [Cond.code yX6_isRead cX6_isRead 2 (some .boolean)]
def wsX6_realmItem : List Cond := .code yX6_realmItem cX6_realmItem 4 (some .boolean) :: ((wsX6_realmItem_r1 ++ wsX6_realmItem_r2) ++ wsX60)
def wsX6_mineItem : List Cond := .code yX6_mineItem cX6_mineItem 3 (some .boolean) :: ([.fieldLink RX6 29 "TwoMetalsModel" "numbers" "[I", .fieldLink RX6 23 "TwoMetalsModel" "mineMany" "[I", .fieldLink RX6 26 "TwoMetalsModel" "mines" "[I", .methodLink RX6 66 yX6_figures, .instanceMethod yX6_figures, .selects RX6 yX6_figures yX6_figures, .initialized RX6, .code yX6_figures cX6_figures 5 (some .boolean), .fieldLink RX6 53 "TwoMetalsModel" "place" "I", .constantLong RX6 60 (48), .constantLong RX6 62 (57), .constantLong RX6 64 (5), .methodLink RX6 56 yX6_byteAt, .instanceMethod yX6_byteAt, .selects RX6 yX6_byteAt yX6_byteAt, .code yX6_byteAt cX6_byteAt 2 (some .int), .fieldLink RX6 47 "TwoMetalsModel" "length" "I", .fieldLink RX6 7 "TwoMetalsModel" "text" "[I", .methodLink RX6 43 yX6_in, .static yX6_in, .code yX6_in cX6_in 6 (some .boolean)] ++ wsX60)
def wsX6_item_r1 : List Cond := [Cond.fieldLink RX6 53 "TwoMetalsModel" "place" "I", Cond.fieldLink RX6 29 "TwoMetalsModel" "numbers" "[I", Cond.fieldLink RX6 13 "TwoMetalsModel" "realms" "[J", Cond.fieldLink RX6 17 "TwoMetalsModel" "markets" "[J", Cond.constantLong RX6 73 (1000), Cond.constantLong RX6 79 (9999), Cond.fieldLink RX6 20 "TwoMetalsModel" "scarce" "[I", Cond.methodLink RX6 56 yX6_byteAt, Cond.instanceMethod yX6_byteAt, Cond.selects RX6 yX6_byteAt yX6_byteAt, Cond.initialized RX6, Cond.code yX6_byteAt cX6_byteAt 2 (some .int), Cond.fieldLink RX6 47 "TwoMetalsModel" "length" "I", Cond.fieldLink RX6 7 "TwoMetalsModel" "text" "[I", Cond.methodLink RX6 75 yX6_realmItem, Cond.instanceMethod yX6_realmItem, Cond.selects RX6 yX6_realmItem yX6_realmItem, Cond.code yX6_realmItem cX6_realmItem 4 (some .boolean), Cond.methodLink RX6 66 yX6_figures, Cond.instanceMethod yX6_figures, Cond.selects RX6 yX6_figures yX6_figures, Cond.code yX6_figures cX6_figures 5 (some .boolean), Cond.constantLong RX6 60 (48), Cond.constantLong RX6 62 (57)]
def wsX6_item_r2 : List Cond := [Cond.constantLong RX6 64 (5), Cond.methodLink RX6 43 yX6_in, Cond.static yX6_in, Cond.code yX6_in cX6_in 6 (some .boolean), Cond.methodLink RX6 70 yX6_isRead, Cond.instanceMethod yX6_isRead, Cond.selects RX6 yX6_isRead yX6_isRead, Cond.code yX6_isRead cX6_isRead 2 (some .boolean), Cond.methodLink RX6 81 yX6_mineItem, Cond.instanceMethod yX6_mineItem, Cond.selects RX6 yX6_mineItem yX6_mineItem, Cond.code yX6_mineItem cX6_mineItem 3 (some .boolean), Cond.fieldLink RX6 23 "TwoMetalsModel" "mineMany" "[I", Cond.fieldLink RX6 26 "TwoMetalsModel" "mines" "[I"]
def wsX6_item : List Cond := .code yX6_item cX6_item 2 (some .boolean) :: ((wsX6_item_r1 ++ wsX6_item_r2) ++ wsX60)
def wsX6_readAll_r1 : List Cond := [Cond.fieldLink RX6 53 "TwoMetalsModel" "place" "I", Cond.fieldLink RX6 47 "TwoMetalsModel" "length" "I", Cond.methodLink RX6 35 yX6_noWorld, Cond.instanceMethod yX6_noWorld, Cond.selects RX6 yX6_noWorld yX6_noWorld, Cond.initialized RX6, Cond.code yX6_noWorld cX6_noWorld 4 none, Cond.fieldLink RX6 13 "TwoMetalsModel" "realms" "[J", Cond.constantLong RX6 39 (-1), Cond.fieldLink RX6 17 "TwoMetalsModel" "markets" "[J", Cond.fieldLink RX6 20 "TwoMetalsModel" "scarce" "[I", Cond.fieldLink RX6 23 "TwoMetalsModel" "mineMany" "[I", Cond.methodLink RX6 84 yX6_item, Cond.instanceMethod yX6_item, Cond.selects RX6 yX6_item yX6_item, Cond.code yX6_item cX6_item 2 (some .boolean), Cond.fieldLink RX6 29 "TwoMetalsModel" "numbers" "[I", Cond.constantLong RX6 73 (1000), Cond.constantLong RX6 79 (9999), Cond.methodLink RX6 56 yX6_byteAt, Cond.instanceMethod yX6_byteAt, Cond.selects RX6 yX6_byteAt yX6_byteAt, Cond.code yX6_byteAt cX6_byteAt 2 (some .int), Cond.fieldLink RX6 7 "TwoMetalsModel" "text" "[I"]
def wsX6_readAll_r2 : List Cond := [Cond.methodLink RX6 75 yX6_realmItem, Cond.instanceMethod yX6_realmItem, Cond.selects RX6 yX6_realmItem yX6_realmItem, Cond.code yX6_realmItem cX6_realmItem 4 (some .boolean), Cond.methodLink RX6 66 yX6_figures, Cond.instanceMethod yX6_figures, Cond.selects RX6 yX6_figures yX6_figures, Cond.code yX6_figures cX6_figures 5 (some .boolean), Cond.constantLong RX6 60 (48), Cond.constantLong RX6 62 (57), Cond.constantLong RX6 64 (5), Cond.methodLink RX6 43 yX6_in, Cond.static yX6_in, Cond.code yX6_in cX6_in 6 (some .boolean), Cond.methodLink RX6 70 yX6_isRead, Cond.instanceMethod yX6_isRead, Cond.selects RX6 yX6_isRead yX6_isRead, Cond.code yX6_isRead cX6_isRead 2 (some .boolean), Cond.methodLink RX6 81 yX6_mineItem, Cond.instanceMethod yX6_mineItem, Cond.selects RX6 yX6_mineItem yX6_mineItem, Cond.code yX6_mineItem cX6_mineItem 3 (some .boolean), Cond.fieldLink RX6 26 "TwoMetalsModel" "mines" "[I"]
def wsX6_readAll : List Cond := .code yX6_readAll cX6_readAll 2 (some .int) :: ((wsX6_readAll_r1 ++ wsX6_readAll_r2) ++ wsX60)
def wsX6_fault_r1 : List Cond := [Cond.methodLink RX6 87 yX6_readAll, Cond.instanceMethod yX6_readAll, Cond.selects RX6 yX6_readAll yX6_readAll, Cond.initialized RX6, Cond.code yX6_readAll cX6_readAll 2 (some .int), Cond.fieldLink RX6 53 "TwoMetalsModel" "place" "I", Cond.fieldLink RX6 47 "TwoMetalsModel" "length" "I", Cond.methodLink RX6 35 yX6_noWorld, Cond.instanceMethod yX6_noWorld, Cond.selects RX6 yX6_noWorld yX6_noWorld, Cond.code yX6_noWorld cX6_noWorld 4 none, Cond.fieldLink RX6 13 "TwoMetalsModel" "realms" "[J", Cond.constantLong RX6 39 (-1), Cond.fieldLink RX6 17 "TwoMetalsModel" "markets" "[J", Cond.fieldLink RX6 20 "TwoMetalsModel" "scarce" "[I", Cond.fieldLink RX6 23 "TwoMetalsModel" "mineMany" "[I", Cond.methodLink RX6 84 yX6_item, Cond.instanceMethod yX6_item, Cond.selects RX6 yX6_item yX6_item, Cond.code yX6_item cX6_item 2 (some .boolean), Cond.fieldLink RX6 29 "TwoMetalsModel" "numbers" "[I", Cond.constantLong RX6 73 (1000), Cond.constantLong RX6 79 (9999), Cond.methodLink RX6 56 yX6_byteAt]
def wsX6_fault_r2 : List Cond := [Cond.instanceMethod yX6_byteAt, Cond.selects RX6 yX6_byteAt yX6_byteAt, Cond.code yX6_byteAt cX6_byteAt 2 (some .int), Cond.fieldLink RX6 7 "TwoMetalsModel" "text" "[I", Cond.methodLink RX6 75 yX6_realmItem, Cond.instanceMethod yX6_realmItem, Cond.selects RX6 yX6_realmItem yX6_realmItem, Cond.code yX6_realmItem cX6_realmItem 4 (some .boolean), Cond.methodLink RX6 66 yX6_figures, Cond.instanceMethod yX6_figures, Cond.selects RX6 yX6_figures yX6_figures, Cond.code yX6_figures cX6_figures 5 (some .boolean), Cond.constantLong RX6 60 (48), Cond.constantLong RX6 62 (57), Cond.constantLong RX6 64 (5), Cond.methodLink RX6 43 yX6_in, Cond.static yX6_in, Cond.code yX6_in cX6_in 6 (some .boolean), Cond.methodLink RX6 70 yX6_isRead, Cond.instanceMethod yX6_isRead, Cond.selects RX6 yX6_isRead yX6_isRead, Cond.code yX6_isRead cX6_isRead 2 (some .boolean), Cond.methodLink RX6 81 yX6_mineItem, Cond.instanceMethod yX6_mineItem]
def wsX6_fault_r3 : List Cond := [Cond.selects RX6 yX6_mineItem yX6_mineItem, Cond.code yX6_mineItem cX6_mineItem 3 (some .boolean), Cond.fieldLink RX6 26 "TwoMetalsModel" "mines" "[I"]
def wsX6_fault : List Cond := .code yX6_fault cX6_fault 1 (some .int) :: ((wsX6_fault_r1 ++ (wsX6_fault_r2 ++ wsX6_fault_r3)) ++ wsX60)
def wsX6_copy : List Cond := .code yX6_copy cX6_copy 4 none :: ([.fieldLink RX6 13 "TwoMetalsModel" "realms" "[J", .fieldLink RX6 17 "TwoMetalsModel" "markets" "[J"] ++ wsX60)
def wsX6_isRealm : List Cond := .code yX6_isRealm cX6_isRealm 2 (some .boolean) :: ([.constantLong RX6 107 (7), .fieldLink RX6 13 "TwoMetalsModel" "realms" "[J", .methodLink RX6 43 yX6_in, .static yX6_in, .initialized RX6, .code yX6_in cX6_in 6 (some .boolean)] ++ wsX60)
def wsX6_mints : List Cond := .code yX6_mints cX6_mints 2 (some .boolean) :: ([.fieldLink RX6 13 "TwoMetalsModel" "realms" "[J"] ++ wsX60)
def wsX6_realmMany : List Cond := .code yX6_realmMany cX6_realmMany 4 (some .int) :: ([.methodLink RX6 91 yX6_isRealm, .instanceMethod yX6_isRealm, .selects RX6 yX6_isRealm yX6_isRealm, .initialized RX6, .code yX6_isRealm cX6_isRealm 2 (some .boolean), .constantLong RX6 107 (7), .fieldLink RX6 13 "TwoMetalsModel" "realms" "[J", .methodLink RX6 43 yX6_in, .static yX6_in, .code yX6_in cX6_in 6 (some .boolean), .methodLink RX6 94 yX6_mints, .instanceMethod yX6_mints, .selects RX6 yX6_mints yX6_mints, .code yX6_mints cX6_mints 2 (some .boolean)] ++ wsX60)
def wsX6_lay_r1 : List Cond := [Cond.fieldLink RX6 20 "TwoMetalsModel" "scarce" "[I", Cond.fieldLink RX6 23 "TwoMetalsModel" "mineMany" "[I", Cond.fieldLink RX6 26 "TwoMetalsModel" "mines" "[I", Cond.fieldLink RX6 100 "TwoMetalsModel" "keptMany" "I", Cond.methodLink RX6 87 yX6_readAll, Cond.instanceMethod yX6_readAll, Cond.selects RX6 yX6_readAll yX6_readAll, Cond.initialized RX6, Cond.code yX6_readAll cX6_readAll 2 (some .int), Cond.fieldLink RX6 53 "TwoMetalsModel" "place" "I", Cond.fieldLink RX6 47 "TwoMetalsModel" "length" "I", Cond.methodLink RX6 35 yX6_noWorld, Cond.instanceMethod yX6_noWorld, Cond.selects RX6 yX6_noWorld yX6_noWorld, Cond.code yX6_noWorld cX6_noWorld 4 none, Cond.fieldLink RX6 13 "TwoMetalsModel" "realms" "[J", Cond.constantLong RX6 39 (-1), Cond.fieldLink RX6 17 "TwoMetalsModel" "markets" "[J", Cond.methodLink RX6 84 yX6_item, Cond.instanceMethod yX6_item, Cond.selects RX6 yX6_item yX6_item, Cond.code yX6_item cX6_item 2 (some .boolean), Cond.fieldLink RX6 29 "TwoMetalsModel" "numbers" "[I", Cond.constantLong RX6 73 (1000)]
def wsX6_lay_r2 : List Cond := [Cond.constantLong RX6 79 (9999), Cond.methodLink RX6 56 yX6_byteAt, Cond.instanceMethod yX6_byteAt, Cond.selects RX6 yX6_byteAt yX6_byteAt, Cond.code yX6_byteAt cX6_byteAt 2 (some .int), Cond.fieldLink RX6 7 "TwoMetalsModel" "text" "[I", Cond.methodLink RX6 75 yX6_realmItem, Cond.instanceMethod yX6_realmItem, Cond.selects RX6 yX6_realmItem yX6_realmItem, Cond.code yX6_realmItem cX6_realmItem 4 (some .boolean), Cond.methodLink RX6 66 yX6_figures, Cond.instanceMethod yX6_figures, Cond.selects RX6 yX6_figures yX6_figures, Cond.code yX6_figures cX6_figures 5 (some .boolean), Cond.constantLong RX6 60 (48), Cond.constantLong RX6 62 (57), Cond.constantLong RX6 64 (5), Cond.methodLink RX6 43 yX6_in, Cond.static yX6_in, Cond.code yX6_in cX6_in 6 (some .boolean), Cond.methodLink RX6 70 yX6_isRead, Cond.instanceMethod yX6_isRead, Cond.selects RX6 yX6_isRead yX6_isRead, Cond.code yX6_isRead cX6_isRead 2 (some .boolean)]
def wsX6_lay_r3 : List Cond := [Cond.methodLink RX6 81 yX6_mineItem, Cond.instanceMethod yX6_mineItem, Cond.selects RX6 yX6_mineItem yX6_mineItem, Cond.code yX6_mineItem cX6_mineItem 3 (some .boolean), Cond.methodLink RX6 97 yX6_copy, Cond.instanceMethod yX6_copy, Cond.selects RX6 yX6_copy yX6_copy, Cond.code yX6_copy cX6_copy 4 none, Cond.methodLink RX6 103 yX6_realmMany, Cond.instanceMethod yX6_realmMany, Cond.selects RX6 yX6_realmMany yX6_realmMany, Cond.code yX6_realmMany cX6_realmMany 4 (some .int), Cond.methodLink RX6 91 yX6_isRealm, Cond.instanceMethod yX6_isRealm, Cond.selects RX6 yX6_isRealm yX6_isRealm, Cond.code yX6_isRealm cX6_isRealm 2 (some .boolean), Cond.constantLong RX6 107 (7), Cond.methodLink RX6 94 yX6_mints, Cond.instanceMethod yX6_mints, Cond.selects RX6 yX6_mints yX6_mints, Cond.code yX6_mints cX6_mints 2 (some .boolean)]
def wsX6_lay : List Cond := .code yX6_lay cX6_lay 2 (some .int) :: ((wsX6_lay_r1 ++ (wsX6_lay_r2 ++ wsX6_lay_r3)) ++ wsX60)
def wsX6_realm : List Cond := .code yX6_realm cX6_realm 3 (some .long) :: ([.constantLong RX6 107 (7), .fieldLink RX6 13 "TwoMetalsModel" "realms" "[J", .constantLong RX6 39 (-1), .methodLink RX6 91 yX6_isRealm, .instanceMethod yX6_isRealm, .selects RX6 yX6_isRealm yX6_isRealm, .initialized RX6, .code yX6_isRealm cX6_isRealm 2 (some .boolean), .methodLink RX6 43 yX6_in, .static yX6_in, .code yX6_in cX6_in 6 (some .boolean)] ++ wsX60)
def wsX6_ratio : List Cond := .code yX6_ratio cX6_ratio 3 (some .long) :: ([.fieldLink RX6 17 "TwoMetalsModel" "markets" "[J", .constantLong RX6 109 (1000000), .fieldLink RX6 20 "TwoMetalsModel" "scarce" "[I", .constantLong RX6 73 (1000)] ++ wsX60)
def wsX6_market : List Cond := .code yX6_market cX6_market 2 (some .long) :: ([.fieldLink RX6 17 "TwoMetalsModel" "markets" "[J", .constantLong RX6 39 (-1), .methodLink RX6 111 yX6_ratio, .instanceMethod yX6_ratio, .selects RX6 yX6_ratio yX6_ratio, .initialized RX6, .code yX6_ratio cX6_ratio 3 (some .long), .constantLong RX6 109 (1000000), .fieldLink RX6 20 "TwoMetalsModel" "scarce" "[I", .constantLong RX6 73 (1000)] ++ wsX60)
def wsX6_above : List Cond := .code yX6_above cX6_above 2 (some .long) :: ([])
def wsX6_movesOf_r1 : List Cond := [Cond.fieldLink RX6 13 "TwoMetalsModel" "realms" "[J", Cond.fieldLink RX6 17 "TwoMetalsModel" "markets" "[J", Cond.constantLong RX6 73 (1000), Cond.methodLink RX6 91 yX6_isRealm, Cond.instanceMethod yX6_isRealm, Cond.selects RX6 yX6_isRealm yX6_isRealm, Cond.initialized RX6, Cond.code yX6_isRealm cX6_isRealm 2 (some .boolean), Cond.constantLong RX6 107 (7), Cond.methodLink RX6 43 yX6_in, Cond.static yX6_in, Cond.code yX6_in cX6_in 6 (some .boolean), Cond.methodLink RX6 94 yX6_mints, Cond.instanceMethod yX6_mints, Cond.selects RX6 yX6_mints yX6_mints, Cond.code yX6_mints cX6_mints 2 (some .boolean), Cond.methodLink RX6 111 yX6_ratio, Cond.instanceMethod yX6_ratio, Cond.selects RX6 yX6_ratio yX6_ratio, Cond.code yX6_ratio cX6_ratio 3 (some .long), Cond.constantLong RX6 109 (1000000), Cond.fieldLink RX6 20 "TwoMetalsModel" "scarce" "[I", Cond.methodLink RX6 115 yX6_above, Cond.static yX6_above]
def wsX6_movesOf_r2 : List Cond := [Cond.code yX6_above cX6_above 2 (some .long)]
def wsX6_movesOf : List Cond := .code yX6_movesOf cX6_movesOf 7 (some .int) :: ((wsX6_movesOf_r1 ++ wsX6_movesOf_r2) ++ wsX60)
def wsX6_moves_r1 : List Cond := [Cond.methodLink RX6 91 yX6_isRealm, Cond.instanceMethod yX6_isRealm, Cond.selects RX6 yX6_isRealm yX6_isRealm, Cond.initialized RX6, Cond.code yX6_isRealm cX6_isRealm 2 (some .boolean), Cond.constantLong RX6 107 (7), Cond.fieldLink RX6 13 "TwoMetalsModel" "realms" "[J", Cond.methodLink RX6 43 yX6_in, Cond.static yX6_in, Cond.code yX6_in cX6_in 6 (some .boolean), Cond.methodLink RX6 119 yX6_movesOf, Cond.instanceMethod yX6_movesOf, Cond.selects RX6 yX6_movesOf yX6_movesOf, Cond.code yX6_movesOf cX6_movesOf 7 (some .int), Cond.fieldLink RX6 17 "TwoMetalsModel" "markets" "[J", Cond.constantLong RX6 73 (1000), Cond.methodLink RX6 94 yX6_mints, Cond.instanceMethod yX6_mints, Cond.selects RX6 yX6_mints yX6_mints, Cond.code yX6_mints cX6_mints 2 (some .boolean), Cond.methodLink RX6 111 yX6_ratio, Cond.instanceMethod yX6_ratio, Cond.selects RX6 yX6_ratio yX6_ratio, Cond.code yX6_ratio cX6_ratio 3 (some .long)]
def wsX6_moves_r2 : List Cond := [Cond.constantLong RX6 109 (1000000), Cond.fieldLink RX6 20 "TwoMetalsModel" "scarce" "[I", Cond.methodLink RX6 115 yX6_above, Cond.static yX6_above, Cond.code yX6_above cX6_above 2 (some .long)]
def wsX6_moves : List Cond := .code yX6_moves cX6_moves 2 (some .int) :: ((wsX6_moves_r1 ++ wsX6_moves_r2) ++ wsX60)
def wsX6_endOf : List Cond := .code yX6_endOf cX6_endOf 11 (some .long) :: ([.fieldLink RX6 13 "TwoMetalsModel" "realms" "[J", .constantLong RX6 73 (1000), .constantLong RX6 109 (1000000), .constantLong RX6 122 (999), .methodLink RX6 115 yX6_above, .static yX6_above, .initialized RX6, .code yX6_above cX6_above 2 (some .long)] ++ wsX60)
def wsX6_ends : List Cond := .code yX6_ends cX6_ends 3 (some .int) :: ([.methodLink RX6 91 yX6_isRealm, .instanceMethod yX6_isRealm, .selects RX6 yX6_isRealm yX6_isRealm, .initialized RX6, .code yX6_isRealm cX6_isRealm 2 (some .boolean), .constantLong RX6 107 (7), .fieldLink RX6 13 "TwoMetalsModel" "realms" "[J", .methodLink RX6 43 yX6_in, .static yX6_in, .code yX6_in cX6_in 6 (some .boolean), .methodLink RX6 124 yX6_endOf, .instanceMethod yX6_endOf, .selects RX6 yX6_endOf yX6_endOf, .code yX6_endOf cX6_endOf 11 (some .long), .constantLong RX6 73 (1000), .constantLong RX6 109 (1000000), .constantLong RX6 122 (999), .methodLink RX6 115 yX6_above, .static yX6_above, .code yX6_above cX6_above 2 (some .long)] ++ wsX60)
def wsX6_holdsRatio_r1 : List Cond := [Cond.fieldLink RX6 13 "TwoMetalsModel" "realms" "[J", Cond.methodLink RX6 111 yX6_ratio, Cond.instanceMethod yX6_ratio, Cond.selects RX6 yX6_ratio yX6_ratio, Cond.initialized RX6, Cond.code yX6_ratio cX6_ratio 3 (some .long), Cond.fieldLink RX6 17 "TwoMetalsModel" "markets" "[J", Cond.constantLong RX6 109 (1000000), Cond.fieldLink RX6 20 "TwoMetalsModel" "scarce" "[I", Cond.constantLong RX6 73 (1000), Cond.methodLink RX6 91 yX6_isRealm, Cond.instanceMethod yX6_isRealm, Cond.selects RX6 yX6_isRealm yX6_isRealm, Cond.code yX6_isRealm cX6_isRealm 2 (some .boolean), Cond.constantLong RX6 107 (7), Cond.methodLink RX6 43 yX6_in, Cond.static yX6_in, Cond.code yX6_in cX6_in 6 (some .boolean), Cond.methodLink RX6 94 yX6_mints, Cond.instanceMethod yX6_mints, Cond.selects RX6 yX6_mints yX6_mints, Cond.code yX6_mints cX6_mints 2 (some .boolean), Cond.methodLink RX6 124 yX6_endOf, Cond.instanceMethod yX6_endOf]
def wsX6_holdsRatio_r2 : List Cond := [Cond.selects RX6 yX6_endOf yX6_endOf, Cond.code yX6_endOf cX6_endOf 11 (some .long), Cond.constantLong RX6 122 (999), Cond.methodLink RX6 115 yX6_above, Cond.static yX6_above, Cond.code yX6_above cX6_above 2 (some .long)]
def wsX6_holdsRatio : List Cond := .code yX6_holdsRatio cX6_holdsRatio 4 (some .boolean) :: ((wsX6_holdsRatio_r1 ++ wsX6_holdsRatio_r2) ++ wsX60)
def wsX6_held_r1 : List Cond := [Cond.methodLink RX6 128 yX6_holdsRatio, Cond.instanceMethod yX6_holdsRatio, Cond.selects RX6 yX6_holdsRatio yX6_holdsRatio, Cond.initialized RX6, Cond.code yX6_holdsRatio cX6_holdsRatio 4 (some .boolean), Cond.fieldLink RX6 13 "TwoMetalsModel" "realms" "[J", Cond.methodLink RX6 111 yX6_ratio, Cond.instanceMethod yX6_ratio, Cond.selects RX6 yX6_ratio yX6_ratio, Cond.code yX6_ratio cX6_ratio 3 (some .long), Cond.fieldLink RX6 17 "TwoMetalsModel" "markets" "[J", Cond.constantLong RX6 109 (1000000), Cond.fieldLink RX6 20 "TwoMetalsModel" "scarce" "[I", Cond.constantLong RX6 73 (1000), Cond.methodLink RX6 91 yX6_isRealm, Cond.instanceMethod yX6_isRealm, Cond.selects RX6 yX6_isRealm yX6_isRealm, Cond.code yX6_isRealm cX6_isRealm 2 (some .boolean), Cond.constantLong RX6 107 (7), Cond.methodLink RX6 43 yX6_in, Cond.static yX6_in, Cond.code yX6_in cX6_in 6 (some .boolean), Cond.methodLink RX6 94 yX6_mints, Cond.instanceMethod yX6_mints]
def wsX6_held_r2 : List Cond := [Cond.selects RX6 yX6_mints yX6_mints, Cond.code yX6_mints cX6_mints 2 (some .boolean), Cond.methodLink RX6 124 yX6_endOf, Cond.instanceMethod yX6_endOf, Cond.selects RX6 yX6_endOf yX6_endOf, Cond.code yX6_endOf cX6_endOf 11 (some .long), Cond.constantLong RX6 122 (999), Cond.methodLink RX6 115 yX6_above, Cond.static yX6_above, Cond.code yX6_above cX6_above 2 (some .long)]
def wsX6_held : List Cond := .code yX6_held cX6_held 3 (some .int) :: ((wsX6_held_r1 ++ wsX6_held_r2) ++ wsX60)
def wsX6_moveSack : List Cond := .code yX6_moveSack cX6_moveSack 6 none :: ([.constantLong RX6 39 (-1), .fieldLink RX6 13 "TwoMetalsModel" "realms" "[J", .fieldLink RX6 17 "TwoMetalsModel" "markets" "[J"] ++ wsX60)
def wsX6_goYear_r1 : List Cond := [Cond.fieldLink RX6 23 "TwoMetalsModel" "mineMany" "[I", Cond.fieldLink RX6 26 "TwoMetalsModel" "mines" "[I", Cond.fieldLink RX6 17 "TwoMetalsModel" "markets" "[J", Cond.constantLong RX6 73 (1000), Cond.fieldLink RX6 32 "TwoMetalsModel" "moved" "[I", Cond.fieldLink RX6 13 "TwoMetalsModel" "realms" "[J", Cond.methodLink RX6 91 yX6_isRealm, Cond.instanceMethod yX6_isRealm, Cond.selects RX6 yX6_isRealm yX6_isRealm, Cond.initialized RX6, Cond.code yX6_isRealm cX6_isRealm 2 (some .boolean), Cond.constantLong RX6 107 (7), Cond.methodLink RX6 43 yX6_in, Cond.static yX6_in, Cond.code yX6_in cX6_in 6 (some .boolean), Cond.methodLink RX6 119 yX6_movesOf, Cond.instanceMethod yX6_movesOf, Cond.selects RX6 yX6_movesOf yX6_movesOf, Cond.code yX6_movesOf cX6_movesOf 7 (some .int), Cond.methodLink RX6 94 yX6_mints, Cond.instanceMethod yX6_mints, Cond.selects RX6 yX6_mints yX6_mints, Cond.code yX6_mints cX6_mints 2 (some .boolean), Cond.methodLink RX6 111 yX6_ratio]
def wsX6_goYear_r2 : List Cond := [Cond.instanceMethod yX6_ratio, Cond.selects RX6 yX6_ratio yX6_ratio, Cond.code yX6_ratio cX6_ratio 3 (some .long), Cond.constantLong RX6 109 (1000000), Cond.fieldLink RX6 20 "TwoMetalsModel" "scarce" "[I", Cond.methodLink RX6 115 yX6_above, Cond.static yX6_above, Cond.code yX6_above cX6_above 2 (some .long), Cond.methodLink RX6 131 yX6_moveSack, Cond.instanceMethod yX6_moveSack, Cond.selects RX6 yX6_moveSack yX6_moveSack, Cond.code yX6_moveSack cX6_moveSack 6 none, Cond.constantLong RX6 39 (-1)]
def wsX6_goYear : List Cond := .code yX6_goYear cX6_goYear 6 (some .int) :: ((wsX6_goYear_r1 ++ wsX6_goYear_r2) ++ wsX60)
def wsX6_year_r1 : List Cond := [Cond.methodLink RX6 134 yX6_goYear, Cond.instanceMethod yX6_goYear, Cond.selects RX6 yX6_goYear yX6_goYear, Cond.initialized RX6, Cond.code yX6_goYear cX6_goYear 6 (some .int), Cond.fieldLink RX6 23 "TwoMetalsModel" "mineMany" "[I", Cond.fieldLink RX6 26 "TwoMetalsModel" "mines" "[I", Cond.fieldLink RX6 17 "TwoMetalsModel" "markets" "[J", Cond.constantLong RX6 73 (1000), Cond.fieldLink RX6 32 "TwoMetalsModel" "moved" "[I", Cond.fieldLink RX6 13 "TwoMetalsModel" "realms" "[J", Cond.methodLink RX6 91 yX6_isRealm, Cond.instanceMethod yX6_isRealm, Cond.selects RX6 yX6_isRealm yX6_isRealm, Cond.code yX6_isRealm cX6_isRealm 2 (some .boolean), Cond.constantLong RX6 107 (7), Cond.methodLink RX6 43 yX6_in, Cond.static yX6_in, Cond.code yX6_in cX6_in 6 (some .boolean), Cond.methodLink RX6 119 yX6_movesOf, Cond.instanceMethod yX6_movesOf, Cond.selects RX6 yX6_movesOf yX6_movesOf, Cond.code yX6_movesOf cX6_movesOf 7 (some .int), Cond.methodLink RX6 94 yX6_mints]
def wsX6_year_r2 : List Cond := [Cond.instanceMethod yX6_mints, Cond.selects RX6 yX6_mints yX6_mints, Cond.code yX6_mints cX6_mints 2 (some .boolean), Cond.methodLink RX6 111 yX6_ratio, Cond.instanceMethod yX6_ratio, Cond.selects RX6 yX6_ratio yX6_ratio, Cond.code yX6_ratio cX6_ratio 3 (some .long), Cond.constantLong RX6 109 (1000000), Cond.fieldLink RX6 20 "TwoMetalsModel" "scarce" "[I", Cond.methodLink RX6 115 yX6_above, Cond.static yX6_above, Cond.code yX6_above cX6_above 2 (some .long), Cond.methodLink RX6 131 yX6_moveSack, Cond.instanceMethod yX6_moveSack, Cond.selects RX6 yX6_moveSack yX6_moveSack, Cond.code yX6_moveSack cX6_moveSack 6 none, Cond.constantLong RX6 39 (-1)]
def wsX6_year : List Cond := .code yX6_year cX6_year 1 (some .int) :: ((wsX6_year_r1 ++ wsX6_year_r2) ++ wsX60)
def wsX6_goRest_r1 : List Cond := [Cond.constant RX6 137 (200000), Cond.methodLink RX6 119 yX6_movesOf, Cond.instanceMethod yX6_movesOf, Cond.selects RX6 yX6_movesOf yX6_movesOf, Cond.initialized RX6, Cond.code yX6_movesOf cX6_movesOf 7 (some .int), Cond.fieldLink RX6 13 "TwoMetalsModel" "realms" "[J", Cond.fieldLink RX6 17 "TwoMetalsModel" "markets" "[J", Cond.constantLong RX6 73 (1000), Cond.methodLink RX6 91 yX6_isRealm, Cond.instanceMethod yX6_isRealm, Cond.selects RX6 yX6_isRealm yX6_isRealm, Cond.code yX6_isRealm cX6_isRealm 2 (some .boolean), Cond.constantLong RX6 107 (7), Cond.methodLink RX6 43 yX6_in, Cond.static yX6_in, Cond.code yX6_in cX6_in 6 (some .boolean), Cond.methodLink RX6 94 yX6_mints, Cond.instanceMethod yX6_mints, Cond.selects RX6 yX6_mints yX6_mints, Cond.code yX6_mints cX6_mints 2 (some .boolean), Cond.methodLink RX6 111 yX6_ratio, Cond.instanceMethod yX6_ratio, Cond.selects RX6 yX6_ratio yX6_ratio]
def wsX6_goRest_r2 : List Cond := [Cond.code yX6_ratio cX6_ratio 3 (some .long), Cond.constantLong RX6 109 (1000000), Cond.fieldLink RX6 20 "TwoMetalsModel" "scarce" "[I", Cond.methodLink RX6 115 yX6_above, Cond.static yX6_above, Cond.code yX6_above cX6_above 2 (some .long), Cond.methodLink RX6 131 yX6_moveSack, Cond.instanceMethod yX6_moveSack, Cond.selects RX6 yX6_moveSack yX6_moveSack, Cond.code yX6_moveSack cX6_moveSack 6 none, Cond.constantLong RX6 39 (-1)]
def wsX6_goRest : List Cond := .code yX6_goRest cX6_goRest 5 (some .int) :: ((wsX6_goRest_r1 ++ wsX6_goRest_r2) ++ wsX60)
def wsX6_rest_r1 : List Cond := [Cond.methodLink RX6 97 yX6_copy, Cond.instanceMethod yX6_copy, Cond.selects RX6 yX6_copy yX6_copy, Cond.initialized RX6, Cond.code yX6_copy cX6_copy 4 none, Cond.fieldLink RX6 13 "TwoMetalsModel" "realms" "[J", Cond.fieldLink RX6 17 "TwoMetalsModel" "markets" "[J", Cond.methodLink RX6 138 yX6_goRest, Cond.instanceMethod yX6_goRest, Cond.selects RX6 yX6_goRest yX6_goRest, Cond.code yX6_goRest cX6_goRest 5 (some .int), Cond.constant RX6 137 (200000), Cond.methodLink RX6 119 yX6_movesOf, Cond.instanceMethod yX6_movesOf, Cond.selects RX6 yX6_movesOf yX6_movesOf, Cond.code yX6_movesOf cX6_movesOf 7 (some .int), Cond.constantLong RX6 73 (1000), Cond.methodLink RX6 91 yX6_isRealm, Cond.instanceMethod yX6_isRealm, Cond.selects RX6 yX6_isRealm yX6_isRealm, Cond.code yX6_isRealm cX6_isRealm 2 (some .boolean), Cond.constantLong RX6 107 (7), Cond.methodLink RX6 43 yX6_in, Cond.static yX6_in]
def wsX6_rest_r2 : List Cond := [Cond.code yX6_in cX6_in 6 (some .boolean), Cond.methodLink RX6 94 yX6_mints, Cond.instanceMethod yX6_mints, Cond.selects RX6 yX6_mints yX6_mints, Cond.code yX6_mints cX6_mints 2 (some .boolean), Cond.methodLink RX6 111 yX6_ratio, Cond.instanceMethod yX6_ratio, Cond.selects RX6 yX6_ratio yX6_ratio, Cond.code yX6_ratio cX6_ratio 3 (some .long), Cond.constantLong RX6 109 (1000000), Cond.fieldLink RX6 20 "TwoMetalsModel" "scarce" "[I", Cond.methodLink RX6 115 yX6_above, Cond.static yX6_above, Cond.code yX6_above cX6_above 2 (some .long), Cond.methodLink RX6 131 yX6_moveSack, Cond.instanceMethod yX6_moveSack, Cond.selects RX6 yX6_moveSack yX6_moveSack, Cond.code yX6_moveSack cX6_moveSack 6 none, Cond.constantLong RX6 39 (-1)]
def wsX6_rest : List Cond := .code yX6_rest cX6_rest 2 (some .int) :: ((wsX6_rest_r1 ++ wsX6_rest_r2) ++ wsX60)
def wsX6_areYears : List Cond := .code yX6_areYears cX6_areYears 1 (some .boolean) :: ([.constantLong RX6 141 (100), .methodLink RX6 43 yX6_in, .static yX6_in, .initialized RX6, .code yX6_in cX6_in 6 (some .boolean)])
def wsX6_gone_r1 : List Cond := [Cond.fieldLink RX6 13 "TwoMetalsModel" "realms" "[J", Cond.methodLink RX6 91 yX6_isRealm, Cond.instanceMethod yX6_isRealm, Cond.selects RX6 yX6_isRealm yX6_isRealm, Cond.initialized RX6, Cond.code yX6_isRealm cX6_isRealm 2 (some .boolean), Cond.constantLong RX6 107 (7), Cond.methodLink RX6 43 yX6_in, Cond.static yX6_in, Cond.code yX6_in cX6_in 6 (some .boolean), Cond.methodLink RX6 143 yX6_areYears, Cond.static yX6_areYears, Cond.code yX6_areYears cX6_areYears 1 (some .boolean), Cond.constantLong RX6 141 (100), Cond.methodLink RX6 97 yX6_copy, Cond.instanceMethod yX6_copy, Cond.selects RX6 yX6_copy yX6_copy, Cond.code yX6_copy cX6_copy 4 none, Cond.fieldLink RX6 17 "TwoMetalsModel" "markets" "[J", Cond.methodLink RX6 134 yX6_goYear, Cond.instanceMethod yX6_goYear, Cond.selects RX6 yX6_goYear yX6_goYear, Cond.code yX6_goYear cX6_goYear 6 (some .int), Cond.fieldLink RX6 23 "TwoMetalsModel" "mineMany" "[I"]
def wsX6_gone_r2 : List Cond := [Cond.fieldLink RX6 26 "TwoMetalsModel" "mines" "[I", Cond.constantLong RX6 73 (1000), Cond.fieldLink RX6 32 "TwoMetalsModel" "moved" "[I", Cond.methodLink RX6 119 yX6_movesOf, Cond.instanceMethod yX6_movesOf, Cond.selects RX6 yX6_movesOf yX6_movesOf, Cond.code yX6_movesOf cX6_movesOf 7 (some .int), Cond.methodLink RX6 94 yX6_mints, Cond.instanceMethod yX6_mints, Cond.selects RX6 yX6_mints yX6_mints, Cond.code yX6_mints cX6_mints 2 (some .boolean), Cond.methodLink RX6 111 yX6_ratio, Cond.instanceMethod yX6_ratio, Cond.selects RX6 yX6_ratio yX6_ratio, Cond.code yX6_ratio cX6_ratio 3 (some .long), Cond.constantLong RX6 109 (1000000), Cond.fieldLink RX6 20 "TwoMetalsModel" "scarce" "[I", Cond.methodLink RX6 115 yX6_above, Cond.static yX6_above, Cond.code yX6_above cX6_above 2 (some .long), Cond.methodLink RX6 131 yX6_moveSack, Cond.instanceMethod yX6_moveSack, Cond.selects RX6 yX6_moveSack yX6_moveSack, Cond.code yX6_moveSack cX6_moveSack 6 none]
def wsX6_gone_r3 : List Cond := [Cond.constantLong RX6 39 (-1)]
def wsX6_gone : List Cond := .code yX6_gone cX6_gone 7 (some .int) :: ((wsX6_gone_r1 ++ (wsX6_gone_r2 ++ wsX6_gone_r3)) ++ wsX60)
def wsX6_stopped_r1 : List Cond := [Cond.methodLink RX6 91 yX6_isRealm, Cond.instanceMethod yX6_isRealm, Cond.selects RX6 yX6_isRealm yX6_isRealm, Cond.initialized RX6, Cond.code yX6_isRealm cX6_isRealm 2 (some .boolean), Cond.constantLong RX6 107 (7), Cond.fieldLink RX6 13 "TwoMetalsModel" "realms" "[J", Cond.methodLink RX6 43 yX6_in, Cond.static yX6_in, Cond.code yX6_in cX6_in 6 (some .boolean), Cond.methodLink RX6 143 yX6_areYears, Cond.static yX6_areYears, Cond.code yX6_areYears cX6_areYears 1 (some .boolean), Cond.constantLong RX6 141 (100), Cond.methodLink RX6 94 yX6_mints, Cond.instanceMethod yX6_mints, Cond.selects RX6 yX6_mints yX6_mints, Cond.code yX6_mints cX6_mints 2 (some .boolean), Cond.methodLink RX6 97 yX6_copy, Cond.instanceMethod yX6_copy, Cond.selects RX6 yX6_copy yX6_copy, Cond.code yX6_copy cX6_copy 4 none, Cond.fieldLink RX6 17 "TwoMetalsModel" "markets" "[J", Cond.methodLink RX6 134 yX6_goYear]
def wsX6_stopped_r2 : List Cond := [Cond.instanceMethod yX6_goYear, Cond.selects RX6 yX6_goYear yX6_goYear, Cond.code yX6_goYear cX6_goYear 6 (some .int), Cond.fieldLink RX6 23 "TwoMetalsModel" "mineMany" "[I", Cond.fieldLink RX6 26 "TwoMetalsModel" "mines" "[I", Cond.constantLong RX6 73 (1000), Cond.fieldLink RX6 32 "TwoMetalsModel" "moved" "[I", Cond.methodLink RX6 119 yX6_movesOf, Cond.instanceMethod yX6_movesOf, Cond.selects RX6 yX6_movesOf yX6_movesOf, Cond.code yX6_movesOf cX6_movesOf 7 (some .int), Cond.methodLink RX6 111 yX6_ratio, Cond.instanceMethod yX6_ratio, Cond.selects RX6 yX6_ratio yX6_ratio, Cond.code yX6_ratio cX6_ratio 3 (some .long), Cond.constantLong RX6 109 (1000000), Cond.fieldLink RX6 20 "TwoMetalsModel" "scarce" "[I", Cond.methodLink RX6 115 yX6_above, Cond.static yX6_above, Cond.code yX6_above cX6_above 2 (some .long), Cond.methodLink RX6 131 yX6_moveSack, Cond.instanceMethod yX6_moveSack, Cond.selects RX6 yX6_moveSack yX6_moveSack, Cond.code yX6_moveSack cX6_moveSack 6 none]
def wsX6_stopped_r3 : List Cond := [Cond.constantLong RX6 39 (-1)]
def wsX6_stopped : List Cond := .code yX6_stopped cX6_stopped 5 (some .int) :: ((wsX6_stopped_r1 ++ (wsX6_stopped_r2 ++ wsX6_stopped_r3)) ++ wsX60)
def wsX6_free_r1 : List Cond := [Cond.methodLink RX6 143 yX6_areYears, Cond.static yX6_areYears, Cond.initialized RX6, Cond.code yX6_areYears cX6_areYears 1 (some .boolean), Cond.constantLong RX6 141 (100), Cond.methodLink RX6 43 yX6_in, Cond.static yX6_in, Cond.code yX6_in cX6_in 6 (some .boolean), Cond.methodLink RX6 97 yX6_copy, Cond.instanceMethod yX6_copy, Cond.selects RX6 yX6_copy yX6_copy, Cond.code yX6_copy cX6_copy 4 none, Cond.fieldLink RX6 13 "TwoMetalsModel" "realms" "[J", Cond.fieldLink RX6 17 "TwoMetalsModel" "markets" "[J", Cond.methodLink RX6 134 yX6_goYear, Cond.instanceMethod yX6_goYear, Cond.selects RX6 yX6_goYear yX6_goYear, Cond.code yX6_goYear cX6_goYear 6 (some .int), Cond.fieldLink RX6 23 "TwoMetalsModel" "mineMany" "[I", Cond.fieldLink RX6 26 "TwoMetalsModel" "mines" "[I", Cond.constantLong RX6 73 (1000), Cond.fieldLink RX6 32 "TwoMetalsModel" "moved" "[I", Cond.methodLink RX6 91 yX6_isRealm, Cond.instanceMethod yX6_isRealm]
def wsX6_free_r2 : List Cond := [Cond.selects RX6 yX6_isRealm yX6_isRealm, Cond.code yX6_isRealm cX6_isRealm 2 (some .boolean), Cond.constantLong RX6 107 (7), Cond.methodLink RX6 119 yX6_movesOf, Cond.instanceMethod yX6_movesOf, Cond.selects RX6 yX6_movesOf yX6_movesOf, Cond.code yX6_movesOf cX6_movesOf 7 (some .int), Cond.methodLink RX6 94 yX6_mints, Cond.instanceMethod yX6_mints, Cond.selects RX6 yX6_mints yX6_mints, Cond.code yX6_mints cX6_mints 2 (some .boolean), Cond.methodLink RX6 111 yX6_ratio, Cond.instanceMethod yX6_ratio, Cond.selects RX6 yX6_ratio yX6_ratio, Cond.code yX6_ratio cX6_ratio 3 (some .long), Cond.constantLong RX6 109 (1000000), Cond.fieldLink RX6 20 "TwoMetalsModel" "scarce" "[I", Cond.methodLink RX6 115 yX6_above, Cond.static yX6_above, Cond.code yX6_above cX6_above 2 (some .long), Cond.methodLink RX6 131 yX6_moveSack, Cond.instanceMethod yX6_moveSack, Cond.selects RX6 yX6_moveSack yX6_moveSack, Cond.code yX6_moveSack cX6_moveSack 6 none]
def wsX6_free_r3 : List Cond := [Cond.constantLong RX6 39 (-1), Cond.methodLink RX6 146 yX6_held, Cond.instanceMethod yX6_held, Cond.selects RX6 yX6_held yX6_held, Cond.code yX6_held cX6_held 3 (some .int), Cond.methodLink RX6 128 yX6_holdsRatio, Cond.instanceMethod yX6_holdsRatio, Cond.selects RX6 yX6_holdsRatio yX6_holdsRatio, Cond.code yX6_holdsRatio cX6_holdsRatio 4 (some .boolean), Cond.methodLink RX6 124 yX6_endOf, Cond.instanceMethod yX6_endOf, Cond.selects RX6 yX6_endOf yX6_endOf, Cond.code yX6_endOf cX6_endOf 11 (some .long), Cond.constantLong RX6 122 (999)]
def wsX6_free : List Cond := .code yX6_free cX6_free 4 (some .int) :: ((wsX6_free_r1 ++ (wsX6_free_r2 ++ wsX6_free_r3)) ++ wsX60)
def wsX6_ahead_r1 : List Cond := [Cond.methodLink RX6 143 yX6_areYears, Cond.static yX6_areYears, Cond.initialized RX6, Cond.code yX6_areYears cX6_areYears 1 (some .boolean), Cond.constantLong RX6 141 (100), Cond.methodLink RX6 43 yX6_in, Cond.static yX6_in, Cond.code yX6_in cX6_in 6 (some .boolean), Cond.methodLink RX6 97 yX6_copy, Cond.instanceMethod yX6_copy, Cond.selects RX6 yX6_copy yX6_copy, Cond.code yX6_copy cX6_copy 4 none, Cond.fieldLink RX6 13 "TwoMetalsModel" "realms" "[J", Cond.fieldLink RX6 17 "TwoMetalsModel" "markets" "[J", Cond.methodLink RX6 134 yX6_goYear, Cond.instanceMethod yX6_goYear, Cond.selects RX6 yX6_goYear yX6_goYear, Cond.code yX6_goYear cX6_goYear 6 (some .int), Cond.fieldLink RX6 23 "TwoMetalsModel" "mineMany" "[I", Cond.fieldLink RX6 26 "TwoMetalsModel" "mines" "[I", Cond.constantLong RX6 73 (1000), Cond.fieldLink RX6 32 "TwoMetalsModel" "moved" "[I", Cond.methodLink RX6 91 yX6_isRealm, Cond.instanceMethod yX6_isRealm]
def wsX6_ahead_r2 : List Cond := [Cond.selects RX6 yX6_isRealm yX6_isRealm, Cond.code yX6_isRealm cX6_isRealm 2 (some .boolean), Cond.constantLong RX6 107 (7), Cond.methodLink RX6 119 yX6_movesOf, Cond.instanceMethod yX6_movesOf, Cond.selects RX6 yX6_movesOf yX6_movesOf, Cond.code yX6_movesOf cX6_movesOf 7 (some .int), Cond.methodLink RX6 94 yX6_mints, Cond.instanceMethod yX6_mints, Cond.selects RX6 yX6_mints yX6_mints, Cond.code yX6_mints cX6_mints 2 (some .boolean), Cond.methodLink RX6 111 yX6_ratio, Cond.instanceMethod yX6_ratio, Cond.selects RX6 yX6_ratio yX6_ratio, Cond.code yX6_ratio cX6_ratio 3 (some .long), Cond.constantLong RX6 109 (1000000), Cond.fieldLink RX6 20 "TwoMetalsModel" "scarce" "[I", Cond.methodLink RX6 115 yX6_above, Cond.static yX6_above, Cond.code yX6_above cX6_above 2 (some .long), Cond.methodLink RX6 131 yX6_moveSack, Cond.instanceMethod yX6_moveSack, Cond.selects RX6 yX6_moveSack yX6_moveSack, Cond.code yX6_moveSack cX6_moveSack 6 none]
def wsX6_ahead_r3 : List Cond := [Cond.constantLong RX6 39 (-1)]
def wsX6_ahead : List Cond := .code yX6_ahead cX6_ahead 3 (some .int) :: ((wsX6_ahead_r1 ++ (wsX6_ahead_r2 ++ wsX6_ahead_r3)) ++ wsX60)
def wsX6_debt : List Cond := .code yX6_debt cX6_debt 5 (some .int) :: ([.constantLong RX6 149 (100000000), .fieldLink RX6 13 "TwoMetalsModel" "realms" "[J", .methodLink RX6 91 yX6_isRealm, .instanceMethod yX6_isRealm, .selects RX6 yX6_isRealm yX6_isRealm, .initialized RX6, .code yX6_isRealm cX6_isRealm 2 (some .boolean), .constantLong RX6 107 (7), .methodLink RX6 43 yX6_in, .static yX6_in, .code yX6_in cX6_in 6 (some .boolean), .methodLink RX6 94 yX6_mints, .instanceMethod yX6_mints, .selects RX6 yX6_mints yX6_mints, .code yX6_mints cX6_mints 2 (some .boolean), .methodLink RX6 111 yX6_ratio, .instanceMethod yX6_ratio, .selects RX6 yX6_ratio yX6_ratio, .code yX6_ratio cX6_ratio 3 (some .long), .fieldLink RX6 17 "TwoMetalsModel" "markets" "[J", .constantLong RX6 109 (1000000), .fieldLink RX6 20 "TwoMetalsModel" "scarce" "[I", .constantLong RX6 73 (1000)] ++ wsX60)
def wsX6_minting : List Cond := .code yX6_minting cX6_minting 3 (some .int) :: ([.methodLink RX6 91 yX6_isRealm, .instanceMethod yX6_isRealm, .selects RX6 yX6_isRealm yX6_isRealm, .initialized RX6, .code yX6_isRealm cX6_isRealm 2 (some .boolean), .constantLong RX6 107 (7), .fieldLink RX6 13 "TwoMetalsModel" "realms" "[J", .methodLink RX6 43 yX6_in, .static yX6_in, .code yX6_in cX6_in 6 (some .boolean), .methodLink RX6 94 yX6_mints, .instanceMethod yX6_mints, .selects RX6 yX6_mints yX6_mints, .code yX6_mints cX6_mints 2 (some .boolean)] ++ wsX60)
def wsX6_isRatio : List Cond := .code yX6_isRatio cX6_isRatio 1 (some .boolean) :: ([.constantLong RX6 73 (1000), .constantLong RX6 151 (99999), .methodLink RX6 43 yX6_in, .static yX6_in, .initialized RX6, .code yX6_in cX6_in 6 (some .boolean)])
def wsX6_pactOf_r1 : List Cond := [Cond.fieldLink RX6 13 "TwoMetalsModel" "realms" "[J", Cond.methodLink RX6 97 yX6_copy, Cond.instanceMethod yX6_copy, Cond.selects RX6 yX6_copy yX6_copy, Cond.initialized RX6, Cond.code yX6_copy cX6_copy 4 none, Cond.fieldLink RX6 17 "TwoMetalsModel" "markets" "[J", Cond.methodLink RX6 153 yX6_has, Cond.static yX6_has, Cond.code yX6_has cX6_has 2 (some .boolean), Cond.methodLink RX6 138 yX6_goRest, Cond.instanceMethod yX6_goRest, Cond.selects RX6 yX6_goRest yX6_goRest, Cond.code yX6_goRest cX6_goRest 5 (some .int), Cond.constant RX6 137 (200000), Cond.methodLink RX6 119 yX6_movesOf, Cond.instanceMethod yX6_movesOf, Cond.selects RX6 yX6_movesOf yX6_movesOf, Cond.code yX6_movesOf cX6_movesOf 7 (some .int), Cond.constantLong RX6 73 (1000), Cond.methodLink RX6 91 yX6_isRealm, Cond.instanceMethod yX6_isRealm, Cond.selects RX6 yX6_isRealm yX6_isRealm, Cond.code yX6_isRealm cX6_isRealm 2 (some .boolean)]
def wsX6_pactOf_r2 : List Cond := [Cond.constantLong RX6 107 (7), Cond.methodLink RX6 43 yX6_in, Cond.static yX6_in, Cond.code yX6_in cX6_in 6 (some .boolean), Cond.methodLink RX6 94 yX6_mints, Cond.instanceMethod yX6_mints, Cond.selects RX6 yX6_mints yX6_mints, Cond.code yX6_mints cX6_mints 2 (some .boolean), Cond.methodLink RX6 111 yX6_ratio, Cond.instanceMethod yX6_ratio, Cond.selects RX6 yX6_ratio yX6_ratio, Cond.code yX6_ratio cX6_ratio 3 (some .long), Cond.constantLong RX6 109 (1000000), Cond.fieldLink RX6 20 "TwoMetalsModel" "scarce" "[I", Cond.methodLink RX6 115 yX6_above, Cond.static yX6_above, Cond.code yX6_above cX6_above 2 (some .long), Cond.methodLink RX6 131 yX6_moveSack, Cond.instanceMethod yX6_moveSack, Cond.selects RX6 yX6_moveSack yX6_moveSack, Cond.code yX6_moveSack cX6_moveSack 6 none, Cond.constantLong RX6 39 (-1), Cond.methodLink RX6 146 yX6_held, Cond.instanceMethod yX6_held]
def wsX6_pactOf_r3 : List Cond := [Cond.selects RX6 yX6_held yX6_held, Cond.code yX6_held cX6_held 3 (some .int), Cond.methodLink RX6 128 yX6_holdsRatio, Cond.instanceMethod yX6_holdsRatio, Cond.selects RX6 yX6_holdsRatio yX6_holdsRatio, Cond.code yX6_holdsRatio cX6_holdsRatio 4 (some .boolean), Cond.methodLink RX6 124 yX6_endOf, Cond.instanceMethod yX6_endOf, Cond.selects RX6 yX6_endOf yX6_endOf, Cond.code yX6_endOf cX6_endOf 11 (some .long), Cond.constantLong RX6 122 (999)]
def wsX6_pactOf : List Cond := .code yX6_pactOf cX6_pactOf 6 (some .int) :: ((wsX6_pactOf_r1 ++ (wsX6_pactOf_r2 ++ wsX6_pactOf_r3)) ++ wsX60)
def wsX6_pact_r1 : List Cond := [Cond.methodLink RX6 157 yX6_minting, Cond.instanceMethod yX6_minting, Cond.selects RX6 yX6_minting yX6_minting, Cond.initialized RX6, Cond.code yX6_minting cX6_minting 3 (some .int), Cond.methodLink RX6 91 yX6_isRealm, Cond.instanceMethod yX6_isRealm, Cond.selects RX6 yX6_isRealm yX6_isRealm, Cond.code yX6_isRealm cX6_isRealm 2 (some .boolean), Cond.constantLong RX6 107 (7), Cond.fieldLink RX6 13 "TwoMetalsModel" "realms" "[J", Cond.methodLink RX6 43 yX6_in, Cond.static yX6_in, Cond.code yX6_in cX6_in 6 (some .boolean), Cond.methodLink RX6 94 yX6_mints, Cond.instanceMethod yX6_mints, Cond.selects RX6 yX6_mints yX6_mints, Cond.code yX6_mints cX6_mints 2 (some .boolean), Cond.methodLink RX6 160 yX6_isRatio, Cond.static yX6_isRatio, Cond.code yX6_isRatio cX6_isRatio 1 (some .boolean), Cond.constantLong RX6 73 (1000), Cond.constantLong RX6 151 (99999), Cond.methodLink RX6 163 yX6_pactOf]
def wsX6_pact_r2 : List Cond := [Cond.instanceMethod yX6_pactOf, Cond.selects RX6 yX6_pactOf yX6_pactOf, Cond.code yX6_pactOf cX6_pactOf 6 (some .int), Cond.methodLink RX6 97 yX6_copy, Cond.instanceMethod yX6_copy, Cond.selects RX6 yX6_copy yX6_copy, Cond.code yX6_copy cX6_copy 4 none, Cond.fieldLink RX6 17 "TwoMetalsModel" "markets" "[J", Cond.methodLink RX6 153 yX6_has, Cond.static yX6_has, Cond.code yX6_has cX6_has 2 (some .boolean), Cond.methodLink RX6 138 yX6_goRest, Cond.instanceMethod yX6_goRest, Cond.selects RX6 yX6_goRest yX6_goRest, Cond.code yX6_goRest cX6_goRest 5 (some .int), Cond.constant RX6 137 (200000), Cond.methodLink RX6 119 yX6_movesOf, Cond.instanceMethod yX6_movesOf, Cond.selects RX6 yX6_movesOf yX6_movesOf, Cond.code yX6_movesOf cX6_movesOf 7 (some .int), Cond.methodLink RX6 111 yX6_ratio, Cond.instanceMethod yX6_ratio, Cond.selects RX6 yX6_ratio yX6_ratio, Cond.code yX6_ratio cX6_ratio 3 (some .long)]
def wsX6_pact_r3 : List Cond := [Cond.constantLong RX6 109 (1000000), Cond.fieldLink RX6 20 "TwoMetalsModel" "scarce" "[I", Cond.methodLink RX6 115 yX6_above, Cond.static yX6_above, Cond.code yX6_above cX6_above 2 (some .long), Cond.methodLink RX6 131 yX6_moveSack, Cond.instanceMethod yX6_moveSack, Cond.selects RX6 yX6_moveSack yX6_moveSack, Cond.code yX6_moveSack cX6_moveSack 6 none, Cond.constantLong RX6 39 (-1), Cond.methodLink RX6 146 yX6_held, Cond.instanceMethod yX6_held, Cond.selects RX6 yX6_held yX6_held, Cond.code yX6_held cX6_held 3 (some .int), Cond.methodLink RX6 128 yX6_holdsRatio, Cond.instanceMethod yX6_holdsRatio, Cond.selects RX6 yX6_holdsRatio yX6_holdsRatio, Cond.code yX6_holdsRatio cX6_holdsRatio 4 (some .boolean), Cond.methodLink RX6 124 yX6_endOf, Cond.instanceMethod yX6_endOf, Cond.selects RX6 yX6_endOf yX6_endOf, Cond.code yX6_endOf cX6_endOf 11 (some .long), Cond.constantLong RX6 122 (999)]
def wsX6_pact : List Cond := .code yX6_pact cX6_pact 4 (some .int) :: ((wsX6_pact_r1 ++ (wsX6_pact_r2 ++ wsX6_pact_r3)) ++ wsX60)
def wsX6_fewest_r1 : List Cond := [Cond.methodLink RX6 160 yX6_isRatio, Cond.static yX6_isRatio, Cond.initialized RX6, Cond.code yX6_isRatio cX6_isRatio 1 (some .boolean), Cond.constantLong RX6 73 (1000), Cond.constantLong RX6 151 (99999), Cond.methodLink RX6 43 yX6_in, Cond.static yX6_in, Cond.code yX6_in cX6_in 6 (some .boolean), Cond.methodLink RX6 157 yX6_minting, Cond.instanceMethod yX6_minting, Cond.selects RX6 yX6_minting yX6_minting, Cond.code yX6_minting cX6_minting 3 (some .int), Cond.methodLink RX6 91 yX6_isRealm, Cond.instanceMethod yX6_isRealm, Cond.selects RX6 yX6_isRealm yX6_isRealm, Cond.code yX6_isRealm cX6_isRealm 2 (some .boolean), Cond.constantLong RX6 107 (7), Cond.fieldLink RX6 13 "TwoMetalsModel" "realms" "[J", Cond.methodLink RX6 94 yX6_mints, Cond.instanceMethod yX6_mints, Cond.selects RX6 yX6_mints yX6_mints, Cond.code yX6_mints cX6_mints 2 (some .boolean), Cond.methodLink RX6 167 yX6_bits]
def wsX6_fewest_r2 : List Cond := [Cond.static yX6_bits, Cond.code yX6_bits cX6_bits 3 (some .int), Cond.methodLink RX6 163 yX6_pactOf, Cond.instanceMethod yX6_pactOf, Cond.selects RX6 yX6_pactOf yX6_pactOf, Cond.code yX6_pactOf cX6_pactOf 6 (some .int), Cond.methodLink RX6 97 yX6_copy, Cond.instanceMethod yX6_copy, Cond.selects RX6 yX6_copy yX6_copy, Cond.code yX6_copy cX6_copy 4 none, Cond.fieldLink RX6 17 "TwoMetalsModel" "markets" "[J", Cond.methodLink RX6 153 yX6_has, Cond.static yX6_has, Cond.code yX6_has cX6_has 2 (some .boolean), Cond.methodLink RX6 138 yX6_goRest, Cond.instanceMethod yX6_goRest, Cond.selects RX6 yX6_goRest yX6_goRest, Cond.code yX6_goRest cX6_goRest 5 (some .int), Cond.constant RX6 137 (200000), Cond.methodLink RX6 119 yX6_movesOf, Cond.instanceMethod yX6_movesOf, Cond.selects RX6 yX6_movesOf yX6_movesOf, Cond.code yX6_movesOf cX6_movesOf 7 (some .int), Cond.methodLink RX6 111 yX6_ratio]
def wsX6_fewest_r3 : List Cond := [Cond.instanceMethod yX6_ratio, Cond.selects RX6 yX6_ratio yX6_ratio, Cond.code yX6_ratio cX6_ratio 3 (some .long), Cond.constantLong RX6 109 (1000000), Cond.fieldLink RX6 20 "TwoMetalsModel" "scarce" "[I", Cond.methodLink RX6 115 yX6_above, Cond.static yX6_above, Cond.code yX6_above cX6_above 2 (some .long), Cond.methodLink RX6 131 yX6_moveSack, Cond.instanceMethod yX6_moveSack, Cond.selects RX6 yX6_moveSack yX6_moveSack, Cond.code yX6_moveSack cX6_moveSack 6 none, Cond.constantLong RX6 39 (-1), Cond.methodLink RX6 146 yX6_held, Cond.instanceMethod yX6_held, Cond.selects RX6 yX6_held yX6_held, Cond.code yX6_held cX6_held 3 (some .int), Cond.methodLink RX6 128 yX6_holdsRatio, Cond.instanceMethod yX6_holdsRatio, Cond.selects RX6 yX6_holdsRatio yX6_holdsRatio, Cond.code yX6_holdsRatio cX6_holdsRatio 4 (some .boolean), Cond.methodLink RX6 124 yX6_endOf, Cond.instanceMethod yX6_endOf, Cond.selects RX6 yX6_endOf yX6_endOf]
def wsX6_fewest_r4 : List Cond := [Cond.code yX6_endOf cX6_endOf 11 (some .long), Cond.constantLong RX6 122 (999)]
def wsX6_fewest : List Cond := .code yX6_fewest cX6_fewest 6 (some .int) :: ((wsX6_fewest_r1 ++ (wsX6_fewest_r2 ++ (wsX6_fewest_r3 ++ wsX6_fewest_r4))) ++ wsX60)
def wsX6_boughtOf_r1 : List Cond := [Cond.fieldLink RX6 17 "TwoMetalsModel" "markets" "[J", Cond.fieldLink RX6 13 "TwoMetalsModel" "realms" "[J", Cond.methodLink RX6 97 yX6_copy, Cond.instanceMethod yX6_copy, Cond.selects RX6 yX6_copy yX6_copy, Cond.initialized RX6, Cond.code yX6_copy cX6_copy 4 none, Cond.methodLink RX6 138 yX6_goRest, Cond.instanceMethod yX6_goRest, Cond.selects RX6 yX6_goRest yX6_goRest, Cond.code yX6_goRest cX6_goRest 5 (some .int), Cond.constant RX6 137 (200000), Cond.methodLink RX6 119 yX6_movesOf, Cond.instanceMethod yX6_movesOf, Cond.selects RX6 yX6_movesOf yX6_movesOf, Cond.code yX6_movesOf cX6_movesOf 7 (some .int), Cond.constantLong RX6 73 (1000), Cond.methodLink RX6 91 yX6_isRealm, Cond.instanceMethod yX6_isRealm, Cond.selects RX6 yX6_isRealm yX6_isRealm, Cond.code yX6_isRealm cX6_isRealm 2 (some .boolean), Cond.constantLong RX6 107 (7), Cond.methodLink RX6 43 yX6_in, Cond.static yX6_in]
def wsX6_boughtOf_r2 : List Cond := [Cond.code yX6_in cX6_in 6 (some .boolean), Cond.methodLink RX6 94 yX6_mints, Cond.instanceMethod yX6_mints, Cond.selects RX6 yX6_mints yX6_mints, Cond.code yX6_mints cX6_mints 2 (some .boolean), Cond.methodLink RX6 111 yX6_ratio, Cond.instanceMethod yX6_ratio, Cond.selects RX6 yX6_ratio yX6_ratio, Cond.code yX6_ratio cX6_ratio 3 (some .long), Cond.constantLong RX6 109 (1000000), Cond.fieldLink RX6 20 "TwoMetalsModel" "scarce" "[I", Cond.methodLink RX6 115 yX6_above, Cond.static yX6_above, Cond.code yX6_above cX6_above 2 (some .long), Cond.methodLink RX6 131 yX6_moveSack, Cond.instanceMethod yX6_moveSack, Cond.selects RX6 yX6_moveSack yX6_moveSack, Cond.code yX6_moveSack cX6_moveSack 6 none, Cond.constantLong RX6 39 (-1)]
def wsX6_boughtOf : List Cond := .code yX6_boughtOf cX6_boughtOf 6 (some .int) :: ((wsX6_boughtOf_r1 ++ wsX6_boughtOf_r2) ++ wsX60)
def wsX6_bought_r1 : List Cond := [Cond.fieldLink RX6 17 "TwoMetalsModel" "markets" "[J", Cond.methodLink RX6 43 yX6_in, Cond.static yX6_in, Cond.initialized RX6, Cond.code yX6_in cX6_in 6 (some .boolean), Cond.methodLink RX6 91 yX6_isRealm, Cond.instanceMethod yX6_isRealm, Cond.selects RX6 yX6_isRealm yX6_isRealm, Cond.code yX6_isRealm cX6_isRealm 2 (some .boolean), Cond.constantLong RX6 107 (7), Cond.fieldLink RX6 13 "TwoMetalsModel" "realms" "[J", Cond.methodLink RX6 170 yX6_boughtOf, Cond.instanceMethod yX6_boughtOf, Cond.selects RX6 yX6_boughtOf yX6_boughtOf, Cond.code yX6_boughtOf cX6_boughtOf 6 (some .int), Cond.methodLink RX6 97 yX6_copy, Cond.instanceMethod yX6_copy, Cond.selects RX6 yX6_copy yX6_copy, Cond.code yX6_copy cX6_copy 4 none, Cond.methodLink RX6 138 yX6_goRest, Cond.instanceMethod yX6_goRest, Cond.selects RX6 yX6_goRest yX6_goRest, Cond.code yX6_goRest cX6_goRest 5 (some .int), Cond.constant RX6 137 (200000)]
def wsX6_bought_r2 : List Cond := [Cond.methodLink RX6 119 yX6_movesOf, Cond.instanceMethod yX6_movesOf, Cond.selects RX6 yX6_movesOf yX6_movesOf, Cond.code yX6_movesOf cX6_movesOf 7 (some .int), Cond.constantLong RX6 73 (1000), Cond.methodLink RX6 94 yX6_mints, Cond.instanceMethod yX6_mints, Cond.selects RX6 yX6_mints yX6_mints, Cond.code yX6_mints cX6_mints 2 (some .boolean), Cond.methodLink RX6 111 yX6_ratio, Cond.instanceMethod yX6_ratio, Cond.selects RX6 yX6_ratio yX6_ratio, Cond.code yX6_ratio cX6_ratio 3 (some .long), Cond.constantLong RX6 109 (1000000), Cond.fieldLink RX6 20 "TwoMetalsModel" "scarce" "[I", Cond.methodLink RX6 115 yX6_above, Cond.static yX6_above, Cond.code yX6_above cX6_above 2 (some .long), Cond.methodLink RX6 131 yX6_moveSack, Cond.instanceMethod yX6_moveSack, Cond.selects RX6 yX6_moveSack yX6_moveSack, Cond.code yX6_moveSack cX6_moveSack 6 none, Cond.constantLong RX6 39 (-1)]
def wsX6_bought : List Cond := .code yX6_bought cX6_bought 3 (some .int) :: ((wsX6_bought_r1 ++ wsX6_bought_r2) ++ wsX60)
def wsX6_corner_r1 : List Cond := [Cond.fieldLink RX6 17 "TwoMetalsModel" "markets" "[J", Cond.constantLong RX6 174 (2), Cond.methodLink RX6 91 yX6_isRealm, Cond.instanceMethod yX6_isRealm, Cond.selects RX6 yX6_isRealm yX6_isRealm, Cond.initialized RX6, Cond.code yX6_isRealm cX6_isRealm 2 (some .boolean), Cond.constantLong RX6 107 (7), Cond.fieldLink RX6 13 "TwoMetalsModel" "realms" "[J", Cond.methodLink RX6 43 yX6_in, Cond.static yX6_in, Cond.code yX6_in cX6_in 6 (some .boolean), Cond.methodLink RX6 94 yX6_mints, Cond.instanceMethod yX6_mints, Cond.selects RX6 yX6_mints yX6_mints, Cond.code yX6_mints cX6_mints 2 (some .boolean), Cond.methodLink RX6 170 yX6_boughtOf, Cond.instanceMethod yX6_boughtOf, Cond.selects RX6 yX6_boughtOf yX6_boughtOf, Cond.code yX6_boughtOf cX6_boughtOf 6 (some .int), Cond.methodLink RX6 97 yX6_copy, Cond.instanceMethod yX6_copy, Cond.selects RX6 yX6_copy yX6_copy, Cond.code yX6_copy cX6_copy 4 none]
def wsX6_corner_r2 : List Cond := [Cond.methodLink RX6 138 yX6_goRest, Cond.instanceMethod yX6_goRest, Cond.selects RX6 yX6_goRest yX6_goRest, Cond.code yX6_goRest cX6_goRest 5 (some .int), Cond.constant RX6 137 (200000), Cond.methodLink RX6 119 yX6_movesOf, Cond.instanceMethod yX6_movesOf, Cond.selects RX6 yX6_movesOf yX6_movesOf, Cond.code yX6_movesOf cX6_movesOf 7 (some .int), Cond.constantLong RX6 73 (1000), Cond.methodLink RX6 111 yX6_ratio, Cond.instanceMethod yX6_ratio, Cond.selects RX6 yX6_ratio yX6_ratio, Cond.code yX6_ratio cX6_ratio 3 (some .long), Cond.constantLong RX6 109 (1000000), Cond.fieldLink RX6 20 "TwoMetalsModel" "scarce" "[I", Cond.methodLink RX6 115 yX6_above, Cond.static yX6_above, Cond.code yX6_above cX6_above 2 (some .long), Cond.methodLink RX6 131 yX6_moveSack, Cond.instanceMethod yX6_moveSack, Cond.selects RX6 yX6_moveSack yX6_moveSack, Cond.code yX6_moveSack cX6_moveSack 6 none, Cond.constantLong RX6 39 (-1)]
def wsX6_corner : List Cond := .code yX6_corner cX6_corner 6 (some .int) :: ((wsX6_corner_r1 ++ wsX6_corner_r2) ++ wsX60)
def wsX6_move : List Cond := .code yX6_move cX6_move 4 (some .int) :: ([.fieldLink RX6 13 "TwoMetalsModel" "realms" "[J", .methodLink RX6 91 yX6_isRealm, .instanceMethod yX6_isRealm, .selects RX6 yX6_isRealm yX6_isRealm, .initialized RX6, .code yX6_isRealm cX6_isRealm 2 (some .boolean), .constantLong RX6 107 (7), .methodLink RX6 43 yX6_in, .static yX6_in, .code yX6_in cX6_in 6 (some .boolean), .methodLink RX6 160 yX6_isRatio, .static yX6_isRatio, .code yX6_isRatio cX6_isRatio 1 (some .boolean), .constantLong RX6 73 (1000), .constantLong RX6 151 (99999)] ++ wsX60)
def wsX6_melted : List Cond := .code yX6_melted cX6_melted 3 (some .int) :: ([.fieldLink RX6 13 "TwoMetalsModel" "realms" "[J", .methodLink RX6 91 yX6_isRealm, .instanceMethod yX6_isRealm, .selects RX6 yX6_isRealm yX6_isRealm, .initialized RX6, .code yX6_isRealm cX6_isRealm 2 (some .boolean), .constantLong RX6 107 (7), .methodLink RX6 43 yX6_in, .static yX6_in, .code yX6_in cX6_in 6 (some .boolean), .methodLink RX6 111 yX6_ratio, .instanceMethod yX6_ratio, .selects RX6 yX6_ratio yX6_ratio, .code yX6_ratio cX6_ratio 3 (some .long), .fieldLink RX6 17 "TwoMetalsModel" "markets" "[J", .constantLong RX6 109 (1000000), .fieldLink RX6 20 "TwoMetalsModel" "scarce" "[I", .constantLong RX6 73 (1000)] ++ wsX60)
def wsX6_keep : List Cond := .code yX6_keep cX6_keep 1 (some .int) :: ([.fieldLink RX6 100 "TwoMetalsModel" "keptMany" "I", .methodLink RX6 97 yX6_copy, .instanceMethod yX6_copy, .selects RX6 yX6_copy yX6_copy, .initialized RX6, .code yX6_copy cX6_copy 4 none, .fieldLink RX6 13 "TwoMetalsModel" "realms" "[J", .fieldLink RX6 17 "TwoMetalsModel" "markets" "[J"] ++ wsX60)
def wsX6_back : List Cond := .code yX6_back cX6_back 1 (some .int) :: ([.fieldLink RX6 100 "TwoMetalsModel" "keptMany" "I", .methodLink RX6 97 yX6_copy, .instanceMethod yX6_copy, .selects RX6 yX6_copy yX6_copy, .initialized RX6, .code yX6_copy cX6_copy 4 none, .fieldLink RX6 13 "TwoMetalsModel" "realms" "[J", .fieldLink RX6 17 "TwoMetalsModel" "markets" "[J"] ++ wsX60)
def wsX6_count : List Cond := .code yX6_count cX6_count 5 (some .int) :: ([.fieldLink RX6 17 "TwoMetalsModel" "markets" "[J", .fieldLink RX6 47 "TwoMetalsModel" "length" "I", .fieldLink RX6 13 "TwoMetalsModel" "realms" "[J", .fieldLink RX6 100 "TwoMetalsModel" "keptMany" "I", .methodLink RX6 103 yX6_realmMany, .instanceMethod yX6_realmMany, .selects RX6 yX6_realmMany yX6_realmMany, .initialized RX6, .code yX6_realmMany cX6_realmMany 4 (some .int), .methodLink RX6 91 yX6_isRealm, .instanceMethod yX6_isRealm, .selects RX6 yX6_isRealm yX6_isRealm, .code yX6_isRealm cX6_isRealm 2 (some .boolean), .constantLong RX6 107 (7), .methodLink RX6 43 yX6_in, .static yX6_in, .code yX6_in cX6_in 6 (some .boolean), .methodLink RX6 94 yX6_mints, .instanceMethod yX6_mints, .selects RX6 yX6_mints yX6_mints, .code yX6_mints cX6_mints 2 (some .boolean)] ++ wsX60)
def wsJ9_max_7cf53 : List Cond := .code yJ9_max_7cf53 cJ9_max_7cf53 2 (some .int) :: ([])
def wsJ9_min_7cf53 : List Cond := .code yJ9_min_7cf53 cJ9_min_7cf53 2 (some .int) :: ([])
def wsJ9_min_f86c9 : List Cond := .code yJ9_min_f86c9 cJ9_min_f86c9 4 (some .long) :: ([])
def wsL_law_r1 : List Cond := [Cond.classLink RL 7 RX5, Cond.instantiable RX5 8, Cond.initialized RX5, Cond.classLink RL 10 RX6, Cond.instantiable RX6 11, Cond.initialized RX6, Cond.constantLong RL 13 (4294967295), Cond.methodLink RL 9 yX5_init, Cond.instanceMethod yX5_init, Cond.code yX5_init cX5_init 2 none, Cond.methodLink RX5 1 objectInit, Cond.instanceMethod objectInit, Cond.code objectInit ⟨#[0xb1]⟩ 1 none, Cond.classLink RX5 7 RX3, Cond.instantiable RX3 2, Cond.initialized RX3, Cond.fieldLink RX5 10 "TwoMetals" "text" "LTwoMetals$Text;", Cond.classLink RX5 16 RX2, Cond.instantiable RX2 4, Cond.initialized RX2, Cond.fieldLink RX5 19 "TwoMetals" "reader" "LTwoMetals$Reader;", Cond.classLink RX5 23 RX1, Cond.instantiable RX1 2, Cond.initialized RX1]
def wsL_law_r2 : List Cond := [Cond.fieldLink RX5 26 "TwoMetals" "mover" "LTwoMetals$Mover;", Cond.classLink RX5 30 RX0, Cond.instantiable RX0 3, Cond.initialized RX0, Cond.fieldLink RX5 33 "TwoMetals" "mines" "LTwoMetals$Mines;", Cond.classLink RX5 37 RX4, Cond.instantiable RX4 17, Cond.initialized RX4, Cond.fieldLink RX5 40 "TwoMetals" "now" "LTwoMetals$World;", Cond.fieldLink RX5 44 "TwoMetals" "trial" "LTwoMetals$World;", Cond.fieldLink RX5 47 "TwoMetals" "kept" "[LTwoMetals$World;", Cond.fieldLink RX5 51 "TwoMetals" "keptCount" "I", Cond.instanceMethod yX3_init, Cond.code yX3_init cX3_init 1 none, Cond.methodLink RX3 1 objectInit, Cond.arrayClass .byte, Cond.fieldLink RX3 9 "TwoMetals$Text" "bytes" "[B", Cond.fieldLink RX3 13 "TwoMetals$Text" "length" "I", Cond.instanceMethod yX2_init, Cond.code yX2_init cX2_init 1 none, Cond.methodLink RX2 3 objectInit, Cond.classLink RX2 9 RX4, Cond.fieldLink RX2 12 "TwoMetals$Reader" "world" "LTwoMetals$World;", Cond.classLink RX2 18 RX0]
def wsL_law_r3 : List Cond := [Cond.fieldLink RX2 21 "TwoMetals$Reader" "mines" "LTwoMetals$Mines;", Cond.arrayClass .int, Cond.fieldLink RX2 25 "TwoMetals$Reader" "number" "[I", Cond.fieldLink RX2 29 "TwoMetals$Reader" "at" "I", Cond.instanceMethod yX4_init, Cond.code yX4_init cX4_init 1 none, Cond.methodLink RX4 3 objectInit, Cond.fieldLink RX4 9 "TwoMetals$World" "law" "[I", Cond.fieldLink RX4 15 "TwoMetals$World" "cut" "[I", Cond.fieldLink RX4 18 "TwoMetals$World" "way" "[I", Cond.fieldLink RX4 21 "TwoMetals$World" "yearly" "[I", Cond.fieldLink RX4 24 "TwoMetals$World" "stopAt" "[I", Cond.fieldLink RX4 27 "TwoMetals$World" "low" "[I", Cond.fieldLink RX4 30 "TwoMetals$World" "high" "[I", Cond.arrayClass .long, Cond.fieldLink RX4 33 "TwoMetals$World" "gold" "[J", Cond.fieldLink RX4 37 "TwoMetals$World" "silver" "[J", Cond.fieldLink RX4 40 "TwoMetals$World" "told" "I", Cond.fieldLink RX4 44 "TwoMetals$World" "minting" "I", Cond.fieldLink RX4 47 "TwoMetals$World" "limping" "I", Cond.fieldLink RX4 50 "TwoMetals$World" "marketGold" "J", Cond.fieldLink RX4 54 "TwoMetals$World" "marketSilver" "J", Cond.fieldLink RX4 57 "TwoMetals$World" "scarcity" "I", Cond.constant RX4 60 (1000000)]
def wsL_law_r4 : List Cond := [Cond.fieldLink RX4 61 "TwoMetals$World" "price" "I", Cond.fieldLink RX4 64 "TwoMetals$World" "age" "I", Cond.instanceMethod yX0_init, Cond.code yX0_init cX0_init 1 none, Cond.methodLink RX0 3 objectInit, Cond.fieldLink RX0 11 "TwoMetals$Mines" "told" "[I", Cond.fieldLink RX0 15 "TwoMetals$Mines" "gold" "[I", Cond.fieldLink RX0 18 "TwoMetals$Mines" "silver" "[I", Cond.instanceMethod yX1_init, Cond.code yX1_init cX1_init 1 none, Cond.methodLink RX1 5 objectInit, Cond.fieldLink RX1 11 "TwoMetals$Mover" "left" "[I", Cond.fieldLink RX1 15 "TwoMetals$Mover" "marked" "[J", Cond.methodLink RL 12 yX6_init, Cond.instanceMethod yX6_init, Cond.code yX6_init cX6_init 1 none, Cond.methodLink RX6 1 objectInit, Cond.fieldLink RX6 7 "TwoMetalsModel" "text" "[I", Cond.fieldLink RX6 13 "TwoMetalsModel" "realms" "[J", Cond.fieldLink RX6 17 "TwoMetalsModel" "markets" "[J", Cond.fieldLink RX6 20 "TwoMetalsModel" "scarce" "[I", Cond.fieldLink RX6 23 "TwoMetalsModel" "mineMany" "[I", Cond.fieldLink RX6 26 "TwoMetalsModel" "mines" "[I", Cond.fieldLink RX6 29 "TwoMetalsModel" "numbers" "[I"]
def wsL_law_r5 : List Cond := [Cond.fieldLink RX6 32 "TwoMetalsModel" "moved" "[I", Cond.methodLink RX6 35 yX6_noWorld, Cond.instanceMethod yX6_noWorld, Cond.selects RX6 yX6_noWorld yX6_noWorld, Cond.code yX6_noWorld cX6_noWorld 4 none, Cond.constantLong RX6 39 (-1), Cond.methodLink RL 15 yX5_write, Cond.instanceMethod yX5_write, Cond.selects RX5 yX5_write yX5_write, Cond.code yX5_write cX5_write 4 (some .int), Cond.fieldLink RX5 63 "TwoMetals$Text" "length" "I", Cond.methodLink RX5 55 yX3_hasRoomFor, Cond.instanceMethod yX3_hasRoomFor, Cond.selects RX3 yX3_hasRoomFor yX3_hasRoomFor, Cond.code yX3_hasRoomFor cX3_hasRoomFor 2 (some .boolean), Cond.methodLink RX5 59 yX3_append, Cond.instanceMethod yX3_append, Cond.selects RX3 yX3_append yX3_append, Cond.code yX3_append cX3_append 5 none, Cond.methodLink RL 19 yX6_write, Cond.instanceMethod yX6_write, Cond.selects RX6 yX6_write yX6_write, Cond.code yX6_write cX6_write 5 (some .int), Cond.constantLong RX6 41 (8)]
def wsL_law_r6 : List Cond := [Cond.fieldLink RX6 47 "TwoMetalsModel" "length" "I", Cond.constantLong RX6 51 (255), Cond.methodLink RX6 43 yX6_in, Cond.static yX6_in, Cond.code yX6_in cX6_in 6 (some .boolean), Cond.methodLink RL 20 yX5_wipe, Cond.instanceMethod yX5_wipe, Cond.selects RX5 yX5_wipe yX5_wipe, Cond.code yX5_wipe cX5_wipe 2 (some .int), Cond.methodLink RL 24 yX6_wipe, Cond.instanceMethod yX6_wipe, Cond.selects RX6 yX6_wipe yX6_wipe, Cond.code yX6_wipe cX6_wipe 2 (some .int), Cond.methodLink RL 25 yX5_fault, Cond.instanceMethod yX5_fault, Cond.selects RX5 yX5_fault yX5_fault, Cond.code yX5_fault cX5_fault 1 (some .int), Cond.methodLink RX5 66 yX2_firstFault, Cond.instanceMethod yX2_firstFault, Cond.selects RX2 yX2_firstFault yX2_firstFault, Cond.code yX2_firstFault cX2_firstFault 4 (some .int), Cond.fieldLink RX2 39 "TwoMetals$Text" "length" "I", Cond.methodLink RX2 33 yX4_clear, Cond.instanceMethod yX4_clear]
def wsL_law_r7 : List Cond := [Cond.selects RX4 yX4_clear yX4_clear, Cond.code yX4_clear cX4_clear 1 none, Cond.methodLink RX2 36 yX0_clear, Cond.instanceMethod yX0_clear, Cond.selects RX0 yX0_clear yX0_clear, Cond.code yX0_clear cX0_clear 1 none, Cond.methodLink RX0 21 yJ7_fill_53178, Cond.static yJ7_fill_53178, Cond.initialized RJ7, Cond.code yJ7_fill_53178 cJ7_fill_53178 4 none, Cond.methodLink RX2 42 yX2_readItem, Cond.instanceMethod yX2_readItem, Cond.selects RX2 yX2_readItem yX2_readItem, Cond.code yX2_readItem cX2_readItem 4 (some .boolean), Cond.fieldLink RX2 52 "TwoMetals$Text" "bytes" "[B", Cond.methodLink RX2 56 yX2_numbersBehind, Cond.static yX2_numbersBehind, Cond.code yX2_numbersBehind cX2_numbersBehind 1 (some .int), Cond.methodLink RX2 60 yX2_readNumbers, Cond.instanceMethod yX2_readNumbers, Cond.selects RX2 yX2_readNumbers yX2_readNumbers, Cond.code yX2_readNumbers cX2_readNumbers 5 (some .boolean), Cond.methodLink RX2 68 yX2_readNumber, Cond.instanceMethod yX2_readNumber]
def wsL_law_r8 : List Cond := [Cond.selects RX2 yX2_readNumber yX2_readNumber, Cond.code yX2_readNumber cX2_readNumber 5 (some .boolean), Cond.methodLink RX2 74 yX2_isFigure, Cond.static yX2_isFigure, Cond.code yX2_isFigure cX2_isFigure 1 (some .boolean), Cond.methodLink RX2 71 yX2_readSign, Cond.instanceMethod yX2_readSign, Cond.selects RX2 yX2_readSign yX2_readSign, Cond.code yX2_readSign cX2_readSign 3 (some .boolean), Cond.methodLink RX2 64 yX2_takeItem, Cond.instanceMethod yX2_takeItem, Cond.selects RX2 yX2_takeItem yX2_takeItem, Cond.code yX2_takeItem cX2_takeItem 2 (some .boolean), Cond.methodLink RX2 77 yX2_takeRealm, Cond.instanceMethod yX2_takeRealm, Cond.selects RX2 yX2_takeRealm yX2_takeRealm, Cond.code yX2_takeRealm cX2_takeRealm 5 (some .boolean), Cond.constant RX2 103 (99999), Cond.fieldLink RX2 106 "TwoMetals$World" "told" "I", Cond.fieldLink RX2 109 "TwoMetals$World" "minting" "I", Cond.fieldLink RX2 112 "TwoMetals$World" "cut" "[I", Cond.fieldLink RX2 115 "TwoMetals$World" "way" "[I", Cond.fieldLink RX2 122 "TwoMetals$World" "gold" "[J", Cond.fieldLink RX2 126 "TwoMetals$World" "silver" "[J"]
def wsL_law_r9 : List Cond := [Cond.constantLong RX2 129 (1000), Cond.fieldLink RX2 131 "TwoMetals$World" "yearly" "[I", Cond.fieldLink RX2 134 "TwoMetals$World" "stopAt" "[I", Cond.methodLink RX2 96 yX2_isWithin, Cond.instanceMethod yX2_isWithin, Cond.selects RX2 yX2_isWithin yX2_isWithin, Cond.code yX2_isWithin cX2_isWithin 4 (some .boolean), Cond.methodLink RX2 100 yX4_has, Cond.instanceMethod yX4_has, Cond.selects RX4 yX4_has yX4_has, Cond.code yX4_has cX4_has 2 (some .boolean), Cond.methodLink RX2 118 yX4_setLaw, Cond.instanceMethod yX4_setLaw, Cond.selects RX4 yX4_setLaw yX4_setLaw, Cond.code yX4_setLaw cX4_setLaw 8 none, Cond.constantLong RX4 73 (1000), Cond.methodLink RX4 75 Lib.Math.max.name, Cond.static Lib.Math.max.name, Cond.initialized "java/lang/Math", Cond.code Lib.Math.max.name Lib.Math.max.code 2 (some .int), Cond.constantLong RX4 81 (1000000), Cond.methodLink RX4 83 Lib.MathLoose.min_long.x, Cond.static Lib.MathLoose.min_long.x, Cond.code Lib.MathLoose.min_long.x Lib.MathLoose.min_long.code 4 (some .long)]
def wsL_law_r10 : List Cond := [Cond.methodLink RX2 81 yX2_takeLimp, Cond.instanceMethod yX2_takeLimp, Cond.selects RX2 yX2_takeLimp yX2_takeLimp, Cond.code yX2_takeLimp cX2_takeLimp 1 (some .boolean), Cond.fieldLink RX2 137 "TwoMetals$World" "limping" "I", Cond.methodLink RX2 84 yX2_takeStop, Cond.instanceMethod yX2_takeStop, Cond.selects RX2 yX2_takeStop yX2_takeStop, Cond.code yX2_takeStop cX2_takeStop 1 (some .boolean), Cond.methodLink RX2 87 yX2_takeMarket, Cond.instanceMethod yX2_takeMarket, Cond.selects RX2 yX2_takeMarket yX2_takeMarket, Cond.code yX2_takeMarket cX2_takeMarket 1 (some .boolean), Cond.fieldLink RX2 140 "TwoMetals$World" "marketGold" "J", Cond.fieldLink RX2 144 "TwoMetals$World" "marketSilver" "J", Cond.methodLink RX2 90 yX2_takeScarcity, Cond.instanceMethod yX2_takeScarcity, Cond.selects RX2 yX2_takeScarcity yX2_takeScarcity, Cond.code yX2_takeScarcity cX2_takeScarcity 1 (some .boolean), Cond.fieldLink RX2 147 "TwoMetals$World" "scarcity" "I", Cond.methodLink RX2 93 yX2_takeMines, Cond.instanceMethod yX2_takeMines, Cond.selects RX2 yX2_takeMines yX2_takeMines, Cond.code yX2_takeMines cX2_takeMines 1 (some .boolean)]
def wsL_law_r11 : List Cond := [Cond.methodLink RX2 150 yX0_tell, Cond.instanceMethod yX0_tell, Cond.selects RX0 yX0_tell yX0_tell, Cond.code yX0_tell cX0_tell 4 none, Cond.methodLink RX2 46 yX0_fillGaps, Cond.instanceMethod yX0_fillGaps, Cond.selects RX0 yX0_fillGaps yX0_fillGaps, Cond.code yX0_fillGaps cX0_fillGaps 2 none, Cond.methodLink RX2 49 yX4_weigh, Cond.instanceMethod yX4_weigh, Cond.selects RX4 yX4_weigh yX4_weigh, Cond.code yX4_weigh cX4_weigh 1 none, Cond.methodLink RL 28 yX6_fault, Cond.instanceMethod yX6_fault, Cond.selects RX6 yX6_fault yX6_fault, Cond.code yX6_fault cX6_fault 1 (some .int), Cond.methodLink RX6 87 yX6_readAll, Cond.instanceMethod yX6_readAll, Cond.selects RX6 yX6_readAll yX6_readAll, Cond.code yX6_readAll cX6_readAll 2 (some .int), Cond.fieldLink RX6 53 "TwoMetalsModel" "place" "I", Cond.methodLink RX6 84 yX6_item, Cond.instanceMethod yX6_item, Cond.selects RX6 yX6_item yX6_item]
def wsL_law_r12 : List Cond := [Cond.code yX6_item cX6_item 2 (some .boolean), Cond.constantLong RX6 73 (1000), Cond.constantLong RX6 79 (9999), Cond.methodLink RX6 56 yX6_byteAt, Cond.instanceMethod yX6_byteAt, Cond.selects RX6 yX6_byteAt yX6_byteAt, Cond.code yX6_byteAt cX6_byteAt 2 (some .int), Cond.methodLink RX6 75 yX6_realmItem, Cond.instanceMethod yX6_realmItem, Cond.selects RX6 yX6_realmItem yX6_realmItem, Cond.code yX6_realmItem cX6_realmItem 4 (some .boolean), Cond.methodLink RX6 66 yX6_figures, Cond.instanceMethod yX6_figures, Cond.selects RX6 yX6_figures yX6_figures, Cond.code yX6_figures cX6_figures 5 (some .boolean), Cond.constantLong RX6 60 (48), Cond.constantLong RX6 62 (57), Cond.constantLong RX6 64 (5), Cond.methodLink RX6 70 yX6_isRead, Cond.instanceMethod yX6_isRead, Cond.selects RX6 yX6_isRead yX6_isRead, Cond.code yX6_isRead cX6_isRead 2 (some .boolean), Cond.methodLink RX6 81 yX6_mineItem, Cond.instanceMethod yX6_mineItem]
def wsL_law_r13 : List Cond := [Cond.selects RX6 yX6_mineItem yX6_mineItem, Cond.code yX6_mineItem cX6_mineItem 3 (some .boolean), Cond.methodLink RL 29 yX5_lay, Cond.instanceMethod yX5_lay, Cond.selects RX5 yX5_lay yX5_lay, Cond.code yX5_lay cX5_lay 1 (some .int), Cond.fieldLink RX5 70 "TwoMetals$Reader" "world" "LTwoMetals$World;", Cond.fieldLink RX5 77 "TwoMetals$Reader" "mines" "LTwoMetals$Mines;", Cond.fieldLink RX5 81 "TwoMetals$World" "told" "I", Cond.methodLink RX5 73 yX4_copyFrom, Cond.instanceMethod yX4_copyFrom, Cond.selects RX4 yX4_copyFrom yX4_copyFrom, Cond.code yX4_copyFrom cX4_copyFrom 2 none, Cond.methodLink RX4 67 arraycopyName, Cond.native arraycopyName, Cond.static arraycopyName, Cond.initialized "java/lang/System", Cond.methodLink RX5 78 yX0_copyFrom, Cond.instanceMethod yX0_copyFrom, Cond.selects RX0 yX0_copyFrom yX0_copyFrom, Cond.code yX0_copyFrom cX0_copyFrom 2 none, Cond.methodLink RX0 27 arraycopyName, Cond.methodLink RX5 84 yJ6_bitCount_0f7a4, Cond.static yJ6_bitCount_0f7a4]
def wsL_law_r14 : List Cond := [Cond.initialized RJ6, Cond.code yJ6_bitCount_0f7a4 cJ6_bitCount_0f7a4 1 (some .int), Cond.constant RJ6 265 (1431655765), Cond.constant RJ6 266 (858993459), Cond.constant RJ6 267 (252645135), Cond.methodLink RL 32 yX6_lay, Cond.instanceMethod yX6_lay, Cond.selects RX6 yX6_lay yX6_lay, Cond.code yX6_lay cX6_lay 2 (some .int), Cond.fieldLink RX6 100 "TwoMetalsModel" "keptMany" "I", Cond.methodLink RX6 97 yX6_copy, Cond.instanceMethod yX6_copy, Cond.selects RX6 yX6_copy yX6_copy, Cond.code yX6_copy cX6_copy 4 none, Cond.methodLink RX6 103 yX6_realmMany, Cond.instanceMethod yX6_realmMany, Cond.selects RX6 yX6_realmMany yX6_realmMany, Cond.code yX6_realmMany cX6_realmMany 4 (some .int), Cond.methodLink RX6 91 yX6_isRealm, Cond.instanceMethod yX6_isRealm, Cond.selects RX6 yX6_isRealm yX6_isRealm, Cond.code yX6_isRealm cX6_isRealm 2 (some .boolean), Cond.constantLong RX6 107 (7), Cond.methodLink RX6 94 yX6_mints]
def wsL_law_r15 : List Cond := [Cond.instanceMethod yX6_mints, Cond.selects RX6 yX6_mints yX6_mints, Cond.code yX6_mints cX6_mints 2 (some .boolean), Cond.methodLink RL 33 yX5_realm, Cond.instanceMethod yX5_realm, Cond.selects RX5 yX5_realm yX5_realm, Cond.code yX5_realm cX5_realm 3 (some .long), Cond.constantLong RX5 93 (-1), Cond.fieldLink RX5 95 "TwoMetals$World" "law" "[I", Cond.fieldLink RX5 99 "TwoMetals$World" "cut" "[I", Cond.fieldLink RX5 102 "TwoMetals$World" "way" "[I", Cond.fieldLink RX5 105 "TwoMetals$World" "gold" "[J", Cond.fieldLink RX5 109 "TwoMetals$World" "silver" "[J", Cond.fieldLink RX5 112 "TwoMetals$World" "yearly" "[I", Cond.methodLink RX5 90 yX4_has, Cond.methodLink RX5 115 yX4_mints, Cond.instanceMethod yX4_mints, Cond.selects RX4 yX4_mints yX4_mints, Cond.code yX4_mints cX4_mints 2 (some .boolean), Cond.methodLink RX5 118 yX4_limps, Cond.instanceMethod yX4_limps, Cond.selects RX4 yX4_limps yX4_limps, Cond.code yX4_limps cX4_limps 2 (some .boolean), Cond.methodLink RL 37 yX6_realm]
def wsL_law_r16 : List Cond := [Cond.instanceMethod yX6_realm, Cond.selects RX6 yX6_realm yX6_realm, Cond.code yX6_realm cX6_realm 3 (some .long), Cond.methodLink RL 38 yX5_market, Cond.instanceMethod yX5_market, Cond.selects RX5 yX5_market yX5_market, Cond.code yX5_market cX5_market 2 (some .long), Cond.fieldLink RX5 121 "TwoMetals$World" "marketGold" "J", Cond.fieldLink RX5 125 "TwoMetals$World" "marketSilver" "J", Cond.fieldLink RX5 128 "TwoMetals$World" "price" "I", Cond.fieldLink RX5 131 "TwoMetals$World" "age" "I", Cond.methodLink RL 42 yX6_market, Cond.instanceMethod yX6_market, Cond.selects RX6 yX6_market yX6_market, Cond.code yX6_market cX6_market 2 (some .long), Cond.methodLink RX6 111 yX6_ratio, Cond.instanceMethod yX6_ratio, Cond.selects RX6 yX6_ratio yX6_ratio, Cond.code yX6_ratio cX6_ratio 3 (some .long), Cond.constantLong RX6 109 (1000000), Cond.methodLink RL 43 yX5_moves, Cond.instanceMethod yX5_moves, Cond.selects RX5 yX5_moves yX5_moves, Cond.code yX5_moves cX5_moves 2 (some .int)]
def wsL_law_r17 : List Cond := [Cond.methodLink RX5 134 yX4_heading, Cond.instanceMethod yX4_heading, Cond.selects RX4 yX4_heading yX4_heading, Cond.code yX4_heading cX4_heading 3 (some .int), Cond.methodLink RX4 87 yX4_mints, Cond.methodLink RX4 91 yX4_limps, Cond.methodLink RX4 94 yX4_hasGold, Cond.instanceMethod yX4_hasGold, Cond.selects RX4 yX4_hasGold yX4_hasGold, Cond.code yX4_hasGold cX4_hasGold 2 (some .boolean), Cond.methodLink RX4 97 yX4_hasSilver, Cond.instanceMethod yX4_hasSilver, Cond.selects RX4 yX4_hasSilver yX4_hasSilver, Cond.code yX4_hasSilver cX4_hasSilver 2 (some .boolean), Cond.methodLink RL 47 yX6_moves, Cond.instanceMethod yX6_moves, Cond.selects RX6 yX6_moves yX6_moves, Cond.code yX6_moves cX6_moves 2 (some .int), Cond.methodLink RX6 119 yX6_movesOf, Cond.instanceMethod yX6_movesOf, Cond.selects RX6 yX6_movesOf yX6_movesOf, Cond.code yX6_movesOf cX6_movesOf 7 (some .int), Cond.methodLink RX6 115 yX6_above, Cond.static yX6_above]
def wsL_law_r18 : List Cond := [Cond.code yX6_above cX6_above 2 (some .long), Cond.methodLink RL 48 yX5_ends, Cond.instanceMethod yX5_ends, Cond.selects RX5 yX5_ends yX5_ends, Cond.code yX5_ends cX5_ends 3 (some .int), Cond.fieldLink RX5 140 "TwoMetals$World" "low" "[I", Cond.fieldLink RX5 143 "TwoMetals$World" "high" "[I", Cond.methodLink RX5 137 yX5_isZeroOrOne, Cond.static yX5_isZeroOrOne, Cond.code yX5_isZeroOrOne cX5_isZeroOrOne 1 (some .boolean), Cond.methodLink RL 52 yX6_ends, Cond.instanceMethod yX6_ends, Cond.selects RX6 yX6_ends yX6_ends, Cond.code yX6_ends cX6_ends 3 (some .int), Cond.methodLink RX6 124 yX6_endOf, Cond.instanceMethod yX6_endOf, Cond.selects RX6 yX6_endOf yX6_endOf, Cond.code yX6_endOf cX6_endOf 11 (some .long), Cond.constantLong RX6 122 (999), Cond.methodLink RL 53 yX5_held, Cond.instanceMethod yX5_held, Cond.selects RX5 yX5_held yX5_held, Cond.code yX5_held cX5_held 1 (some .int), Cond.methodLink RX5 146 yX4_holders]
def wsL_law_r19 : List Cond := [Cond.instanceMethod yX4_holders, Cond.selects RX4 yX4_holders yX4_holders, Cond.code yX4_holders cX4_holders 4 (some .int), Cond.methodLink RL 56 yX6_held, Cond.instanceMethod yX6_held, Cond.selects RX6 yX6_held yX6_held, Cond.code yX6_held cX6_held 3 (some .int), Cond.methodLink RX6 128 yX6_holdsRatio, Cond.instanceMethod yX6_holdsRatio, Cond.selects RX6 yX6_holdsRatio yX6_holdsRatio, Cond.code yX6_holdsRatio cX6_holdsRatio 4 (some .boolean), Cond.methodLink RL 57 yX5_year, Cond.instanceMethod yX5_year, Cond.selects RX5 yX5_year yX5_year, Cond.code yX5_year cX5_year 1 (some .int), Cond.methodLink RX5 150 yX1_passYear, Cond.instanceMethod yX1_passYear, Cond.selects RX1 yX1_passYear yX1_passYear, Cond.code yX1_passYear cX1_passYear 6 (some .int), Cond.fieldLink RX1 25 "TwoMetals$World" "yearly" "[I", Cond.methodLink RX1 30 arraycopyName, Cond.fieldLink RX1 43 "TwoMetals$World" "age" "I", Cond.methodLink RX1 19 yX0_bringTo, Cond.instanceMethod yX0_bringTo]
def wsL_law_r20 : List Cond := [Cond.selects RX0 yX0_bringTo yX0_bringTo, Cond.code yX0_bringTo cX0_bringTo 3 none, Cond.fieldLink RX0 33 "TwoMetals$World" "age" "I", Cond.methodLink RX0 39 Lib.Math.min.name, Cond.static Lib.Math.min.name, Cond.code Lib.Math.min.name Lib.Math.min.code 2 (some .int), Cond.methodLink RX0 45 Lib.Math.max.name, Cond.fieldLink RX0 48 "TwoMetals$World" "marketGold" "J", Cond.fieldLink RX0 52 "TwoMetals$World" "marketSilver" "J", Cond.constantLong RX0 55 (1000), Cond.methodLink RX0 57 yX4_weigh, Cond.methodLink RX1 36 yX1_goRound, Cond.instanceMethod yX1_goRound, Cond.selects RX1 yX1_goRound yX1_goRound, Cond.code yX1_goRound cX1_goRound 5 (some .int), Cond.methodLink RX1 68 yX4_heading, Cond.methodLink RX1 71 yX4_carry, Cond.instanceMethod yX4_carry, Cond.selects RX4 yX4_carry yX4_carry, Cond.code yX4_carry cX4_carry 4 none, Cond.methodLink RX4 100 yX4_weigh, Cond.methodLink RX1 40 yX4_stopThoseThatRanLow, Cond.instanceMethod yX4_stopThoseThatRanLow, Cond.selects RX4 yX4_stopThoseThatRanLow yX4_stopThoseThatRanLow]
def wsL_law_r21 : List Cond := [Cond.code yX4_stopThoseThatRanLow cX4_stopThoseThatRanLow 2 none, Cond.methodLink RL 60 yX6_year, Cond.instanceMethod yX6_year, Cond.selects RX6 yX6_year yX6_year, Cond.code yX6_year cX6_year 1 (some .int), Cond.methodLink RX6 134 yX6_goYear, Cond.instanceMethod yX6_goYear, Cond.selects RX6 yX6_goYear yX6_goYear, Cond.code yX6_goYear cX6_goYear 6 (some .int), Cond.methodLink RX6 131 yX6_moveSack, Cond.instanceMethod yX6_moveSack, Cond.selects RX6 yX6_moveSack yX6_moveSack, Cond.code yX6_moveSack cX6_moveSack 6 none, Cond.methodLink RL 61 yX5_rest, Cond.instanceMethod yX5_rest, Cond.selects RX5 yX5_rest yX5_rest, Cond.code yX5_rest cX5_rest 2 (some .int), Cond.methodLink RX5 154 yX1_settle, Cond.instanceMethod yX1_settle, Cond.selects RX1 yX1_settle yX1_settle, Cond.code yX1_settle cX1_settle 5 (some .int), Cond.constant RX1 47 (200001), Cond.constant RX1 57 (200000), Cond.methodLink RX1 48 yJ7_fill_53178]
def wsL_law_r22 : List Cond := [Cond.methodLink RX1 54 yX1_mark, Cond.instanceMethod yX1_mark, Cond.selects RX1 yX1_mark yX1_mark, Cond.code yX1_mark cX1_mark 2 none, Cond.fieldLink RX1 75 "TwoMetals$World" "gold" "[J", Cond.methodLink RX1 58 yX1_isMarked, Cond.instanceMethod yX1_isMarked, Cond.selects RX1 yX1_isMarked yX1_isMarked, Cond.code yX1_isMarked cX1_isMarked 3 (some .boolean), Cond.methodLink RX1 62 yJ6_bitCount_0f7a4, Cond.methodLink RL 64 yX6_rest, Cond.instanceMethod yX6_rest, Cond.selects RX6 yX6_rest yX6_rest, Cond.code yX6_rest cX6_rest 2 (some .int), Cond.methodLink RX6 138 yX6_goRest, Cond.instanceMethod yX6_goRest, Cond.selects RX6 yX6_goRest yX6_goRest, Cond.code yX6_goRest cX6_goRest 5 (some .int), Cond.constant RX6 137 (200000), Cond.methodLink RL 65 yX5_gone, Cond.instanceMethod yX5_gone, Cond.selects RX5 yX5_gone yX5_gone, Cond.code yX5_gone cX5_gone 5 (some .int), Cond.methodLink RX5 158 yX5_isSpanOfYears]
def wsL_law_r23 : List Cond := [Cond.static yX5_isSpanOfYears, Cond.code yX5_isSpanOfYears cX5_isSpanOfYears 1 (some .boolean), Cond.methodLink RX5 161 yX4_hasGold, Cond.methodLink RX5 164 yX4_hasSilver, Cond.methodLink RL 69 yX6_gone, Cond.instanceMethod yX6_gone, Cond.selects RX6 yX6_gone yX6_gone, Cond.code yX6_gone cX6_gone 7 (some .int), Cond.methodLink RX6 143 yX6_areYears, Cond.static yX6_areYears, Cond.code yX6_areYears cX6_areYears 1 (some .boolean), Cond.constantLong RX6 141 (100), Cond.methodLink RL 70 yX5_stopped, Cond.instanceMethod yX5_stopped, Cond.selects RX5 yX5_stopped yX5_stopped, Cond.code yX5_stopped cX5_stopped 4 (some .int), Cond.methodLink RL 73 yX6_stopped, Cond.instanceMethod yX6_stopped, Cond.selects RX6 yX6_stopped yX6_stopped, Cond.code yX6_stopped cX6_stopped 5 (some .int), Cond.methodLink RL 74 yX5_free, Cond.instanceMethod yX5_free, Cond.selects RX5 yX5_free yX5_free, Cond.code yX5_free cX5_free 3 (some .int)]
def wsL_law_r24 : List Cond := [Cond.methodLink RL 77 yX6_free, Cond.instanceMethod yX6_free, Cond.selects RX6 yX6_free yX6_free, Cond.code yX6_free cX6_free 4 (some .int), Cond.methodLink RX6 146 yX6_held, Cond.methodLink RL 78 yX5_ahead, Cond.instanceMethod yX5_ahead, Cond.selects RX5 yX5_ahead yX5_ahead, Cond.code yX5_ahead cX5_ahead 3 (some .int), Cond.methodLink RL 81 yX6_ahead, Cond.instanceMethod yX6_ahead, Cond.selects RX6 yX6_ahead yX6_ahead, Cond.code yX6_ahead cX6_ahead 3 (some .int), Cond.methodLink RL 82 yX5_debt, Cond.instanceMethod yX5_debt, Cond.selects RX5 yX5_debt yX5_debt, Cond.code yX5_debt cX5_debt 5 (some .int), Cond.constant RX5 167 (100000000), Cond.methodLink RX5 168 Lib.Math.max.name, Cond.methodLink RL 85 yX6_debt, Cond.instanceMethod yX6_debt, Cond.selects RX6 yX6_debt yX6_debt, Cond.code yX6_debt cX6_debt 5 (some .int), Cond.constantLong RX6 149 (100000000)]
def wsL_law_r25 : List Cond := [Cond.methodLink RL 86 yX5_pact, Cond.instanceMethod yX5_pact, Cond.selects RX5 yX5_pact yX5_pact, Cond.code yX5_pact cX5_pact 5 (some .int), Cond.fieldLink RX5 174 "TwoMetals$World" "minting" "I", Cond.methodLink RX5 177 yX5_isLaw, Cond.static yX5_isLaw, Cond.code yX5_isLaw cX5_isLaw 1 (some .boolean), Cond.constant RX5 203 (99999), Cond.methodLink RX5 180 yX5_tryPact, Cond.instanceMethod yX5_tryPact, Cond.selects RX5 yX5_tryPact yX5_tryPact, Cond.code yX5_tryPact cX5_tryPact 4 (some .int), Cond.methodLink RX5 192 yX4_setLaw, Cond.methodLink RX5 183 yX5_allHold, Cond.instanceMethod yX5_allHold, Cond.selects RX5 yX5_allHold yX5_allHold, Cond.code yX5_allHold cX5_allHold 2 (some .boolean), Cond.methodLink RL 89 yX6_pact, Cond.instanceMethod yX6_pact, Cond.selects RX6 yX6_pact yX6_pact, Cond.code yX6_pact cX6_pact 4 (some .int), Cond.methodLink RX6 157 yX6_minting, Cond.instanceMethod yX6_minting]
def wsL_law_r26 : List Cond := [Cond.selects RX6 yX6_minting yX6_minting, Cond.code yX6_minting cX6_minting 3 (some .int), Cond.methodLink RX6 160 yX6_isRatio, Cond.static yX6_isRatio, Cond.code yX6_isRatio cX6_isRatio 1 (some .boolean), Cond.constantLong RX6 151 (99999), Cond.methodLink RX6 163 yX6_pactOf, Cond.instanceMethod yX6_pactOf, Cond.selects RX6 yX6_pactOf yX6_pactOf, Cond.code yX6_pactOf cX6_pactOf 6 (some .int), Cond.methodLink RX6 153 yX6_has, Cond.static yX6_has, Cond.code yX6_has cX6_has 2 (some .boolean), Cond.methodLink RL 90 yX5_fewest, Cond.instanceMethod yX5_fewest, Cond.selects RX5 yX5_fewest yX5_fewest, Cond.code yX5_fewest cX5_fewest 5 (some .int), Cond.methodLink RL 93 yX6_fewest, Cond.instanceMethod yX6_fewest, Cond.selects RX6 yX6_fewest yX6_fewest, Cond.code yX6_fewest cX6_fewest 6 (some .int), Cond.methodLink RX6 167 yX6_bits, Cond.static yX6_bits, Cond.code yX6_bits cX6_bits 3 (some .int)]
def wsL_law_r27 : List Cond := [Cond.methodLink RL 94 yX5_bought, Cond.instanceMethod yX5_bought, Cond.selects RX5 yX5_bought yX5_bought, Cond.code yX5_bought cX5_bought 3 (some .int), Cond.methodLink RX5 186 yX5_tryPurchase, Cond.instanceMethod yX5_tryPurchase, Cond.selects RX5 yX5_tryPurchase yX5_tryPurchase, Cond.code yX5_tryPurchase cX5_tryPurchase 2 (some .int), Cond.methodLink RX5 200 yX4_weigh, Cond.methodLink RL 97 yX6_bought, Cond.instanceMethod yX6_bought, Cond.selects RX6 yX6_bought yX6_bought, Cond.code yX6_bought cX6_bought 3 (some .int), Cond.methodLink RX6 170 yX6_boughtOf, Cond.instanceMethod yX6_boughtOf, Cond.selects RX6 yX6_boughtOf yX6_boughtOf, Cond.code yX6_boughtOf cX6_boughtOf 6 (some .int), Cond.methodLink RL 98 yX5_corner, Cond.instanceMethod yX5_corner, Cond.selects RX5 yX5_corner yX5_corner, Cond.code yX5_corner cX5_corner 6 (some .int), Cond.methodLink RX5 189 Lib.Math.min.name, Cond.methodLink RL 101 yX6_corner, Cond.instanceMethod yX6_corner]
def wsL_law_r28 : List Cond := [Cond.selects RX6 yX6_corner yX6_corner, Cond.code yX6_corner cX6_corner 6 (some .int), Cond.constantLong RX6 174 (2), Cond.methodLink RL 102 yX5_move, Cond.instanceMethod yX5_move, Cond.selects RX5 yX5_move yX5_move, Cond.code yX5_move cX5_move 4 (some .int), Cond.methodLink RL 105 yX6_move, Cond.instanceMethod yX6_move, Cond.selects RX6 yX6_move yX6_move, Cond.code yX6_move cX6_move 4 (some .int), Cond.methodLink RL 106 yX5_melted, Cond.instanceMethod yX5_melted, Cond.selects RX5 yX5_melted yX5_melted, Cond.code yX5_melted cX5_melted 3 (some .int), Cond.methodLink RL 109 yX6_melted, Cond.instanceMethod yX6_melted, Cond.selects RX6 yX6_melted yX6_melted, Cond.code yX6_melted cX6_melted 3 (some .int), Cond.methodLink RL 110 yX5_keep, Cond.instanceMethod yX5_keep, Cond.selects RX5 yX5_keep yX5_keep, Cond.code yX5_keep cX5_keep 1 (some .int), Cond.methodLink RL 113 yX6_keep]
def wsL_law_r29 : List Cond := [Cond.instanceMethod yX6_keep, Cond.selects RX6 yX6_keep yX6_keep, Cond.code yX6_keep cX6_keep 1 (some .int), Cond.methodLink RL 114 yX5_back, Cond.instanceMethod yX5_back, Cond.selects RX5 yX5_back yX5_back, Cond.code yX5_back cX5_back 1 (some .int), Cond.methodLink RL 117 yX6_back, Cond.instanceMethod yX6_back, Cond.selects RX6 yX6_back yX6_back, Cond.code yX6_back cX6_back 1 (some .int), Cond.methodLink RL 118 yX5_count, Cond.instanceMethod yX5_count, Cond.selects RX5 yX5_count yX5_count, Cond.code yX5_count cX5_count 2 (some .int), Cond.methodLink RX5 196 yX4_goldInAll, Cond.instanceMethod yX4_goldInAll, Cond.selects RX4 yX4_goldInAll yX4_goldInAll, Cond.code yX4_goldInAll cX4_goldInAll 4 (some .long), Cond.methodLink RX4 103 yX4_has, Cond.methodLink RL 121 yX6_count, Cond.instanceMethod yX6_count, Cond.selects RX6 yX6_count yX6_count, Cond.code yX6_count cX6_count 5 (some .int)]
def wsL_law : List Cond := (wsL_law_r1 ++ (wsL_law_r2 ++ (wsL_law_r3 ++ (wsL_law_r4 ++ (wsL_law_r5 ++ (wsL_law_r6 ++ (wsL_law_r7 ++ (wsL_law_r8 ++ (wsL_law_r9 ++ (wsL_law_r10 ++ (wsL_law_r11 ++ (wsL_law_r12 ++ (wsL_law_r13 ++ (wsL_law_r14 ++ (wsL_law_r15 ++ (wsL_law_r16 ++ (wsL_law_r17 ++ (wsL_law_r18 ++ (wsL_law_r19 ++ (wsL_law_r20 ++ (wsL_law_r21 ++ (wsL_law_r22 ++ (wsL_law_r23 ++ (wsL_law_r24 ++ (wsL_law_r25 ++ (wsL_law_r26 ++ (wsL_law_r27 ++ (wsL_law_r28 ++ wsL_law_r29)))))))))))))))))))))))))))) ++ wsX50 ++ wsX60 ++ wsX30 ++ wsX20 ++ wsX10 ++ wsX00 ++ wsX40 ++ ([] : List Cond)
set_option maxRecDepth 20000 in
theorem inlX0 : ∀ w ∈ wsX00, w ∈ wsL_law := fun _ h => List.mem_append_left _ (List.mem_append_left _ (List.mem_append_right _ h))
theorem inlX1 : ∀ w ∈ wsX10, w ∈ wsL_law := fun _ h => List.mem_append_left _ (List.mem_append_left _ (List.mem_append_left _ (List.mem_append_right _ h)))
theorem inlX2 : ∀ w ∈ wsX20, w ∈ wsL_law := fun _ h => List.mem_append_left _ (List.mem_append_left _ (List.mem_append_left _ (List.mem_append_left _ (List.mem_append_right _ h))))
theorem inlX3 : ∀ w ∈ wsX30, w ∈ wsL_law := fun _ h => List.mem_append_left _ (List.mem_append_left _ (List.mem_append_left _ (List.mem_append_left _ (List.mem_append_left _ (List.mem_append_right _ h)))))
theorem inlX4 : ∀ w ∈ wsX40, w ∈ wsL_law := fun _ h => List.mem_append_left _ (List.mem_append_right _ h)
theorem inlX5 : ∀ w ∈ wsX50, w ∈ wsL_law := fun _ h => List.mem_append_left _ (List.mem_append_left _ (List.mem_append_left _ (List.mem_append_left _ (List.mem_append_left _ (List.mem_append_left _ (List.mem_append_left _ (List.mem_append_right _ h)))))))
theorem inlX6 : ∀ w ∈ wsX60, w ∈ wsL_law := fun _ h => List.mem_append_left _ (List.mem_append_left _ (List.mem_append_left _ (List.mem_append_left _ (List.mem_append_left _ (List.mem_append_left _ (List.mem_append_right _ h))))))
theorem inJ6 : ∀ w ∈ wsJ60, w ∈ lw_tbl := by decide +kernel
theorem inJ9 : ∀ w ∈ wsJ90, w ∈ lw_tbl := by decide +kernel
theorem inJ10 : ∀ w ∈ wsJ100, w ∈ lw_tbl := by decide +kernel
theorem inJ7 : ∀ w ∈ wsJ70, w ∈ lw_tbl := by decide +kernel
abbrev vwCl : List vw_C := [(RX0, TX0, 3), (RX1, TX1, 2), (RX2, TX2, 4), (RX3, TX3, 2), (RX4, TX4, 17), (RX5, TX5, 8), (RX6, TX6, 11)]
end
section
theorem dX0_init_0 : decode cX0_init 0 = .ok (.aload_n 0, 1) := by decide +kernel
theorem dX0_init_1 : decode cX0_init 1 = .ok (.invokespecial 3, 3) := by decide +kernel
theorem dX0_init_4 : decode cX0_init 4 = .ok (.aload_n 0, 1) := by decide +kernel
theorem dX0_init_5 : decode cX0_init 5 = .ok (.bipush 100, 2) := by decide +kernel
theorem dX0_init_7 : decode cX0_init 7 = .ok (.newarray .int, 2) := by decide +kernel
theorem dX0_init_9 : decode cX0_init 9 = .ok (.putfield 11, 3) := by decide +kernel
theorem dX0_init_12 : decode cX0_init 12 = .ok (.aload_n 0, 1) := by decide +kernel
theorem dX0_init_13 : decode cX0_init 13 = .ok (.bipush 100, 2) := by decide +kernel
theorem dX0_init_15 : decode cX0_init 15 = .ok (.newarray .int, 2) := by decide +kernel
theorem dX0_init_17 : decode cX0_init 17 = .ok (.putfield 15, 3) := by decide +kernel
theorem dX0_init_20 : decode cX0_init 20 = .ok (.aload_n 0, 1) := by decide +kernel
theorem dX0_init_21 : decode cX0_init 21 = .ok (.bipush 100, 2) := by decide +kernel
theorem dX0_init_23 : decode cX0_init 23 = .ok (.newarray .int, 2) := by decide +kernel
theorem dX0_init_25 : decode cX0_init 25 = .ok (.putfield 18, 3) := by decide +kernel
theorem dX0_init_28 : decode cX0_init 28 = .ok (.return_, 1) := by decide +kernel
set_option maxRecDepth 20000 in
theorem ggX0_clear_J7_fill_53178 : GoodIn wsX0_clear wsJ7_fill_53178 := goodIn_r _ [7] (by decide +kernel) (by decide +kernel)
set_option maxRecDepth 20000 in
theorem gX0_clear_J7_fill_53178 : GoodIn wsX0_clear (va_wsS RX0 21 yJ7_fill_53178 wsJ7_fill_53178) := goodIn_app (goodIn_of _ (by decide +kernel)) ggX0_clear_J7_fill_53178
theorem dX0_clear_0 : decode cX0_clear 0 = .ok (.aload_n 0, 1) := by decide +kernel
theorem dX0_clear_1 : decode cX0_clear 1 = .ok (.getfield 11, 3) := by decide +kernel
theorem dX0_clear_4 : decode cX0_clear 4 = .ok (.iconst 0, 1) := by decide +kernel
theorem dX0_clear_5 : decode cX0_clear 5 = .ok (.invokestatic 21, 3) := by decide +kernel
theorem dX0_clear_8 : decode cX0_clear 8 = .ok (.aload_n 0, 1) := by decide +kernel
theorem dX0_clear_9 : decode cX0_clear 9 = .ok (.getfield 15, 3) := by decide +kernel
theorem dX0_clear_12 : decode cX0_clear 12 = .ok (.iconst 0, 1) := by decide +kernel
theorem dX0_clear_13 : decode cX0_clear 13 = .ok (.invokestatic 21, 3) := by decide +kernel
theorem dX0_clear_16 : decode cX0_clear 16 = .ok (.aload_n 0, 1) := by decide +kernel
theorem dX0_clear_17 : decode cX0_clear 17 = .ok (.getfield 18, 3) := by decide +kernel
theorem dX0_clear_20 : decode cX0_clear 20 = .ok (.iconst 0, 1) := by decide +kernel
theorem dX0_clear_21 : decode cX0_clear 21 = .ok (.invokestatic 21, 3) := by decide +kernel
theorem dX0_clear_24 : decode cX0_clear 24 = .ok (.return_, 1) := by decide +kernel
theorem dX0_copyFrom_0 : decode cX0_copyFrom 0 = .ok (.aload_n 1, 1) := by decide +kernel
theorem dX0_copyFrom_1 : decode cX0_copyFrom 1 = .ok (.getfield 11, 3) := by decide +kernel
theorem dX0_copyFrom_4 : decode cX0_copyFrom 4 = .ok (.iconst 0, 1) := by decide +kernel
theorem dX0_copyFrom_5 : decode cX0_copyFrom 5 = .ok (.aload_n 0, 1) := by decide +kernel
theorem dX0_copyFrom_6 : decode cX0_copyFrom 6 = .ok (.getfield 11, 3) := by decide +kernel
theorem dX0_copyFrom_9 : decode cX0_copyFrom 9 = .ok (.iconst 0, 1) := by decide +kernel
theorem dX0_copyFrom_10 : decode cX0_copyFrom 10 = .ok (.bipush 100, 2) := by decide +kernel
theorem dX0_copyFrom_12 : decode cX0_copyFrom 12 = .ok (.invokestatic 27, 3) := by decide +kernel
theorem dX0_copyFrom_15 : decode cX0_copyFrom 15 = .ok (.aload_n 1, 1) := by decide +kernel
theorem dX0_copyFrom_16 : decode cX0_copyFrom 16 = .ok (.getfield 15, 3) := by decide +kernel
theorem dX0_copyFrom_19 : decode cX0_copyFrom 19 = .ok (.iconst 0, 1) := by decide +kernel
theorem dX0_copyFrom_20 : decode cX0_copyFrom 20 = .ok (.aload_n 0, 1) := by decide +kernel
theorem dX0_copyFrom_21 : decode cX0_copyFrom 21 = .ok (.getfield 15, 3) := by decide +kernel
theorem dX0_copyFrom_24 : decode cX0_copyFrom 24 = .ok (.iconst 0, 1) := by decide +kernel
theorem dX0_copyFrom_25 : decode cX0_copyFrom 25 = .ok (.bipush 100, 2) := by decide +kernel
theorem dX0_copyFrom_27 : decode cX0_copyFrom 27 = .ok (.invokestatic 27, 3) := by decide +kernel
theorem dX0_copyFrom_30 : decode cX0_copyFrom 30 = .ok (.aload_n 1, 1) := by decide +kernel
theorem dX0_copyFrom_31 : decode cX0_copyFrom 31 = .ok (.getfield 18, 3) := by decide +kernel
theorem dX0_copyFrom_34 : decode cX0_copyFrom 34 = .ok (.iconst 0, 1) := by decide +kernel
theorem dX0_copyFrom_35 : decode cX0_copyFrom 35 = .ok (.aload_n 0, 1) := by decide +kernel
theorem dX0_copyFrom_36 : decode cX0_copyFrom 36 = .ok (.getfield 18, 3) := by decide +kernel
theorem dX0_copyFrom_39 : decode cX0_copyFrom 39 = .ok (.iconst 0, 1) := by decide +kernel
theorem dX0_copyFrom_40 : decode cX0_copyFrom 40 = .ok (.bipush 100, 2) := by decide +kernel
theorem dX0_copyFrom_42 : decode cX0_copyFrom 42 = .ok (.invokestatic 27, 3) := by decide +kernel
theorem dX0_copyFrom_45 : decode cX0_copyFrom 45 = .ok (.return_, 1) := by decide +kernel
theorem dX0_tell_0 : decode cX0_tell 0 = .ok (.aload_n 0, 1) := by decide +kernel
theorem dX0_tell_1 : decode cX0_tell 1 = .ok (.getfield 11, 3) := by decide +kernel
theorem dX0_tell_4 : decode cX0_tell 4 = .ok (.iload_n 1, 1) := by decide +kernel
theorem dX0_tell_5 : decode cX0_tell 5 = .ok (.iconst 1, 1) := by decide +kernel
theorem dX0_tell_6 : decode cX0_tell 6 = .ok (.iastore, 1) := by decide +kernel
theorem dX0_tell_7 : decode cX0_tell 7 = .ok (.aload_n 0, 1) := by decide +kernel
theorem dX0_tell_8 : decode cX0_tell 8 = .ok (.getfield 15, 3) := by decide +kernel
theorem dX0_tell_11 : decode cX0_tell 11 = .ok (.iload_n 1, 1) := by decide +kernel
theorem dX0_tell_12 : decode cX0_tell 12 = .ok (.iload_n 2, 1) := by decide +kernel
theorem dX0_tell_13 : decode cX0_tell 13 = .ok (.iastore, 1) := by decide +kernel
theorem dX0_tell_14 : decode cX0_tell 14 = .ok (.aload_n 0, 1) := by decide +kernel
theorem dX0_tell_15 : decode cX0_tell 15 = .ok (.getfield 18, 3) := by decide +kernel
theorem dX0_tell_18 : decode cX0_tell 18 = .ok (.iload_n 1, 1) := by decide +kernel
theorem dX0_tell_19 : decode cX0_tell 19 = .ok (.iload_n 3, 1) := by decide +kernel
theorem dX0_tell_20 : decode cX0_tell 20 = .ok (.iastore, 1) := by decide +kernel
theorem dX0_tell_21 : decode cX0_tell 21 = .ok (.return_, 1) := by decide +kernel
theorem dX0_fillGaps_0 : decode cX0_fillGaps 0 = .ok (.iconst 1, 1) := by decide +kernel
theorem dX0_fillGaps_1 : decode cX0_fillGaps 1 = .ok (.istore_n 1, 1) := by decide +kernel
theorem dX0_fillGaps_2 : decode cX0_fillGaps 2 = .ok (.iload_n 1, 1) := by decide +kernel
theorem dX0_fillGaps_3 : decode cX0_fillGaps 3 = .ok (.bipush 100, 2) := by decide +kernel
theorem dX0_fillGaps_5 : decode cX0_fillGaps 5 = .ok (.if_icmp .ge 46, 3) := by decide +kernel
theorem dX0_fillGaps_8 : decode cX0_fillGaps 8 = .ok (.aload_n 0, 1) := by decide +kernel
theorem dX0_fillGaps_9 : decode cX0_fillGaps 9 = .ok (.getfield 11, 3) := by decide +kernel
theorem dX0_fillGaps_12 : decode cX0_fillGaps 12 = .ok (.iload_n 1, 1) := by decide +kernel
theorem dX0_fillGaps_13 : decode cX0_fillGaps 13 = .ok (.iaload, 1) := by decide +kernel
theorem dX0_fillGaps_14 : decode cX0_fillGaps 14 = .ok (.ifCond .ne 31, 3) := by decide +kernel
theorem dX0_fillGaps_17 : decode cX0_fillGaps 17 = .ok (.aload_n 0, 1) := by decide +kernel
theorem dX0_fillGaps_18 : decode cX0_fillGaps 18 = .ok (.getfield 15, 3) := by decide +kernel
theorem dX0_fillGaps_21 : decode cX0_fillGaps 21 = .ok (.iload_n 1, 1) := by decide +kernel
theorem dX0_fillGaps_22 : decode cX0_fillGaps 22 = .ok (.aload_n 0, 1) := by decide +kernel
theorem dX0_fillGaps_23 : decode cX0_fillGaps 23 = .ok (.getfield 15, 3) := by decide +kernel
theorem dX0_fillGaps_26 : decode cX0_fillGaps 26 = .ok (.iload_n 1, 1) := by decide +kernel
theorem dX0_fillGaps_27 : decode cX0_fillGaps 27 = .ok (.iconst 1, 1) := by decide +kernel
theorem dX0_fillGaps_28 : decode cX0_fillGaps 28 = .ok (.isub, 1) := by decide +kernel
theorem dX0_fillGaps_29 : decode cX0_fillGaps 29 = .ok (.iaload, 1) := by decide +kernel
theorem dX0_fillGaps_30 : decode cX0_fillGaps 30 = .ok (.iastore, 1) := by decide +kernel
theorem dX0_fillGaps_31 : decode cX0_fillGaps 31 = .ok (.aload_n 0, 1) := by decide +kernel
theorem dX0_fillGaps_32 : decode cX0_fillGaps 32 = .ok (.getfield 18, 3) := by decide +kernel
theorem dX0_fillGaps_35 : decode cX0_fillGaps 35 = .ok (.iload_n 1, 1) := by decide +kernel
theorem dX0_fillGaps_36 : decode cX0_fillGaps 36 = .ok (.aload_n 0, 1) := by decide +kernel
theorem dX0_fillGaps_37 : decode cX0_fillGaps 37 = .ok (.getfield 18, 3) := by decide +kernel
theorem dX0_fillGaps_40 : decode cX0_fillGaps 40 = .ok (.iload_n 1, 1) := by decide +kernel
theorem dX0_fillGaps_41 : decode cX0_fillGaps 41 = .ok (.iconst 1, 1) := by decide +kernel
theorem dX0_fillGaps_42 : decode cX0_fillGaps 42 = .ok (.isub, 1) := by decide +kernel
theorem dX0_fillGaps_43 : decode cX0_fillGaps 43 = .ok (.iaload, 1) := by decide +kernel
theorem dX0_fillGaps_44 : decode cX0_fillGaps 44 = .ok (.iastore, 1) := by decide +kernel
theorem dX0_fillGaps_45 : decode cX0_fillGaps 45 = .ok (.iinc 1 1, 3) := by decide +kernel
theorem dX0_fillGaps_48 : decode cX0_fillGaps 48 = .ok (.goto (-46), 3) := by decide +kernel
theorem dX0_fillGaps_51 : decode cX0_fillGaps 51 = .ok (.return_, 1) := by decide +kernel
set_option maxRecDepth 20000 in
theorem ggX0_bringTo_X4_weigh : GoodIn wsX0_bringTo wsX4_weigh := goodIn_r _ [18, 19, 20, 21, 22, 23, 24, 25, 26, 27, 4, 28, 29, 30, 31, 32, 33, 34, 35, 36, 37, 38, 39, 40, 41, 42, 43, 44, 45] (by decide +kernel) (by decide +kernel)
set_option maxRecDepth 20000 in
theorem gX0_bringTo_X4_weigh : GoodIn wsX0_bringTo (wsV RX0 57 RX4 yX4_weigh wsX4_weigh) := goodIn_app (goodIn_of _ (by decide +kernel)) ggX0_bringTo_X4_weigh
theorem dX0_bringTo_0 : decode cX0_bringTo 0 = .ok (.iconst 0, 1) := by decide +kernel
theorem dX0_bringTo_1 : decode cX0_bringTo 1 = .ok (.aload_n 1, 1) := by decide +kernel
theorem dX0_bringTo_2 : decode cX0_bringTo 2 = .ok (.getfield 33, 3) := by decide +kernel
theorem dX0_bringTo_5 : decode cX0_bringTo 5 = .ok (.bipush 99, 2) := by decide +kernel
theorem dX0_bringTo_7 : decode cX0_bringTo 7 = .ok (.invokestatic 39, 3) := by decide +kernel
theorem dX0_bringTo_10 : decode cX0_bringTo 10 = .ok (.invokestatic 45, 3) := by decide +kernel
theorem dX0_bringTo_13 : decode cX0_bringTo 13 = .ok (.istore_n 2, 1) := by decide +kernel
theorem dX0_bringTo_14 : decode cX0_bringTo 14 = .ok (.aload_n 1, 1) := by decide +kernel
theorem dX0_bringTo_15 : decode cX0_bringTo 15 = .ok (.dup, 1) := by decide +kernel
theorem dX0_bringTo_16 : decode cX0_bringTo 16 = .ok (.getfield 48, 3) := by decide +kernel
theorem dX0_bringTo_19 : decode cX0_bringTo 19 = .ok (.aload_n 0, 1) := by decide +kernel
theorem dX0_bringTo_20 : decode cX0_bringTo 20 = .ok (.getfield 15, 3) := by decide +kernel
theorem dX0_bringTo_23 : decode cX0_bringTo 23 = .ok (.iload_n 2, 1) := by decide +kernel
theorem dX0_bringTo_24 : decode cX0_bringTo 24 = .ok (.iaload, 1) := by decide +kernel
theorem dX0_bringTo_25 : decode cX0_bringTo 25 = .ok (.i2l, 1) := by decide +kernel
theorem dX0_bringTo_26 : decode cX0_bringTo 26 = .ok (.ladd, 1) := by decide +kernel
theorem dX0_bringTo_27 : decode cX0_bringTo 27 = .ok (.putfield 48, 3) := by decide +kernel
theorem dX0_bringTo_30 : decode cX0_bringTo 30 = .ok (.aload_n 1, 1) := by decide +kernel
theorem dX0_bringTo_31 : decode cX0_bringTo 31 = .ok (.dup, 1) := by decide +kernel
theorem dX0_bringTo_32 : decode cX0_bringTo 32 = .ok (.getfield 52, 3) := by decide +kernel
theorem dX0_bringTo_35 : decode cX0_bringTo 35 = .ok (.ldc2_w 55, 3) := by decide +kernel
theorem dX0_bringTo_38 : decode cX0_bringTo 38 = .ok (.aload_n 0, 1) := by decide +kernel
theorem dX0_bringTo_39 : decode cX0_bringTo 39 = .ok (.getfield 18, 3) := by decide +kernel
theorem dX0_bringTo_42 : decode cX0_bringTo 42 = .ok (.iload_n 2, 1) := by decide +kernel
theorem dX0_bringTo_43 : decode cX0_bringTo 43 = .ok (.iaload, 1) := by decide +kernel
theorem dX0_bringTo_44 : decode cX0_bringTo 44 = .ok (.i2l, 1) := by decide +kernel
theorem dX0_bringTo_45 : decode cX0_bringTo 45 = .ok (.lmul, 1) := by decide +kernel
theorem dX0_bringTo_46 : decode cX0_bringTo 46 = .ok (.ladd, 1) := by decide +kernel
theorem dX0_bringTo_47 : decode cX0_bringTo 47 = .ok (.putfield 52, 3) := by decide +kernel
theorem dX0_bringTo_50 : decode cX0_bringTo 50 = .ok (.aload_n 1, 1) := by decide +kernel
theorem dX0_bringTo_51 : decode cX0_bringTo 51 = .ok (.invokevirtual 57, 3) := by decide +kernel
theorem dX0_bringTo_54 : decode cX0_bringTo 54 = .ok (.return_, 1) := by decide +kernel
theorem dX1_init_0 : decode cX1_init 0 = .ok (.aload_n 0, 1) := by decide +kernel
theorem dX1_init_1 : decode cX1_init 1 = .ok (.invokespecial 5, 3) := by decide +kernel
theorem dX1_init_4 : decode cX1_init 4 = .ok (.aload_n 0, 1) := by decide +kernel
theorem dX1_init_5 : decode cX1_init 5 = .ok (.bipush 8, 2) := by decide +kernel
theorem dX1_init_7 : decode cX1_init 7 = .ok (.newarray .int, 2) := by decide +kernel
theorem dX1_init_9 : decode cX1_init 9 = .ok (.putfield 11, 3) := by decide +kernel
theorem dX1_init_12 : decode cX1_init 12 = .ok (.aload_n 0, 1) := by decide +kernel
theorem dX1_init_13 : decode cX1_init 13 = .ok (.bipush 8, 2) := by decide +kernel
theorem dX1_init_15 : decode cX1_init 15 = .ok (.newarray .long, 2) := by decide +kernel
theorem dX1_init_17 : decode cX1_init 17 = .ok (.putfield 15, 3) := by decide +kernel
theorem dX1_init_20 : decode cX1_init 20 = .ok (.return_, 1) := by decide +kernel
set_option maxRecDepth 20000 in
theorem ggX1_passYear_X0_bringTo : GoodIn wsX1_passYear wsX0_bringTo := goodIn_r _ [12, 13, 14, 15, 16, 17, 18, 19, 20, 21, 22, 23, 24, 25, 26, 27, 28, 29, 30, 31, 32, 33, 34, 35, 36, 37, 38, 39, 40, 83, 84, 85, 86, 87, 88, 89, 90, 91, 92, 93, 94, 95, 96, 97, 98, 99, 102, 103, 104] (by decide +kernel) (by decide +kernel)
set_option maxRecDepth 20000 in
theorem gX1_passYear_X0_bringTo : GoodIn wsX1_passYear (wsV RX1 19 RX0 yX0_bringTo wsX0_bringTo) := goodIn_app (goodIn_of _ (by decide +kernel)) ggX1_passYear_X0_bringTo
set_option maxRecDepth 20000 in
theorem ggX1_passYear_X1_goRound : GoodIn wsX1_passYear wsX1_goRound := goodIn_r _ [45, 2, 46, 47, 48, 29, 49, 33, 50, 35, 51, 52, 31, 53, 54, 55, 56, 57, 58, 59, 60, 61, 62, 63, 64, 65, 66, 67, 68, 69, 70, 71, 72, 73, 74, 75, 76, 77, 27, 28, 30, 32, 34, 36, 37, 38, 39, 16, 40, 100, 101, 83, 84, 85, 86, 87, 88, 89, 90, 91, 92, 93, 94, 95, 96, 97, 98, 99] (by decide +kernel) (by decide +kernel)
set_option maxRecDepth 20000 in
theorem gX1_passYear_X1_goRound : GoodIn wsX1_passYear (wsV RX1 36 RX1 yX1_goRound wsX1_goRound) := goodIn_app (goodIn_of _ (by decide +kernel)) ggX1_passYear_X1_goRound
set_option maxRecDepth 20000 in
theorem ggX1_passYear_X4_stopThoseThatRanLow : GoodIn wsX1_passYear wsX4_stopThoseThatRanLow := goodIn_r _ [81, 67, 82, 57, 53, 54, 55, 29, 56, 83, 84, 85, 86, 87, 88, 89, 90, 91, 92, 93, 94, 95, 96, 97, 98, 99] (by decide +kernel) (by decide +kernel)
set_option maxRecDepth 20000 in
theorem gX1_passYear_X4_stopThoseThatRanLow : GoodIn wsX1_passYear (wsV RX1 40 RX4 yX4_stopThoseThatRanLow wsX4_stopThoseThatRanLow) := goodIn_app (goodIn_of _ (by decide +kernel)) ggX1_passYear_X4_stopThoseThatRanLow
theorem dX1_passYear_0 : decode cX1_passYear 0 = .ok (.aload_n 2, 1) := by decide +kernel
theorem dX1_passYear_1 : decode cX1_passYear 1 = .ok (.aload_n 1, 1) := by decide +kernel
theorem dX1_passYear_2 : decode cX1_passYear 2 = .ok (.invokevirtual 19, 3) := by decide +kernel
theorem dX1_passYear_5 : decode cX1_passYear 5 = .ok (.aload_n 1, 1) := by decide +kernel
theorem dX1_passYear_6 : decode cX1_passYear 6 = .ok (.getfield 25, 3) := by decide +kernel
theorem dX1_passYear_9 : decode cX1_passYear 9 = .ok (.iconst 0, 1) := by decide +kernel
theorem dX1_passYear_10 : decode cX1_passYear 10 = .ok (.aload_n 0, 1) := by decide +kernel
theorem dX1_passYear_11 : decode cX1_passYear 11 = .ok (.getfield 11, 3) := by decide +kernel
theorem dX1_passYear_14 : decode cX1_passYear 14 = .ok (.iconst 0, 1) := by decide +kernel
theorem dX1_passYear_15 : decode cX1_passYear 15 = .ok (.bipush 8, 2) := by decide +kernel
theorem dX1_passYear_17 : decode cX1_passYear 17 = .ok (.invokestatic 30, 3) := by decide +kernel
theorem dX1_passYear_20 : decode cX1_passYear 20 = .ok (.iconst 0, 1) := by decide +kernel
theorem dX1_passYear_21 : decode cX1_passYear 21 = .ok (.istore_n 3, 1) := by decide +kernel
theorem dX1_passYear_22 : decode cX1_passYear 22 = .ok (.iconst 0, 1) := by decide +kernel
theorem dX1_passYear_23 : decode cX1_passYear 23 = .ok (.istore 4, 2) := by decide +kernel
theorem dX1_passYear_25 : decode cX1_passYear 25 = .ok (.iload 4, 2) := by decide +kernel
theorem dX1_passYear_27 : decode cX1_passYear 27 = .ok (.sipush 7993, 3) := by decide +kernel
theorem dX1_passYear_30 : decode cX1_passYear 30 = .ok (.if_icmp .ge 29, 3) := by decide +kernel
theorem dX1_passYear_33 : decode cX1_passYear 33 = .ok (.aload_n 0, 1) := by decide +kernel
theorem dX1_passYear_34 : decode cX1_passYear 34 = .ok (.aload_n 1, 1) := by decide +kernel
theorem dX1_passYear_35 : decode cX1_passYear 35 = .ok (.invokevirtual 36, 3) := by decide +kernel
theorem dX1_passYear_38 : decode cX1_passYear 38 = .ok (.istore 5, 2) := by decide +kernel
theorem dX1_passYear_40 : decode cX1_passYear 40 = .ok (.iload 5, 2) := by decide +kernel
theorem dX1_passYear_42 : decode cX1_passYear 42 = .ok (.ifCond .ne 6, 3) := by decide +kernel
theorem dX1_passYear_45 : decode cX1_passYear 45 = .ok (.goto 14, 3) := by decide +kernel
theorem dX1_passYear_48 : decode cX1_passYear 48 = .ok (.iload_n 3, 1) := by decide +kernel
theorem dX1_passYear_49 : decode cX1_passYear 49 = .ok (.iload 5, 2) := by decide +kernel
theorem dX1_passYear_51 : decode cX1_passYear 51 = .ok (.iadd, 1) := by decide +kernel
theorem dX1_passYear_52 : decode cX1_passYear 52 = .ok (.istore_n 3, 1) := by decide +kernel
theorem dX1_passYear_53 : decode cX1_passYear 53 = .ok (.iinc 4 1, 3) := by decide +kernel
theorem dX1_passYear_56 : decode cX1_passYear 56 = .ok (.goto (-31), 3) := by decide +kernel
theorem dX1_passYear_59 : decode cX1_passYear 59 = .ok (.aload_n 1, 1) := by decide +kernel
theorem dX1_passYear_60 : decode cX1_passYear 60 = .ok (.invokevirtual 40, 3) := by decide +kernel
theorem dX1_passYear_63 : decode cX1_passYear 63 = .ok (.aload_n 1, 1) := by decide +kernel
theorem dX1_passYear_64 : decode cX1_passYear 64 = .ok (.dup, 1) := by decide +kernel
theorem dX1_passYear_65 : decode cX1_passYear 65 = .ok (.getfield 43, 3) := by decide +kernel
theorem dX1_passYear_68 : decode cX1_passYear 68 = .ok (.iconst 1, 1) := by decide +kernel
theorem dX1_passYear_69 : decode cX1_passYear 69 = .ok (.iadd, 1) := by decide +kernel
theorem dX1_passYear_70 : decode cX1_passYear 70 = .ok (.putfield 43, 3) := by decide +kernel
theorem dX1_passYear_73 : decode cX1_passYear 73 = .ok (.iload_n 3, 1) := by decide +kernel
theorem dX1_passYear_74 : decode cX1_passYear 74 = .ok (.ireturn, 1) := by decide +kernel
set_option maxRecDepth 20000 in
theorem ggX1_settle_J7_fill_53178 : GoodIn wsX1_settle wsJ7_fill_53178 := goodIn_r _ [7] (by decide +kernel) (by decide +kernel)
set_option maxRecDepth 20000 in
theorem gX1_settle_J7_fill_53178 : GoodIn wsX1_settle (va_wsS RX1 48 yJ7_fill_53178 wsJ7_fill_53178) := goodIn_app (goodIn_of _ (by decide +kernel)) ggX1_settle_J7_fill_53178
set_option maxRecDepth 20000 in
theorem ggX1_settle_X1_mark : GoodIn wsX1_settle wsX1_mark := goodIn_r _ [12, 13, 14, 15, 16, 17, 18, 83, 84, 85, 86, 87, 88, 89, 90, 91, 92, 93, 94, 95, 96, 97, 98, 99, 81, 82] (by decide +kernel) (by decide +kernel)
set_option maxRecDepth 20000 in
theorem gX1_settle_X1_mark : GoodIn wsX1_settle (wsV RX1 54 RX1 yX1_mark wsX1_mark) := goodIn_app (goodIn_of _ (by decide +kernel)) ggX1_settle_X1_mark
set_option maxRecDepth 20000 in
theorem ggX1_settle_X1_goRound : GoodIn wsX1_settle wsX1_goRound := goodIn_r _ [22, 1, 23, 24, 25, 26, 27, 28, 29, 30, 31, 32, 33, 34, 35, 36, 37, 38, 39, 40, 41, 42, 43, 44, 45, 46, 47, 48, 49, 50, 51, 52, 53, 54, 55, 56, 57, 58, 59, 60, 61, 62, 63, 64, 65, 66, 67, 68, 69, 81, 82, 83, 84, 85, 86, 87, 88, 89, 90, 91, 92, 93, 94, 95, 96, 97, 98, 99] (by decide +kernel) (by decide +kernel)
set_option maxRecDepth 20000 in
theorem gX1_settle_X1_goRound : GoodIn wsX1_settle (wsV RX1 36 RX1 yX1_goRound wsX1_goRound) := goodIn_app (goodIn_of _ (by decide +kernel)) ggX1_settle_X1_goRound
set_option maxRecDepth 20000 in
theorem ggX1_settle_X1_isMarked : GoodIn wsX1_settle wsX1_isMarked := goodIn_r _ [73, 14, 13, 81, 82, 83, 84, 85, 86, 87, 88, 89, 90, 91, 92, 93, 94, 95, 96, 97, 98, 99] (by decide +kernel) (by decide +kernel)
set_option maxRecDepth 20000 in
theorem gX1_settle_X1_isMarked : GoodIn wsX1_settle (wsV RX1 58 RX1 yX1_isMarked wsX1_isMarked) := goodIn_app (goodIn_of _ (by decide +kernel)) ggX1_settle_X1_isMarked
set_option maxRecDepth 20000 in
theorem ggX1_settle_J6_bitCount_0f7a4 : GoodIn wsX1_settle wsJ6_bitCount_0f7a4 := goodIn_r _ [77, 78, 79, 80] (by decide +kernel) (by decide +kernel)
set_option maxRecDepth 20000 in
theorem gX1_settle_J6_bitCount_0f7a4 : GoodIn wsX1_settle (va_wsS RX1 62 yJ6_bitCount_0f7a4 wsJ6_bitCount_0f7a4) := goodIn_app (goodIn_of _ (by decide +kernel)) ggX1_settle_J6_bitCount_0f7a4
theorem dX1_settle_0 : decode cX1_settle 0 = .ok (.aload_n 0, 1) := by decide +kernel
theorem dX1_settle_1 : decode cX1_settle 1 = .ok (.getfield 11, 3) := by decide +kernel
theorem dX1_settle_4 : decode cX1_settle 4 = .ok (.ldc 47, 2) := by decide +kernel
theorem dX1_settle_6 : decode cX1_settle 6 = .ok (.invokestatic 48, 3) := by decide +kernel
theorem dX1_settle_9 : decode cX1_settle 9 = .ok (.aload_n 0, 1) := by decide +kernel
theorem dX1_settle_10 : decode cX1_settle 10 = .ok (.aload_n 1, 1) := by decide +kernel
theorem dX1_settle_11 : decode cX1_settle 11 = .ok (.invokevirtual 54, 3) := by decide +kernel
theorem dX1_settle_14 : decode cX1_settle 14 = .ok (.iconst 0, 1) := by decide +kernel
theorem dX1_settle_15 : decode cX1_settle 15 = .ok (.istore_n 2, 1) := by decide +kernel
theorem dX1_settle_16 : decode cX1_settle 16 = .ok (.iconst 1, 1) := by decide +kernel
theorem dX1_settle_17 : decode cX1_settle 17 = .ok (.istore_n 3, 1) := by decide +kernel
theorem dX1_settle_18 : decode cX1_settle 18 = .ok (.iload_n 3, 1) := by decide +kernel
theorem dX1_settle_19 : decode cX1_settle 19 = .ok (.ldc 47, 2) := by decide +kernel
theorem dX1_settle_21 : decode cX1_settle 21 = .ok (.if_icmp .gt 58, 3) := by decide +kernel
theorem dX1_settle_24 : decode cX1_settle 24 = .ok (.aload_n 0, 1) := by decide +kernel
theorem dX1_settle_25 : decode cX1_settle 25 = .ok (.aload_n 1, 1) := by decide +kernel
theorem dX1_settle_26 : decode cX1_settle 26 = .ok (.invokevirtual 36, 3) := by decide +kernel
theorem dX1_settle_29 : decode cX1_settle 29 = .ok (.istore 4, 2) := by decide +kernel
theorem dX1_settle_31 : decode cX1_settle 31 = .ok (.iload 4, 2) := by decide +kernel
theorem dX1_settle_33 : decode cX1_settle 33 = .ok (.ifCond .ne 5, 3) := by decide +kernel
theorem dX1_settle_36 : decode cX1_settle 36 = .ok (.iload_n 2, 1) := by decide +kernel
theorem dX1_settle_37 : decode cX1_settle 37 = .ok (.ireturn, 1) := by decide +kernel
theorem dX1_settle_38 : decode cX1_settle 38 = .ok (.iload_n 2, 1) := by decide +kernel
theorem dX1_settle_39 : decode cX1_settle 39 = .ok (.iload 4, 2) := by decide +kernel
theorem dX1_settle_41 : decode cX1_settle 41 = .ok (.iadd, 1) := by decide +kernel
theorem dX1_settle_42 : decode cX1_settle 42 = .ok (.istore_n 2, 1) := by decide +kernel
theorem dX1_settle_43 : decode cX1_settle 43 = .ok (.iload_n 2, 1) := by decide +kernel
theorem dX1_settle_44 : decode cX1_settle 44 = .ok (.ldc 57, 2) := by decide +kernel
theorem dX1_settle_46 : decode cX1_settle 46 = .ok (.if_icmp .gt 11, 3) := by decide +kernel
theorem dX1_settle_49 : decode cX1_settle 49 = .ok (.aload_n 0, 1) := by decide +kernel
theorem dX1_settle_50 : decode cX1_settle 50 = .ok (.aload_n 1, 1) := by decide +kernel
theorem dX1_settle_51 : decode cX1_settle 51 = .ok (.invokevirtual 58, 3) := by decide +kernel
theorem dX1_settle_54 : decode cX1_settle 54 = .ok (.ifCond .eq 6, 3) := by decide +kernel
theorem dX1_settle_57 : decode cX1_settle 57 = .ok (.bipush (-5), 2) := by decide +kernel
theorem dX1_settle_59 : decode cX1_settle 59 = .ok (.ireturn, 1) := by decide +kernel
theorem dX1_settle_60 : decode cX1_settle 60 = .ok (.iload_n 3, 1) := by decide +kernel
theorem dX1_settle_61 : decode cX1_settle 61 = .ok (.invokestatic 62, 3) := by decide +kernel
theorem dX1_settle_64 : decode cX1_settle 64 = .ok (.iconst 1, 1) := by decide +kernel
theorem dX1_settle_65 : decode cX1_settle 65 = .ok (.if_icmp .ne 8, 3) := by decide +kernel
theorem dX1_settle_68 : decode cX1_settle 68 = .ok (.aload_n 0, 1) := by decide +kernel
theorem dX1_settle_69 : decode cX1_settle 69 = .ok (.aload_n 1, 1) := by decide +kernel
theorem dX1_settle_70 : decode cX1_settle 70 = .ok (.invokevirtual 54, 3) := by decide +kernel
theorem dX1_settle_73 : decode cX1_settle 73 = .ok (.iinc 3 1, 3) := by decide +kernel
theorem dX1_settle_76 : decode cX1_settle 76 = .ok (.goto (-58), 3) := by decide +kernel
theorem dX1_settle_79 : decode cX1_settle 79 = .ok (.bipush (-5), 2) := by decide +kernel
theorem dX1_settle_81 : decode cX1_settle 81 = .ok (.ireturn, 1) := by decide +kernel
set_option maxRecDepth 20000 in
theorem ggX1_goRound_X4_heading : GoodIn wsX1_goRound wsX4_heading := goodIn_r _ [6, 7, 8, 9, 10, 11, 12, 13, 14, 15, 5, 16, 17, 18, 19, 20, 21, 22, 23, 24, 25, 26, 27, 28, 29, 30, 31, 32, 51, 52, 53, 54, 55, 56, 57, 58, 59, 60, 61, 62, 63, 64, 65, 66, 67] (by decide +kernel) (by decide +kernel)
set_option maxRecDepth 20000 in
theorem gX1_goRound_X4_heading : GoodIn wsX1_goRound (wsV RX1 68 RX4 yX4_heading wsX4_heading) := goodIn_app (goodIn_of _ (by decide +kernel)) ggX1_goRound_X4_heading
set_option maxRecDepth 20000 in
theorem ggX1_goRound_X4_carry : GoodIn wsX1_goRound wsX4_carry := goodIn_r _ [36, 27, 12, 32, 10, 9, 37, 38, 39, 5, 40, 41, 7, 42, 43, 44, 45, 46, 47, 48, 51, 52, 53, 54, 55, 56, 57, 58, 59, 60, 61, 62, 63, 64, 65, 66, 67] (by decide +kernel) (by decide +kernel)
set_option maxRecDepth 20000 in
theorem gX1_goRound_X4_carry : GoodIn wsX1_goRound (wsV RX1 71 RX4 yX4_carry wsX4_carry) := goodIn_app (goodIn_of _ (by decide +kernel)) ggX1_goRound_X4_carry
theorem dX1_goRound_0 : decode cX1_goRound 0 = .ok (.iconst 0, 1) := by decide +kernel
theorem dX1_goRound_1 : decode cX1_goRound 1 = .ok (.istore_n 2, 1) := by decide +kernel
theorem dX1_goRound_2 : decode cX1_goRound 2 = .ok (.iconst 0, 1) := by decide +kernel
theorem dX1_goRound_3 : decode cX1_goRound 3 = .ok (.istore_n 3, 1) := by decide +kernel
theorem dX1_goRound_4 : decode cX1_goRound 4 = .ok (.iload_n 3, 1) := by decide +kernel
theorem dX1_goRound_5 : decode cX1_goRound 5 = .ok (.bipush 8, 2) := by decide +kernel
theorem dX1_goRound_7 : decode cX1_goRound 7 = .ok (.if_icmp .ge 54, 3) := by decide +kernel
theorem dX1_goRound_10 : decode cX1_goRound 10 = .ok (.aload_n 0, 1) := by decide +kernel
theorem dX1_goRound_11 : decode cX1_goRound 11 = .ok (.getfield 11, 3) := by decide +kernel
theorem dX1_goRound_14 : decode cX1_goRound 14 = .ok (.iload_n 3, 1) := by decide +kernel
theorem dX1_goRound_15 : decode cX1_goRound 15 = .ok (.iaload, 1) := by decide +kernel
theorem dX1_goRound_16 : decode cX1_goRound 16 = .ok (.ifCond .le 11, 3) := by decide +kernel
theorem dX1_goRound_19 : decode cX1_goRound 19 = .ok (.aload_n 1, 1) := by decide +kernel
theorem dX1_goRound_20 : decode cX1_goRound 20 = .ok (.iload_n 3, 1) := by decide +kernel
theorem dX1_goRound_21 : decode cX1_goRound 21 = .ok (.invokevirtual 68, 3) := by decide +kernel
theorem dX1_goRound_24 : decode cX1_goRound 24 = .ok (.goto 4, 3) := by decide +kernel
theorem dX1_goRound_27 : decode cX1_goRound 27 = .ok (.iconst 0, 1) := by decide +kernel
theorem dX1_goRound_28 : decode cX1_goRound 28 = .ok (.istore 4, 2) := by decide +kernel
theorem dX1_goRound_30 : decode cX1_goRound 30 = .ok (.iload 4, 2) := by decide +kernel
theorem dX1_goRound_32 : decode cX1_goRound 32 = .ok (.ifCond .eq 23, 3) := by decide +kernel
theorem dX1_goRound_35 : decode cX1_goRound 35 = .ok (.aload_n 1, 1) := by decide +kernel
theorem dX1_goRound_36 : decode cX1_goRound 36 = .ok (.iload_n 3, 1) := by decide +kernel
theorem dX1_goRound_37 : decode cX1_goRound 37 = .ok (.iload 4, 2) := by decide +kernel
theorem dX1_goRound_39 : decode cX1_goRound 39 = .ok (.invokevirtual 71, 3) := by decide +kernel
theorem dX1_goRound_42 : decode cX1_goRound 42 = .ok (.aload_n 0, 1) := by decide +kernel
theorem dX1_goRound_43 : decode cX1_goRound 43 = .ok (.getfield 11, 3) := by decide +kernel
theorem dX1_goRound_46 : decode cX1_goRound 46 = .ok (.iload_n 3, 1) := by decide +kernel
theorem dX1_goRound_47 : decode cX1_goRound 47 = .ok (.dup2, 1) := by decide +kernel
theorem dX1_goRound_48 : decode cX1_goRound 48 = .ok (.iaload, 1) := by decide +kernel
theorem dX1_goRound_49 : decode cX1_goRound 49 = .ok (.iconst 1, 1) := by decide +kernel
theorem dX1_goRound_50 : decode cX1_goRound 50 = .ok (.isub, 1) := by decide +kernel
theorem dX1_goRound_51 : decode cX1_goRound 51 = .ok (.iastore, 1) := by decide +kernel
theorem dX1_goRound_52 : decode cX1_goRound 52 = .ok (.iinc 2 1, 3) := by decide +kernel
theorem dX1_goRound_55 : decode cX1_goRound 55 = .ok (.iinc 3 1, 3) := by decide +kernel
theorem dX1_goRound_58 : decode cX1_goRound 58 = .ok (.goto (-54), 3) := by decide +kernel
theorem dX1_goRound_61 : decode cX1_goRound 61 = .ok (.iload_n 2, 1) := by decide +kernel
theorem dX1_goRound_62 : decode cX1_goRound 62 = .ok (.ireturn, 1) := by decide +kernel
theorem dX1_mark_0 : decode cX1_mark 0 = .ok (.aload_n 1, 1) := by decide +kernel
theorem dX1_mark_1 : decode cX1_mark 1 = .ok (.getfield 75, 3) := by decide +kernel
theorem dX1_mark_4 : decode cX1_mark 4 = .ok (.iconst 0, 1) := by decide +kernel
theorem dX1_mark_5 : decode cX1_mark 5 = .ok (.aload_n 0, 1) := by decide +kernel
theorem dX1_mark_6 : decode cX1_mark 6 = .ok (.getfield 15, 3) := by decide +kernel
theorem dX1_mark_9 : decode cX1_mark 9 = .ok (.iconst 0, 1) := by decide +kernel
theorem dX1_mark_10 : decode cX1_mark 10 = .ok (.bipush 8, 2) := by decide +kernel
theorem dX1_mark_12 : decode cX1_mark 12 = .ok (.invokestatic 30, 3) := by decide +kernel
theorem dX1_mark_15 : decode cX1_mark 15 = .ok (.return_, 1) := by decide +kernel
theorem dX1_isMarked_0 : decode cX1_isMarked 0 = .ok (.iconst 0, 1) := by decide +kernel
theorem dX1_isMarked_1 : decode cX1_isMarked 1 = .ok (.istore_n 2, 1) := by decide +kernel
theorem dX1_isMarked_2 : decode cX1_isMarked 2 = .ok (.iload_n 2, 1) := by decide +kernel
theorem dX1_isMarked_3 : decode cX1_isMarked 3 = .ok (.bipush 8, 2) := by decide +kernel
theorem dX1_isMarked_5 : decode cX1_isMarked 5 = .ok (.if_icmp .ge 27, 3) := by decide +kernel
theorem dX1_isMarked_8 : decode cX1_isMarked 8 = .ok (.aload_n 0, 1) := by decide +kernel
theorem dX1_isMarked_9 : decode cX1_isMarked 9 = .ok (.getfield 15, 3) := by decide +kernel
theorem dX1_isMarked_12 : decode cX1_isMarked 12 = .ok (.iload_n 2, 1) := by decide +kernel
theorem dX1_isMarked_13 : decode cX1_isMarked 13 = .ok (.laload, 1) := by decide +kernel
theorem dX1_isMarked_14 : decode cX1_isMarked 14 = .ok (.aload_n 1, 1) := by decide +kernel
theorem dX1_isMarked_15 : decode cX1_isMarked 15 = .ok (.getfield 75, 3) := by decide +kernel
theorem dX1_isMarked_18 : decode cX1_isMarked 18 = .ok (.iload_n 2, 1) := by decide +kernel
theorem dX1_isMarked_19 : decode cX1_isMarked 19 = .ok (.laload, 1) := by decide +kernel
theorem dX1_isMarked_20 : decode cX1_isMarked 20 = .ok (.lcmp, 1) := by decide +kernel
theorem dX1_isMarked_21 : decode cX1_isMarked 21 = .ok (.ifCond .eq 5, 3) := by decide +kernel
theorem dX1_isMarked_24 : decode cX1_isMarked 24 = .ok (.iconst 0, 1) := by decide +kernel
theorem dX1_isMarked_25 : decode cX1_isMarked 25 = .ok (.ireturn, 1) := by decide +kernel
theorem dX1_isMarked_26 : decode cX1_isMarked 26 = .ok (.iinc 2 1, 3) := by decide +kernel
theorem dX1_isMarked_29 : decode cX1_isMarked 29 = .ok (.goto (-27), 3) := by decide +kernel
theorem dX1_isMarked_32 : decode cX1_isMarked 32 = .ok (.iconst 1, 1) := by decide +kernel
theorem dX1_isMarked_33 : decode cX1_isMarked 33 = .ok (.ireturn, 1) := by decide +kernel
set_option maxRecDepth 20000 in
theorem ggX2_init_X4_init : GoodIn wsX2_init wsX4_init := goodIn_r _ [16, 17, 2, 3, 12, 18, 19, 20, 21, 22, 23, 24, 25, 26, 27, 28, 29, 30, 31, 32, 33, 34, 35, 36, 43, 44, 45, 46, 47, 48, 49, 50, 51, 52, 53, 54, 55, 56, 57, 58, 59] (by decide +kernel) (by decide +kernel)
set_option maxRecDepth 20000 in
theorem gX2_init_X4_init_n11 : GoodIn wsX2_init (wsX4_init) := ggX2_init_X4_init
set_option maxRecDepth 20000 in
theorem ggX2_init_X0_init : GoodIn wsX2_init wsX0_init := goodIn_r _ [38, 39, 2, 3, 12, 40, 41, 42, 64, 65, 66] (by decide +kernel) (by decide +kernel)
set_option maxRecDepth 20000 in
theorem gX2_init_X0_init_n20 : GoodIn wsX2_init (wsX0_init) := ggX2_init_X0_init
theorem dX2_init_0 : decode cX2_init 0 = .ok (.aload_n 0, 1) := by decide +kernel
theorem dX2_init_1 : decode cX2_init 1 = .ok (.invokespecial 3, 3) := by decide +kernel
theorem dX2_init_4 : decode cX2_init 4 = .ok (.aload_n 0, 1) := by decide +kernel
theorem dX2_init_5 : decode cX2_init 5 = .ok (.new 9, 3) := by decide +kernel
theorem dX2_init_8 : decode cX2_init 8 = .ok (.dup, 1) := by decide +kernel
theorem dX2_init_9 : decode cX2_init 9 = .ok (.invokespecial 11, 3) := by decide +kernel
theorem dX2_init_12 : decode cX2_init 12 = .ok (.putfield 12, 3) := by decide +kernel
theorem dX2_init_15 : decode cX2_init 15 = .ok (.aload_n 0, 1) := by decide +kernel
theorem dX2_init_16 : decode cX2_init 16 = .ok (.new 18, 3) := by decide +kernel
theorem dX2_init_19 : decode cX2_init 19 = .ok (.dup, 1) := by decide +kernel
theorem dX2_init_20 : decode cX2_init 20 = .ok (.invokespecial 20, 3) := by decide +kernel
theorem dX2_init_23 : decode cX2_init 23 = .ok (.putfield 21, 3) := by decide +kernel
theorem dX2_init_26 : decode cX2_init 26 = .ok (.aload_n 0, 1) := by decide +kernel
theorem dX2_init_27 : decode cX2_init 27 = .ok (.bipush 7, 2) := by decide +kernel
theorem dX2_init_29 : decode cX2_init 29 = .ok (.newarray .int, 2) := by decide +kernel
theorem dX2_init_31 : decode cX2_init 31 = .ok (.putfield 25, 3) := by decide +kernel
theorem dX2_init_34 : decode cX2_init 34 = .ok (.aload_n 0, 1) := by decide +kernel
theorem dX2_init_35 : decode cX2_init 35 = .ok (.iconst 0, 1) := by decide +kernel
theorem dX2_init_36 : decode cX2_init 36 = .ok (.putfield 29, 3) := by decide +kernel
theorem dX2_init_39 : decode cX2_init 39 = .ok (.return_, 1) := by decide +kernel
set_option maxRecDepth 20000 in
theorem ggX2_firstFault_X4_clear : GoodIn wsX2_firstFault wsX4_clear := goodIn_r _ [9, 10, 11, 12, 13, 14, 15, 16, 17, 18, 142, 143, 144, 145, 146, 147, 148, 149, 150, 151, 152, 153, 154, 155, 156, 157, 158] (by decide +kernel) (by decide +kernel)
set_option maxRecDepth 20000 in
theorem gX2_firstFault_X4_clear : GoodIn wsX2_firstFault (wsV RX2 33 RX4 yX4_clear wsX4_clear) := goodIn_app (goodIn_of _ (by decide +kernel)) ggX2_firstFault_X4_clear
set_option maxRecDepth 20000 in
theorem ggX2_firstFault_X0_clear : GoodIn wsX2_firstFault wsX0_clear := goodIn_r _ [23, 24, 25, 26, 27, 28, 29, 30, 159, 160, 161] (by decide +kernel) (by decide +kernel)
set_option maxRecDepth 20000 in
theorem gX2_firstFault_X0_clear : GoodIn wsX2_firstFault (wsV RX2 36 RX0 yX0_clear wsX0_clear) := goodIn_app (goodIn_of _ (by decide +kernel)) ggX2_firstFault_X0_clear
set_option maxRecDepth 20000 in
theorem ggX2_firstFault_X2_readItem : GoodIn wsX2_firstFault wsX2_readItem := goodIn_r _ [35, 36, 3, 37, 38, 34, 39, 40, 41, 42, 43, 44, 45, 46, 47, 4, 48, 49, 50, 51, 52, 53, 54, 55, 56, 57, 58, 59, 60, 61, 62, 63, 1, 64, 65, 66, 67, 68, 69, 70, 71, 72, 73, 74, 75, 76, 77, 78, 79, 80, 8, 81, 10, 82, 83, 84, 85, 86, 87, 88, 89, 90, 91, 92, 93, 94, 95, 96, 97, 98, 99, 100, 101, 102, 103, 104, 105, 106, 107, 108, 109, 110, 111, 112, 113, 114, 115, 116, 117, 118, 119, 120, 121, 122, 123, 2, 124, 125, 126, 22, 127, 24, 25, 26, 140, 141, 136, 137, 138, 139, 142, 143, 144, 145, 146, 147, 148, 149, 150, 151, 152, 153, 154, 155, 156, 157, 158, 159, 160, 161] (by decide +kernel) (by decide +kernel)
set_option maxRecDepth 20000 in
theorem gX2_firstFault_X2_readItem : GoodIn wsX2_firstFault (wsV RX2 42 RX2 yX2_readItem wsX2_readItem) := goodIn_app (goodIn_of _ (by decide +kernel)) ggX2_firstFault_X2_readItem
set_option maxRecDepth 20000 in
theorem ggX2_firstFault_X0_fillGaps : GoodIn wsX2_firstFault wsX0_fillGaps := goodIn_r _ [131, 24, 25, 26, 159, 160, 161] (by decide +kernel) (by decide +kernel)
set_option maxRecDepth 20000 in
theorem gX2_firstFault_X0_fillGaps : GoodIn wsX2_firstFault (wsV RX2 46 RX0 yX0_fillGaps wsX0_fillGaps) := goodIn_app (goodIn_of _ (by decide +kernel)) ggX2_firstFault_X0_fillGaps
set_option maxRecDepth 20000 in
theorem ggX2_firstFault_X4_weigh : GoodIn wsX2_firstFault wsX4_weigh := goodIn_r _ [135, 13, 16, 17, 15, 14, 88, 96, 97, 98, 92, 99, 142, 143, 144, 145, 146, 147, 148, 149, 150, 151, 152, 153, 154, 155, 156, 157, 158] (by decide +kernel) (by decide +kernel)
set_option maxRecDepth 20000 in
theorem gX2_firstFault_X4_weigh : GoodIn wsX2_firstFault (wsV RX2 49 RX4 yX4_weigh wsX4_weigh) := goodIn_app (goodIn_of _ (by decide +kernel)) ggX2_firstFault_X4_weigh
theorem dX2_firstFault_0 : decode cX2_firstFault 0 = .ok (.aload_n 0, 1) := by decide +kernel
theorem dX2_firstFault_1 : decode cX2_firstFault 1 = .ok (.getfield 12, 3) := by decide +kernel
theorem dX2_firstFault_4 : decode cX2_firstFault 4 = .ok (.invokevirtual 33, 3) := by decide +kernel
theorem dX2_firstFault_7 : decode cX2_firstFault 7 = .ok (.aload_n 0, 1) := by decide +kernel
theorem dX2_firstFault_8 : decode cX2_firstFault 8 = .ok (.getfield 21, 3) := by decide +kernel
theorem dX2_firstFault_11 : decode cX2_firstFault 11 = .ok (.invokevirtual 36, 3) := by decide +kernel
theorem dX2_firstFault_14 : decode cX2_firstFault 14 = .ok (.aload_n 0, 1) := by decide +kernel
theorem dX2_firstFault_15 : decode cX2_firstFault 15 = .ok (.iconst 0, 1) := by decide +kernel
theorem dX2_firstFault_16 : decode cX2_firstFault 16 = .ok (.putfield 29, 3) := by decide +kernel
theorem dX2_firstFault_19 : decode cX2_firstFault 19 = .ok (.iconst 0, 1) := by decide +kernel
theorem dX2_firstFault_20 : decode cX2_firstFault 20 = .ok (.istore_n 2, 1) := by decide +kernel
theorem dX2_firstFault_21 : decode cX2_firstFault 21 = .ok (.iload_n 2, 1) := by decide +kernel
theorem dX2_firstFault_22 : decode cX2_firstFault 22 = .ok (.sipush 400, 3) := by decide +kernel
theorem dX2_firstFault_25 : decode cX2_firstFault 25 = .ok (.if_icmp .ge 35, 3) := by decide +kernel
theorem dX2_firstFault_28 : decode cX2_firstFault 28 = .ok (.aload_n 0, 1) := by decide +kernel
theorem dX2_firstFault_29 : decode cX2_firstFault 29 = .ok (.getfield 29, 3) := by decide +kernel
theorem dX2_firstFault_32 : decode cX2_firstFault 32 = .ok (.aload_n 1, 1) := by decide +kernel
theorem dX2_firstFault_33 : decode cX2_firstFault 33 = .ok (.getfield 39, 3) := by decide +kernel
theorem dX2_firstFault_36 : decode cX2_firstFault 36 = .ok (.if_icmp .ge 24, 3) := by decide +kernel
theorem dX2_firstFault_39 : decode cX2_firstFault 39 = .ok (.aload_n 0, 1) := by decide +kernel
theorem dX2_firstFault_40 : decode cX2_firstFault 40 = .ok (.getfield 29, 3) := by decide +kernel
theorem dX2_firstFault_43 : decode cX2_firstFault 43 = .ok (.istore_n 3, 1) := by decide +kernel
theorem dX2_firstFault_44 : decode cX2_firstFault 44 = .ok (.aload_n 0, 1) := by decide +kernel
theorem dX2_firstFault_45 : decode cX2_firstFault 45 = .ok (.aload_n 1, 1) := by decide +kernel
theorem dX2_firstFault_46 : decode cX2_firstFault 46 = .ok (.invokevirtual 42, 3) := by decide +kernel
theorem dX2_firstFault_49 : decode cX2_firstFault 49 = .ok (.ifCond .ne 5, 3) := by decide +kernel
theorem dX2_firstFault_52 : decode cX2_firstFault 52 = .ok (.iload_n 3, 1) := by decide +kernel
theorem dX2_firstFault_53 : decode cX2_firstFault 53 = .ok (.ireturn, 1) := by decide +kernel
theorem dX2_firstFault_54 : decode cX2_firstFault 54 = .ok (.iinc 2 1, 3) := by decide +kernel
theorem dX2_firstFault_57 : decode cX2_firstFault 57 = .ok (.goto (-36), 3) := by decide +kernel
theorem dX2_firstFault_60 : decode cX2_firstFault 60 = .ok (.aload_n 0, 1) := by decide +kernel
theorem dX2_firstFault_61 : decode cX2_firstFault 61 = .ok (.getfield 21, 3) := by decide +kernel
theorem dX2_firstFault_64 : decode cX2_firstFault 64 = .ok (.invokevirtual 46, 3) := by decide +kernel
theorem dX2_firstFault_67 : decode cX2_firstFault 67 = .ok (.aload_n 0, 1) := by decide +kernel
theorem dX2_firstFault_68 : decode cX2_firstFault 68 = .ok (.getfield 12, 3) := by decide +kernel
theorem dX2_firstFault_71 : decode cX2_firstFault 71 = .ok (.invokevirtual 49, 3) := by decide +kernel
theorem dX2_firstFault_74 : decode cX2_firstFault 74 = .ok (.bipush (-4), 2) := by decide +kernel
theorem dX2_firstFault_76 : decode cX2_firstFault 76 = .ok (.ireturn, 1) := by decide +kernel
set_option maxRecDepth 20000 in
theorem ggX2_readItem_X2_numbersBehind : GoodIn wsX2_readItem wsX2_numbersBehind := goodIn_r _ [6] (by decide +kernel) (by decide +kernel)
set_option maxRecDepth 20000 in
theorem gX2_readItem_X2_numbersBehind : GoodIn wsX2_readItem (va_wsS RX2 56 yX2_numbersBehind wsX2_numbersBehind) := goodIn_app (goodIn_of _ (by decide +kernel)) ggX2_readItem_X2_numbersBehind
set_option maxRecDepth 20000 in
theorem ggX2_readItem_X2_readNumbers : GoodIn wsX2_readItem wsX2_readNumbers := goodIn_r _ [10, 11, 12, 13, 5, 14, 2, 15, 1, 16, 17, 18, 19, 20, 21, 22, 23, 106, 107, 108, 109, 104, 105] (by decide +kernel) (by decide +kernel)
set_option maxRecDepth 20000 in
theorem gX2_readItem_X2_readNumbers : GoodIn wsX2_readItem (wsV RX2 60 RX2 yX2_readNumbers wsX2_readNumbers) := goodIn_app (goodIn_of _ (by decide +kernel)) ggX2_readItem_X2_readNumbers
set_option maxRecDepth 20000 in
theorem ggX2_readItem_X2_takeItem : GoodIn wsX2_readItem wsX2_takeItem := goodIn_r _ [27, 28, 29, 30, 5, 31, 32, 16, 33, 34, 35, 36, 37, 38, 39, 40, 41, 42, 43, 44, 45, 46, 47, 48, 49, 50, 51, 52, 53, 54, 55, 56, 57, 58, 59, 60, 61, 62, 63, 64, 65, 66, 67, 68, 69, 70, 71, 72, 73, 74, 75, 76, 77, 78, 79, 80, 81, 82, 83, 84, 85, 86, 87, 88, 89, 90, 91, 92, 93, 94, 95, 96, 97, 98, 99, 100, 101, 102, 103, 106, 107, 108, 109, 110, 111, 112, 113, 114, 115, 116, 117, 118, 119, 120, 121, 122, 123, 124, 125, 126, 127, 128, 129] (by decide +kernel) (by decide +kernel)
set_option maxRecDepth 20000 in
theorem gX2_readItem_X2_takeItem : GoodIn wsX2_readItem (wsV RX2 64 RX2 yX2_takeItem wsX2_takeItem) := goodIn_app (goodIn_of _ (by decide +kernel)) ggX2_readItem_X2_takeItem
theorem dX2_readItem_0 : decode cX2_readItem 0 = .ok (.aload_n 1, 1) := by decide +kernel
theorem dX2_readItem_1 : decode cX2_readItem 1 = .ok (.getfield 52, 3) := by decide +kernel
theorem dX2_readItem_4 : decode cX2_readItem 4 = .ok (.aload_n 0, 1) := by decide +kernel
theorem dX2_readItem_5 : decode cX2_readItem 5 = .ok (.getfield 29, 3) := by decide +kernel
theorem dX2_readItem_8 : decode cX2_readItem 8 = .ok (.baload, 1) := by decide +kernel
theorem dX2_readItem_9 : decode cX2_readItem 9 = .ok (.istore_n 2, 1) := by decide +kernel
theorem dX2_readItem_10 : decode cX2_readItem 10 = .ok (.aload_n 0, 1) := by decide +kernel
theorem dX2_readItem_11 : decode cX2_readItem 11 = .ok (.dup, 1) := by decide +kernel
theorem dX2_readItem_12 : decode cX2_readItem 12 = .ok (.getfield 29, 3) := by decide +kernel
theorem dX2_readItem_15 : decode cX2_readItem 15 = .ok (.iconst 1, 1) := by decide +kernel
theorem dX2_readItem_16 : decode cX2_readItem 16 = .ok (.iadd, 1) := by decide +kernel
theorem dX2_readItem_17 : decode cX2_readItem 17 = .ok (.putfield 29, 3) := by decide +kernel
theorem dX2_readItem_20 : decode cX2_readItem 20 = .ok (.iload_n 2, 1) := by decide +kernel
theorem dX2_readItem_21 : decode cX2_readItem 21 = .ok (.invokestatic 56, 3) := by decide +kernel
theorem dX2_readItem_24 : decode cX2_readItem 24 = .ok (.istore_n 3, 1) := by decide +kernel
theorem dX2_readItem_25 : decode cX2_readItem 25 = .ok (.iload_n 3, 1) := by decide +kernel
theorem dX2_readItem_26 : decode cX2_readItem 26 = .ok (.ifCond .le 24, 3) := by decide +kernel
theorem dX2_readItem_29 : decode cX2_readItem 29 = .ok (.aload_n 0, 1) := by decide +kernel
theorem dX2_readItem_30 : decode cX2_readItem 30 = .ok (.aload_n 1, 1) := by decide +kernel
theorem dX2_readItem_31 : decode cX2_readItem 31 = .ok (.iload_n 3, 1) := by decide +kernel
theorem dX2_readItem_32 : decode cX2_readItem 32 = .ok (.invokevirtual 60, 3) := by decide +kernel
theorem dX2_readItem_35 : decode cX2_readItem 35 = .ok (.ifCond .eq 15, 3) := by decide +kernel
theorem dX2_readItem_38 : decode cX2_readItem 38 = .ok (.aload_n 0, 1) := by decide +kernel
theorem dX2_readItem_39 : decode cX2_readItem 39 = .ok (.iload_n 2, 1) := by decide +kernel
theorem dX2_readItem_40 : decode cX2_readItem 40 = .ok (.invokevirtual 64, 3) := by decide +kernel
theorem dX2_readItem_43 : decode cX2_readItem 43 = .ok (.ifCond .eq 7, 3) := by decide +kernel
theorem dX2_readItem_46 : decode cX2_readItem 46 = .ok (.iconst 1, 1) := by decide +kernel
theorem dX2_readItem_47 : decode cX2_readItem 47 = .ok (.goto 4, 3) := by decide +kernel
theorem dX2_readItem_50 : decode cX2_readItem 50 = .ok (.iconst 0, 1) := by decide +kernel
theorem dX2_readItem_51 : decode cX2_readItem 51 = .ok (.ireturn, 1) := by decide +kernel
theorem dX2_numbersBehind_0 : decode cX2_numbersBehind 0 = .ok (.iload_n 0, 1) := by decide +kernel
theorem dX2_numbersBehind_1 : decode cX2_numbersBehind 1 = .ok (.tableswitch 80 103 115 #[78, 80, 80, 80, 76, 70, 74, 80, 80, 80, 80, 67, 72], 67) := by decide +kernel
theorem dX2_numbersBehind_68 : decode cX2_numbersBehind 68 = .ok (.bipush 7, 2) := by decide +kernel
theorem dX2_numbersBehind_70 : decode cX2_numbersBehind 70 = .ok (.ireturn, 1) := by decide +kernel
theorem dX2_numbersBehind_71 : decode cX2_numbersBehind 71 = .ok (.iconst 1, 1) := by decide +kernel
theorem dX2_numbersBehind_72 : decode cX2_numbersBehind 72 = .ok (.ireturn, 1) := by decide +kernel
theorem dX2_numbersBehind_73 : decode cX2_numbersBehind 73 = .ok (.iconst 2, 1) := by decide +kernel
theorem dX2_numbersBehind_74 : decode cX2_numbersBehind 74 = .ok (.ireturn, 1) := by decide +kernel
theorem dX2_numbersBehind_75 : decode cX2_numbersBehind 75 = .ok (.iconst 2, 1) := by decide +kernel
theorem dX2_numbersBehind_76 : decode cX2_numbersBehind 76 = .ok (.ireturn, 1) := by decide +kernel
theorem dX2_numbersBehind_77 : decode cX2_numbersBehind 77 = .ok (.iconst 1, 1) := by decide +kernel
theorem dX2_numbersBehind_78 : decode cX2_numbersBehind 78 = .ok (.ireturn, 1) := by decide +kernel
theorem dX2_numbersBehind_79 : decode cX2_numbersBehind 79 = .ok (.iconst 3, 1) := by decide +kernel
theorem dX2_numbersBehind_80 : decode cX2_numbersBehind 80 = .ok (.ireturn, 1) := by decide +kernel
theorem dX2_numbersBehind_81 : decode cX2_numbersBehind 81 = .ok (.iconst 0, 1) := by decide +kernel
theorem dX2_numbersBehind_82 : decode cX2_numbersBehind 82 = .ok (.ireturn, 1) := by decide +kernel
set_option maxRecDepth 20000 in
theorem ggX2_readNumbers_X2_readNumber : GoodIn wsX2_readNumbers wsX2_readNumber := goodIn_r _ [5, 6, 7, 8, 9, 10, 11, 4, 12, 17, 18, 19, 20, 21, 22] (by decide +kernel) (by decide +kernel)
set_option maxRecDepth 20000 in
theorem gX2_readNumbers_X2_readNumber : GoodIn wsX2_readNumbers (wsV RX2 68 RX2 yX2_readNumber wsX2_readNumber) := goodIn_app (goodIn_of _ (by decide +kernel)) ggX2_readNumbers_X2_readNumber
set_option maxRecDepth 20000 in
theorem ggX2_readNumbers_X2_readSign : GoodIn wsX2_readNumbers wsX2_readSign := goodIn_r _ [16, 6, 7, 8, 17, 18, 19, 20, 21, 22] (by decide +kernel) (by decide +kernel)
set_option maxRecDepth 20000 in
theorem gX2_readNumbers_X2_readSign : GoodIn wsX2_readNumbers (wsV RX2 71 RX2 yX2_readSign wsX2_readSign) := goodIn_app (goodIn_of _ (by decide +kernel)) ggX2_readNumbers_X2_readSign
theorem dX2_readNumbers_0 : decode cX2_readNumbers 0 = .ok (.iconst 0, 1) := by decide +kernel
theorem dX2_readNumbers_1 : decode cX2_readNumbers 1 = .ok (.istore_n 3, 1) := by decide +kernel
theorem dX2_readNumbers_2 : decode cX2_readNumbers 2 = .ok (.iload_n 3, 1) := by decide +kernel
theorem dX2_readNumbers_3 : decode cX2_readNumbers 3 = .ok (.iload_n 2, 1) := by decide +kernel
theorem dX2_readNumbers_4 : decode cX2_readNumbers 4 = .ok (.if_icmp .ge 52, 3) := by decide +kernel
theorem dX2_readNumbers_7 : decode cX2_readNumbers 7 = .ok (.iload_n 3, 1) := by decide +kernel
theorem dX2_readNumbers_8 : decode cX2_readNumbers 8 = .ok (.bipush 7, 2) := by decide +kernel
theorem dX2_readNumbers_10 : decode cX2_readNumbers 10 = .ok (.if_icmp .ge 46, 3) := by decide +kernel
theorem dX2_readNumbers_13 : decode cX2_readNumbers 13 = .ok (.iload_n 3, 1) := by decide +kernel
theorem dX2_readNumbers_14 : decode cX2_readNumbers 14 = .ok (.iconst 1, 1) := by decide +kernel
theorem dX2_readNumbers_15 : decode cX2_readNumbers 15 = .ok (.iadd, 1) := by decide +kernel
theorem dX2_readNumbers_16 : decode cX2_readNumbers 16 = .ok (.iload_n 2, 1) := by decide +kernel
theorem dX2_readNumbers_17 : decode cX2_readNumbers 17 = .ok (.if_icmp .ge 8, 3) := by decide +kernel
theorem dX2_readNumbers_20 : decode cX2_readNumbers 20 = .ok (.bipush 44, 2) := by decide +kernel
theorem dX2_readNumbers_22 : decode cX2_readNumbers 22 = .ok (.goto 5, 3) := by decide +kernel
theorem dX2_readNumbers_25 : decode cX2_readNumbers 25 = .ok (.bipush 59, 2) := by decide +kernel
theorem dX2_readNumbers_27 : decode cX2_readNumbers 27 = .ok (.istore 4, 2) := by decide +kernel
theorem dX2_readNumbers_29 : decode cX2_readNumbers 29 = .ok (.aload_n 0, 1) := by decide +kernel
theorem dX2_readNumbers_30 : decode cX2_readNumbers 30 = .ok (.aload_n 1, 1) := by decide +kernel
theorem dX2_readNumbers_31 : decode cX2_readNumbers 31 = .ok (.iload_n 3, 1) := by decide +kernel
theorem dX2_readNumbers_32 : decode cX2_readNumbers 32 = .ok (.invokevirtual 68, 3) := by decide +kernel
theorem dX2_readNumbers_35 : decode cX2_readNumbers 35 = .ok (.ifCond .eq 13, 3) := by decide +kernel
theorem dX2_readNumbers_38 : decode cX2_readNumbers 38 = .ok (.aload_n 0, 1) := by decide +kernel
theorem dX2_readNumbers_39 : decode cX2_readNumbers 39 = .ok (.aload_n 1, 1) := by decide +kernel
theorem dX2_readNumbers_40 : decode cX2_readNumbers 40 = .ok (.iload 4, 2) := by decide +kernel
theorem dX2_readNumbers_42 : decode cX2_readNumbers 42 = .ok (.invokevirtual 71, 3) := by decide +kernel
theorem dX2_readNumbers_45 : decode cX2_readNumbers 45 = .ok (.ifCond .ne 5, 3) := by decide +kernel
theorem dX2_readNumbers_48 : decode cX2_readNumbers 48 = .ok (.iconst 0, 1) := by decide +kernel
theorem dX2_readNumbers_49 : decode cX2_readNumbers 49 = .ok (.ireturn, 1) := by decide +kernel
theorem dX2_readNumbers_50 : decode cX2_readNumbers 50 = .ok (.iinc 3 1, 3) := by decide +kernel
theorem dX2_readNumbers_53 : decode cX2_readNumbers 53 = .ok (.goto (-51), 3) := by decide +kernel
theorem dX2_readNumbers_56 : decode cX2_readNumbers 56 = .ok (.iconst 1, 1) := by decide +kernel
theorem dX2_readNumbers_57 : decode cX2_readNumbers 57 = .ok (.ireturn, 1) := by decide +kernel
set_option maxRecDepth 20000 in
theorem ggX2_readNumber_X2_isFigure : GoodIn wsX2_readNumber wsX2_isFigure := goodIn_r _ [8] (by decide +kernel) (by decide +kernel)
set_option maxRecDepth 20000 in
theorem gX2_readNumber_X2_isFigure : GoodIn wsX2_readNumber (va_wsS RX2 74 yX2_isFigure wsX2_isFigure) := goodIn_app (goodIn_of _ (by decide +kernel)) ggX2_readNumber_X2_isFigure
theorem dX2_readNumber_0 : decode cX2_readNumber 0 = .ok (.iconst 0, 1) := by decide +kernel
theorem dX2_readNumber_1 : decode cX2_readNumber 1 = .ok (.istore_n 3, 1) := by decide +kernel
theorem dX2_readNumber_2 : decode cX2_readNumber 2 = .ok (.iconst 0, 1) := by decide +kernel
theorem dX2_readNumber_3 : decode cX2_readNumber 3 = .ok (.istore 4, 2) := by decide +kernel
theorem dX2_readNumber_5 : decode cX2_readNumber 5 = .ok (.iload_n 3, 1) := by decide +kernel
theorem dX2_readNumber_6 : decode cX2_readNumber 6 = .ok (.iconst 5, 1) := by decide +kernel
theorem dX2_readNumber_7 : decode cX2_readNumber 7 = .ok (.if_icmp .ge 65, 3) := by decide +kernel
theorem dX2_readNumber_10 : decode cX2_readNumber 10 = .ok (.aload_n 0, 1) := by decide +kernel
theorem dX2_readNumber_11 : decode cX2_readNumber 11 = .ok (.getfield 29, 3) := by decide +kernel
theorem dX2_readNumber_14 : decode cX2_readNumber 14 = .ok (.aload_n 1, 1) := by decide +kernel
theorem dX2_readNumber_15 : decode cX2_readNumber 15 = .ok (.getfield 39, 3) := by decide +kernel
theorem dX2_readNumber_18 : decode cX2_readNumber 18 = .ok (.if_icmp .ge 54, 3) := by decide +kernel
theorem dX2_readNumber_21 : decode cX2_readNumber 21 = .ok (.aload_n 1, 1) := by decide +kernel
theorem dX2_readNumber_22 : decode cX2_readNumber 22 = .ok (.getfield 52, 3) := by decide +kernel
theorem dX2_readNumber_25 : decode cX2_readNumber 25 = .ok (.aload_n 0, 1) := by decide +kernel
theorem dX2_readNumber_26 : decode cX2_readNumber 26 = .ok (.getfield 29, 3) := by decide +kernel
theorem dX2_readNumber_29 : decode cX2_readNumber 29 = .ok (.baload, 1) := by decide +kernel
theorem dX2_readNumber_30 : decode cX2_readNumber 30 = .ok (.invokestatic 74, 3) := by decide +kernel
theorem dX2_readNumber_33 : decode cX2_readNumber 33 = .ok (.ifCond .eq 39, 3) := by decide +kernel
theorem dX2_readNumber_36 : decode cX2_readNumber 36 = .ok (.iload 4, 2) := by decide +kernel
theorem dX2_readNumber_38 : decode cX2_readNumber 38 = .ok (.bipush 10, 2) := by decide +kernel
theorem dX2_readNumber_40 : decode cX2_readNumber 40 = .ok (.imul, 1) := by decide +kernel
theorem dX2_readNumber_41 : decode cX2_readNumber 41 = .ok (.aload_n 1, 1) := by decide +kernel
theorem dX2_readNumber_42 : decode cX2_readNumber 42 = .ok (.getfield 52, 3) := by decide +kernel
theorem dX2_readNumber_45 : decode cX2_readNumber 45 = .ok (.aload_n 0, 1) := by decide +kernel
theorem dX2_readNumber_46 : decode cX2_readNumber 46 = .ok (.getfield 29, 3) := by decide +kernel
theorem dX2_readNumber_49 : decode cX2_readNumber 49 = .ok (.baload, 1) := by decide +kernel
theorem dX2_readNumber_50 : decode cX2_readNumber 50 = .ok (.bipush 48, 2) := by decide +kernel
theorem dX2_readNumber_52 : decode cX2_readNumber 52 = .ok (.isub, 1) := by decide +kernel
theorem dX2_readNumber_53 : decode cX2_readNumber 53 = .ok (.iadd, 1) := by decide +kernel
theorem dX2_readNumber_54 : decode cX2_readNumber 54 = .ok (.istore 4, 2) := by decide +kernel
theorem dX2_readNumber_56 : decode cX2_readNumber 56 = .ok (.aload_n 0, 1) := by decide +kernel
theorem dX2_readNumber_57 : decode cX2_readNumber 57 = .ok (.dup, 1) := by decide +kernel
theorem dX2_readNumber_58 : decode cX2_readNumber 58 = .ok (.getfield 29, 3) := by decide +kernel
theorem dX2_readNumber_61 : decode cX2_readNumber 61 = .ok (.iconst 1, 1) := by decide +kernel
theorem dX2_readNumber_62 : decode cX2_readNumber 62 = .ok (.iadd, 1) := by decide +kernel
theorem dX2_readNumber_63 : decode cX2_readNumber 63 = .ok (.putfield 29, 3) := by decide +kernel
theorem dX2_readNumber_66 : decode cX2_readNumber 66 = .ok (.iinc 3 1, 3) := by decide +kernel
theorem dX2_readNumber_69 : decode cX2_readNumber 69 = .ok (.goto (-64), 3) := by decide +kernel
theorem dX2_readNumber_72 : decode cX2_readNumber 72 = .ok (.aload_n 0, 1) := by decide +kernel
theorem dX2_readNumber_73 : decode cX2_readNumber 73 = .ok (.getfield 25, 3) := by decide +kernel
theorem dX2_readNumber_76 : decode cX2_readNumber 76 = .ok (.iload_n 2, 1) := by decide +kernel
theorem dX2_readNumber_77 : decode cX2_readNumber 77 = .ok (.iload 4, 2) := by decide +kernel
theorem dX2_readNumber_79 : decode cX2_readNumber 79 = .ok (.iastore, 1) := by decide +kernel
theorem dX2_readNumber_80 : decode cX2_readNumber 80 = .ok (.iload_n 3, 1) := by decide +kernel
theorem dX2_readNumber_81 : decode cX2_readNumber 81 = .ok (.ifCond .le 7, 3) := by decide +kernel
theorem dX2_readNumber_84 : decode cX2_readNumber 84 = .ok (.iconst 1, 1) := by decide +kernel
theorem dX2_readNumber_85 : decode cX2_readNumber 85 = .ok (.goto 4, 3) := by decide +kernel
theorem dX2_readNumber_88 : decode cX2_readNumber 88 = .ok (.iconst 0, 1) := by decide +kernel
theorem dX2_readNumber_89 : decode cX2_readNumber 89 = .ok (.ireturn, 1) := by decide +kernel
theorem dX2_readSign_0 : decode cX2_readSign 0 = .ok (.aload_n 0, 1) := by decide +kernel
theorem dX2_readSign_1 : decode cX2_readSign 1 = .ok (.getfield 29, 3) := by decide +kernel
theorem dX2_readSign_4 : decode cX2_readSign 4 = .ok (.aload_n 1, 1) := by decide +kernel
theorem dX2_readSign_5 : decode cX2_readSign 5 = .ok (.getfield 39, 3) := by decide +kernel
theorem dX2_readSign_8 : decode cX2_readSign 8 = .ok (.if_icmp .ge 16, 3) := by decide +kernel
theorem dX2_readSign_11 : decode cX2_readSign 11 = .ok (.aload_n 1, 1) := by decide +kernel
theorem dX2_readSign_12 : decode cX2_readSign 12 = .ok (.getfield 52, 3) := by decide +kernel
theorem dX2_readSign_15 : decode cX2_readSign 15 = .ok (.aload_n 0, 1) := by decide +kernel
theorem dX2_readSign_16 : decode cX2_readSign 16 = .ok (.getfield 29, 3) := by decide +kernel
theorem dX2_readSign_19 : decode cX2_readSign 19 = .ok (.baload, 1) := by decide +kernel
theorem dX2_readSign_20 : decode cX2_readSign 20 = .ok (.iload_n 2, 1) := by decide +kernel
theorem dX2_readSign_21 : decode cX2_readSign 21 = .ok (.if_icmp .eq 5, 3) := by decide +kernel
theorem dX2_readSign_24 : decode cX2_readSign 24 = .ok (.iconst 0, 1) := by decide +kernel
theorem dX2_readSign_25 : decode cX2_readSign 25 = .ok (.ireturn, 1) := by decide +kernel
theorem dX2_readSign_26 : decode cX2_readSign 26 = .ok (.aload_n 0, 1) := by decide +kernel
theorem dX2_readSign_27 : decode cX2_readSign 27 = .ok (.dup, 1) := by decide +kernel
theorem dX2_readSign_28 : decode cX2_readSign 28 = .ok (.getfield 29, 3) := by decide +kernel
theorem dX2_readSign_31 : decode cX2_readSign 31 = .ok (.iconst 1, 1) := by decide +kernel
theorem dX2_readSign_32 : decode cX2_readSign 32 = .ok (.iadd, 1) := by decide +kernel
theorem dX2_readSign_33 : decode cX2_readSign 33 = .ok (.putfield 29, 3) := by decide +kernel
theorem dX2_readSign_36 : decode cX2_readSign 36 = .ok (.iconst 1, 1) := by decide +kernel
theorem dX2_readSign_37 : decode cX2_readSign 37 = .ok (.ireturn, 1) := by decide +kernel
theorem dX2_isFigure_0 : decode cX2_isFigure 0 = .ok (.iload_n 0, 1) := by decide +kernel
theorem dX2_isFigure_1 : decode cX2_isFigure 1 = .ok (.bipush 48, 2) := by decide +kernel
theorem dX2_isFigure_3 : decode cX2_isFigure 3 = .ok (.if_icmp .lt 13, 3) := by decide +kernel
theorem dX2_isFigure_6 : decode cX2_isFigure 6 = .ok (.iload_n 0, 1) := by decide +kernel
theorem dX2_isFigure_7 : decode cX2_isFigure 7 = .ok (.bipush 57, 2) := by decide +kernel
theorem dX2_isFigure_9 : decode cX2_isFigure 9 = .ok (.if_icmp .gt 7, 3) := by decide +kernel
theorem dX2_isFigure_12 : decode cX2_isFigure 12 = .ok (.iconst 1, 1) := by decide +kernel
theorem dX2_isFigure_13 : decode cX2_isFigure 13 = .ok (.goto 4, 3) := by decide +kernel
theorem dX2_isFigure_16 : decode cX2_isFigure 16 = .ok (.iconst 0, 1) := by decide +kernel
theorem dX2_isFigure_17 : decode cX2_isFigure 17 = .ok (.ireturn, 1) := by decide +kernel
set_option maxRecDepth 20000 in
theorem ggX2_takeItem_X2_takeRealm : GoodIn wsX2_takeItem wsX2_takeRealm := goodIn_r _ [5, 6, 7, 8, 9, 10, 11, 12, 13, 14, 15, 16, 17, 18, 19, 20, 4, 21, 22, 23, 24, 25, 26, 27, 28, 29, 30, 31, 32, 33, 34, 35, 36, 37, 38, 39, 40, 41, 42, 43, 44, 45, 79, 80, 81, 82, 83, 84, 85, 86, 87, 88, 89, 90, 91, 92, 93, 94, 95, 96, 97, 98, 99] (by decide +kernel) (by decide +kernel)
set_option maxRecDepth 20000 in
theorem gX2_takeItem_X2_takeRealm : GoodIn wsX2_takeItem (wsV RX2 77 RX2 yX2_takeRealm wsX2_takeRealm) := goodIn_app (goodIn_of _ (by decide +kernel)) ggX2_takeItem_X2_takeRealm
set_option maxRecDepth 20000 in
theorem ggX2_takeItem_X2_takeLimp : GoodIn wsX2_takeItem wsX2_takeLimp := goodIn_r _ [49, 6, 7, 50, 22, 23, 24, 25, 26, 27, 79, 80, 81, 82, 83, 84, 85, 86, 87, 88, 89, 90, 91, 92, 93, 94, 95, 96, 97, 98, 99] (by decide +kernel) (by decide +kernel)
set_option maxRecDepth 20000 in
theorem gX2_takeItem_X2_takeLimp : GoodIn wsX2_takeItem (wsV RX2 81 RX2 yX2_takeLimp wsX2_takeLimp) := goodIn_app (goodIn_of _ (by decide +kernel)) ggX2_takeItem_X2_takeLimp
set_option maxRecDepth 20000 in
theorem ggX2_takeItem_X2_takeStop : GoodIn wsX2_takeItem wsX2_takeStop := goodIn_r _ [54, 6, 7, 17, 22, 23, 24, 25, 26, 27, 18, 19, 20, 4, 21, 79, 80, 81, 82, 83, 84, 85, 86, 87, 88, 89, 90, 91, 92, 93, 94, 95, 96, 97, 98, 99] (by decide +kernel) (by decide +kernel)
set_option maxRecDepth 20000 in
theorem gX2_takeItem_X2_takeStop : GoodIn wsX2_takeItem (wsV RX2 84 RX2 yX2_takeStop wsX2_takeStop) := goodIn_app (goodIn_of _ (by decide +kernel)) ggX2_takeItem_X2_takeStop
set_option maxRecDepth 20000 in
theorem ggX2_takeItem_X2_takeMarket : GoodIn wsX2_takeItem wsX2_takeMarket := goodIn_r _ [58, 6, 7, 59, 15, 60, 79, 80, 81, 82, 83, 84, 85, 86, 87, 88, 89, 90, 91, 92, 93, 94, 95, 96, 97, 98, 99] (by decide +kernel) (by decide +kernel)
set_option maxRecDepth 20000 in
theorem gX2_takeItem_X2_takeMarket : GoodIn wsX2_takeItem (wsV RX2 87 RX2 yX2_takeMarket wsX2_takeMarket) := goodIn_app (goodIn_of _ (by decide +kernel)) ggX2_takeItem_X2_takeMarket
set_option maxRecDepth 20000 in
theorem ggX2_takeItem_X2_takeScarcity : GoodIn wsX2_takeItem wsX2_takeScarcity := goodIn_r _ [64, 6, 7, 65, 18, 19, 20, 4, 21, 79, 80, 81, 82, 83, 84, 85, 86, 87, 88, 89, 90, 91, 92, 93, 94, 95, 96, 97, 98, 99] (by decide +kernel) (by decide +kernel)
set_option maxRecDepth 20000 in
theorem gX2_takeItem_X2_takeScarcity : GoodIn wsX2_takeItem (wsV RX2 90 RX2 yX2_takeScarcity wsX2_takeScarcity) := goodIn_app (goodIn_of _ (by decide +kernel)) ggX2_takeItem_X2_takeScarcity
set_option maxRecDepth 20000 in
theorem ggX2_takeItem_X2_takeMines : GoodIn wsX2_takeItem wsX2_takeMines := goodIn_r _ [69, 70, 7, 18, 19, 20, 4, 21, 71, 72, 73, 74, 75, 76, 77, 78, 79, 80, 81, 82, 100, 101, 102] (by decide +kernel) (by decide +kernel)
set_option maxRecDepth 20000 in
theorem gX2_takeItem_X2_takeMines : GoodIn wsX2_takeItem (wsV RX2 93 RX2 yX2_takeMines wsX2_takeMines) := goodIn_app (goodIn_of _ (by decide +kernel)) ggX2_takeItem_X2_takeMines
theorem dX2_takeItem_0 : decode cX2_takeItem 0 = .ok (.iload_n 1, 1) := by decide +kernel
theorem dX2_takeItem_1 : decode cX2_takeItem 1 = .ok (.tableswitch 97 103 115 #[92, 97, 97, 97, 87, 72, 82, 97, 97, 97, 97, 67, 77], 67) := by decide +kernel
theorem dX2_takeItem_68 : decode cX2_takeItem 68 = .ok (.aload_n 0, 1) := by decide +kernel
theorem dX2_takeItem_69 : decode cX2_takeItem 69 = .ok (.invokevirtual 77, 3) := by decide +kernel
theorem dX2_takeItem_72 : decode cX2_takeItem 72 = .ok (.ireturn, 1) := by decide +kernel
theorem dX2_takeItem_73 : decode cX2_takeItem 73 = .ok (.aload_n 0, 1) := by decide +kernel
theorem dX2_takeItem_74 : decode cX2_takeItem 74 = .ok (.invokevirtual 81, 3) := by decide +kernel
theorem dX2_takeItem_77 : decode cX2_takeItem 77 = .ok (.ireturn, 1) := by decide +kernel
theorem dX2_takeItem_78 : decode cX2_takeItem 78 = .ok (.aload_n 0, 1) := by decide +kernel
theorem dX2_takeItem_79 : decode cX2_takeItem 79 = .ok (.invokevirtual 84, 3) := by decide +kernel
theorem dX2_takeItem_82 : decode cX2_takeItem 82 = .ok (.ireturn, 1) := by decide +kernel
theorem dX2_takeItem_83 : decode cX2_takeItem 83 = .ok (.aload_n 0, 1) := by decide +kernel
theorem dX2_takeItem_84 : decode cX2_takeItem 84 = .ok (.invokevirtual 87, 3) := by decide +kernel
theorem dX2_takeItem_87 : decode cX2_takeItem 87 = .ok (.ireturn, 1) := by decide +kernel
theorem dX2_takeItem_88 : decode cX2_takeItem 88 = .ok (.aload_n 0, 1) := by decide +kernel
theorem dX2_takeItem_89 : decode cX2_takeItem 89 = .ok (.invokevirtual 90, 3) := by decide +kernel
theorem dX2_takeItem_92 : decode cX2_takeItem 92 = .ok (.ireturn, 1) := by decide +kernel
theorem dX2_takeItem_93 : decode cX2_takeItem 93 = .ok (.aload_n 0, 1) := by decide +kernel
theorem dX2_takeItem_94 : decode cX2_takeItem 94 = .ok (.invokevirtual 93, 3) := by decide +kernel
theorem dX2_takeItem_97 : decode cX2_takeItem 97 = .ok (.ireturn, 1) := by decide +kernel
theorem dX2_takeItem_98 : decode cX2_takeItem 98 = .ok (.iconst 0, 1) := by decide +kernel
theorem dX2_takeItem_99 : decode cX2_takeItem 99 = .ok (.ireturn, 1) := by decide +kernel
theorem dX2_isWithin_0 : decode cX2_isWithin 0 = .ok (.aload_n 0, 1) := by decide +kernel
theorem dX2_isWithin_1 : decode cX2_isWithin 1 = .ok (.getfield 25, 3) := by decide +kernel
theorem dX2_isWithin_4 : decode cX2_isWithin 4 = .ok (.iload_n 1, 1) := by decide +kernel
theorem dX2_isWithin_5 : decode cX2_isWithin 5 = .ok (.iaload, 1) := by decide +kernel
theorem dX2_isWithin_6 : decode cX2_isWithin 6 = .ok (.iload_n 2, 1) := by decide +kernel
theorem dX2_isWithin_7 : decode cX2_isWithin 7 = .ok (.if_icmp .lt 17, 3) := by decide +kernel
theorem dX2_isWithin_10 : decode cX2_isWithin 10 = .ok (.aload_n 0, 1) := by decide +kernel
theorem dX2_isWithin_11 : decode cX2_isWithin 11 = .ok (.getfield 25, 3) := by decide +kernel
theorem dX2_isWithin_14 : decode cX2_isWithin 14 = .ok (.iload_n 1, 1) := by decide +kernel
theorem dX2_isWithin_15 : decode cX2_isWithin 15 = .ok (.iaload, 1) := by decide +kernel
theorem dX2_isWithin_16 : decode cX2_isWithin 16 = .ok (.iload_n 3, 1) := by decide +kernel
theorem dX2_isWithin_17 : decode cX2_isWithin 17 = .ok (.if_icmp .gt 7, 3) := by decide +kernel
theorem dX2_isWithin_20 : decode cX2_isWithin 20 = .ok (.iconst 1, 1) := by decide +kernel
theorem dX2_isWithin_21 : decode cX2_isWithin 21 = .ok (.goto 4, 3) := by decide +kernel
theorem dX2_isWithin_24 : decode cX2_isWithin 24 = .ok (.iconst 0, 1) := by decide +kernel
theorem dX2_isWithin_25 : decode cX2_isWithin 25 = .ok (.ireturn, 1) := by decide +kernel
set_option maxRecDepth 20000 in
theorem ggX2_takeRealm_X2_isWithin : GoodIn wsX2_takeRealm wsX2_isWithin := goodIn_r _ [17, 2, 42, 43, 44, 45] (by decide +kernel) (by decide +kernel)
set_option maxRecDepth 20000 in
theorem gX2_takeRealm_X2_isWithin : GoodIn wsX2_takeRealm (wsV RX2 96 RX2 yX2_isWithin wsX2_isWithin) := goodIn_app (goodIn_of _ (by decide +kernel)) ggX2_takeRealm_X2_isWithin
set_option maxRecDepth 20000 in
theorem ggX2_takeRealm_X4_has : GoodIn wsX2_takeRealm wsX4_has := goodIn_r _ [22, 23, 46, 47, 48, 49, 50, 51, 52, 53, 54, 55, 56, 57, 58, 59, 60, 61, 62] (by decide +kernel) (by decide +kernel)
set_option maxRecDepth 20000 in
theorem gX2_takeRealm_X4_has : GoodIn wsX2_takeRealm (wsV RX2 100 RX4 yX4_has wsX4_has) := goodIn_app (goodIn_of _ (by decide +kernel)) ggX2_takeRealm_X4_has
set_option maxRecDepth 20000 in
theorem ggX2_takeRealm_X4_setLaw : GoodIn wsX2_takeRealm wsX4_setLaw := goodIn_r _ [27, 28, 29, 30, 31, 32, 33, 34, 35, 36, 37, 38, 39, 40, 41, 46, 47, 48, 49, 50, 51, 52, 53, 54, 55, 56, 57, 58, 59, 60, 61, 62] (by decide +kernel) (by decide +kernel)
set_option maxRecDepth 20000 in
theorem gX2_takeRealm_X4_setLaw : GoodIn wsX2_takeRealm (wsV RX2 118 RX4 yX4_setLaw wsX4_setLaw) := goodIn_app (goodIn_of _ (by decide +kernel)) ggX2_takeRealm_X4_setLaw
theorem dX2_takeRealm_0 : decode cX2_takeRealm 0 = .ok (.aload_n 0, 1) := by decide +kernel
theorem dX2_takeRealm_1 : decode cX2_takeRealm 1 = .ok (.iconst 0, 1) := by decide +kernel
theorem dX2_takeRealm_2 : decode cX2_takeRealm 2 = .ok (.iconst 0, 1) := by decide +kernel
theorem dX2_takeRealm_3 : decode cX2_takeRealm 3 = .ok (.bipush 7, 2) := by decide +kernel
theorem dX2_takeRealm_5 : decode cX2_takeRealm 5 = .ok (.invokevirtual 96, 3) := by decide +kernel
theorem dX2_takeRealm_8 : decode cX2_takeRealm 8 = .ok (.ifCond .eq 23, 3) := by decide +kernel
theorem dX2_takeRealm_11 : decode cX2_takeRealm 11 = .ok (.aload_n 0, 1) := by decide +kernel
theorem dX2_takeRealm_12 : decode cX2_takeRealm 12 = .ok (.getfield 12, 3) := by decide +kernel
theorem dX2_takeRealm_15 : decode cX2_takeRealm 15 = .ok (.aload_n 0, 1) := by decide +kernel
theorem dX2_takeRealm_16 : decode cX2_takeRealm 16 = .ok (.getfield 25, 3) := by decide +kernel
theorem dX2_takeRealm_19 : decode cX2_takeRealm 19 = .ok (.iconst 0, 1) := by decide +kernel
theorem dX2_takeRealm_20 : decode cX2_takeRealm 20 = .ok (.iaload, 1) := by decide +kernel
theorem dX2_takeRealm_21 : decode cX2_takeRealm 21 = .ok (.invokevirtual 100, 3) := by decide +kernel
theorem dX2_takeRealm_24 : decode cX2_takeRealm 24 = .ok (.ifCond .ne 7, 3) := by decide +kernel
theorem dX2_takeRealm_27 : decode cX2_takeRealm 27 = .ok (.iconst 1, 1) := by decide +kernel
theorem dX2_takeRealm_28 : decode cX2_takeRealm 28 = .ok (.goto 4, 3) := by decide +kernel
theorem dX2_takeRealm_31 : decode cX2_takeRealm 31 = .ok (.iconst 0, 1) := by decide +kernel
theorem dX2_takeRealm_32 : decode cX2_takeRealm 32 = .ok (.istore_n 1, 1) := by decide +kernel
theorem dX2_takeRealm_33 : decode cX2_takeRealm 33 = .ok (.aload_n 0, 1) := by decide +kernel
theorem dX2_takeRealm_34 : decode cX2_takeRealm 34 = .ok (.iconst 1, 1) := by decide +kernel
theorem dX2_takeRealm_35 : decode cX2_takeRealm 35 = .ok (.sipush 1000, 3) := by decide +kernel
theorem dX2_takeRealm_38 : decode cX2_takeRealm 38 = .ok (.ldc 103, 2) := by decide +kernel
theorem dX2_takeRealm_40 : decode cX2_takeRealm 40 = .ok (.invokevirtual 96, 3) := by decide +kernel
theorem dX2_takeRealm_43 : decode cX2_takeRealm 43 = .ok (.ifCond .eq 31, 3) := by decide +kernel
theorem dX2_takeRealm_46 : decode cX2_takeRealm 46 = .ok (.aload_n 0, 1) := by decide +kernel
theorem dX2_takeRealm_47 : decode cX2_takeRealm 47 = .ok (.iconst 2, 1) := by decide +kernel
theorem dX2_takeRealm_48 : decode cX2_takeRealm 48 = .ok (.iconst 0, 1) := by decide +kernel
theorem dX2_takeRealm_49 : decode cX2_takeRealm 49 = .ok (.sipush 999, 3) := by decide +kernel
theorem dX2_takeRealm_52 : decode cX2_takeRealm 52 = .ok (.invokevirtual 96, 3) := by decide +kernel
theorem dX2_takeRealm_55 : decode cX2_takeRealm 55 = .ok (.ifCond .eq 19, 3) := by decide +kernel
theorem dX2_takeRealm_58 : decode cX2_takeRealm 58 = .ok (.aload_n 0, 1) := by decide +kernel
theorem dX2_takeRealm_59 : decode cX2_takeRealm 59 = .ok (.iconst 3, 1) := by decide +kernel
theorem dX2_takeRealm_60 : decode cX2_takeRealm 60 = .ok (.iconst 0, 1) := by decide +kernel
theorem dX2_takeRealm_61 : decode cX2_takeRealm 61 = .ok (.sipush 200, 3) := by decide +kernel
theorem dX2_takeRealm_64 : decode cX2_takeRealm 64 = .ok (.invokevirtual 96, 3) := by decide +kernel
theorem dX2_takeRealm_67 : decode cX2_takeRealm 67 = .ok (.ifCond .eq 7, 3) := by decide +kernel
theorem dX2_takeRealm_70 : decode cX2_takeRealm 70 = .ok (.iconst 1, 1) := by decide +kernel
theorem dX2_takeRealm_71 : decode cX2_takeRealm 71 = .ok (.goto 4, 3) := by decide +kernel
theorem dX2_takeRealm_74 : decode cX2_takeRealm 74 = .ok (.iconst 0, 1) := by decide +kernel
theorem dX2_takeRealm_75 : decode cX2_takeRealm 75 = .ok (.istore_n 2, 1) := by decide +kernel
theorem dX2_takeRealm_76 : decode cX2_takeRealm 76 = .ok (.aload_n 0, 1) := by decide +kernel
theorem dX2_takeRealm_77 : decode cX2_takeRealm 77 = .ok (.iconst 4, 1) := by decide +kernel
theorem dX2_takeRealm_78 : decode cX2_takeRealm 78 = .ok (.iconst 0, 1) := by decide +kernel
theorem dX2_takeRealm_79 : decode cX2_takeRealm 79 = .ok (.sipush 9999, 3) := by decide +kernel
theorem dX2_takeRealm_82 : decode cX2_takeRealm 82 = .ok (.invokevirtual 96, 3) := by decide +kernel
theorem dX2_takeRealm_85 : decode cX2_takeRealm 85 = .ok (.ifCond .eq 32, 3) := by decide +kernel
theorem dX2_takeRealm_88 : decode cX2_takeRealm 88 = .ok (.aload_n 0, 1) := by decide +kernel
theorem dX2_takeRealm_89 : decode cX2_takeRealm 89 = .ok (.iconst 5, 1) := by decide +kernel
theorem dX2_takeRealm_90 : decode cX2_takeRealm 90 = .ok (.iconst 0, 1) := by decide +kernel
theorem dX2_takeRealm_91 : decode cX2_takeRealm 91 = .ok (.sipush 9999, 3) := by decide +kernel
theorem dX2_takeRealm_94 : decode cX2_takeRealm 94 = .ok (.invokevirtual 96, 3) := by decide +kernel
theorem dX2_takeRealm_97 : decode cX2_takeRealm 97 = .ok (.ifCond .eq 20, 3) := by decide +kernel
theorem dX2_takeRealm_100 : decode cX2_takeRealm 100 = .ok (.aload_n 0, 1) := by decide +kernel
theorem dX2_takeRealm_101 : decode cX2_takeRealm 101 = .ok (.bipush 6, 2) := by decide +kernel
theorem dX2_takeRealm_103 : decode cX2_takeRealm 103 = .ok (.iconst 0, 1) := by decide +kernel
theorem dX2_takeRealm_104 : decode cX2_takeRealm 104 = .ok (.sipush 999, 3) := by decide +kernel
theorem dX2_takeRealm_107 : decode cX2_takeRealm 107 = .ok (.invokevirtual 96, 3) := by decide +kernel
theorem dX2_takeRealm_110 : decode cX2_takeRealm 110 = .ok (.ifCond .eq 7, 3) := by decide +kernel
theorem dX2_takeRealm_113 : decode cX2_takeRealm 113 = .ok (.iconst 1, 1) := by decide +kernel
theorem dX2_takeRealm_114 : decode cX2_takeRealm 114 = .ok (.goto 4, 3) := by decide +kernel
theorem dX2_takeRealm_117 : decode cX2_takeRealm 117 = .ok (.iconst 0, 1) := by decide +kernel
theorem dX2_takeRealm_118 : decode cX2_takeRealm 118 = .ok (.istore_n 3, 1) := by decide +kernel
theorem dX2_takeRealm_119 : decode cX2_takeRealm 119 = .ok (.iload_n 1, 1) := by decide +kernel
theorem dX2_takeRealm_120 : decode cX2_takeRealm 120 = .ok (.ifCond .eq 11, 3) := by decide +kernel
theorem dX2_takeRealm_123 : decode cX2_takeRealm 123 = .ok (.iload_n 2, 1) := by decide +kernel
theorem dX2_takeRealm_124 : decode cX2_takeRealm 124 = .ok (.ifCond .eq 7, 3) := by decide +kernel
theorem dX2_takeRealm_127 : decode cX2_takeRealm 127 = .ok (.iload_n 3, 1) := by decide +kernel
theorem dX2_takeRealm_128 : decode cX2_takeRealm 128 = .ok (.ifCond .ne 5, 3) := by decide +kernel
theorem dX2_takeRealm_131 : decode cX2_takeRealm 131 = .ok (.iconst 0, 1) := by decide +kernel
theorem dX2_takeRealm_132 : decode cX2_takeRealm 132 = .ok (.ireturn, 1) := by decide +kernel
theorem dX2_takeRealm_133 : decode cX2_takeRealm 133 = .ok (.aload_n 0, 1) := by decide +kernel
theorem dX2_takeRealm_134 : decode cX2_takeRealm 134 = .ok (.getfield 25, 3) := by decide +kernel
theorem dX2_takeRealm_137 : decode cX2_takeRealm 137 = .ok (.iconst 0, 1) := by decide +kernel
theorem dX2_takeRealm_138 : decode cX2_takeRealm 138 = .ok (.iaload, 1) := by decide +kernel
theorem dX2_takeRealm_139 : decode cX2_takeRealm 139 = .ok (.istore 4, 2) := by decide +kernel
theorem dX2_takeRealm_141 : decode cX2_takeRealm 141 = .ok (.aload_n 0, 1) := by decide +kernel
theorem dX2_takeRealm_142 : decode cX2_takeRealm 142 = .ok (.getfield 12, 3) := by decide +kernel
theorem dX2_takeRealm_145 : decode cX2_takeRealm 145 = .ok (.dup, 1) := by decide +kernel
theorem dX2_takeRealm_146 : decode cX2_takeRealm 146 = .ok (.getfield 106, 3) := by decide +kernel
theorem dX2_takeRealm_149 : decode cX2_takeRealm 149 = .ok (.iconst 1, 1) := by decide +kernel
theorem dX2_takeRealm_150 : decode cX2_takeRealm 150 = .ok (.iload 4, 2) := by decide +kernel
theorem dX2_takeRealm_152 : decode cX2_takeRealm 152 = .ok (.ishl, 1) := by decide +kernel
theorem dX2_takeRealm_153 : decode cX2_takeRealm 153 = .ok (.ior, 1) := by decide +kernel
theorem dX2_takeRealm_154 : decode cX2_takeRealm 154 = .ok (.putfield 106, 3) := by decide +kernel
theorem dX2_takeRealm_157 : decode cX2_takeRealm 157 = .ok (.aload_n 0, 1) := by decide +kernel
theorem dX2_takeRealm_158 : decode cX2_takeRealm 158 = .ok (.getfield 12, 3) := by decide +kernel
theorem dX2_takeRealm_161 : decode cX2_takeRealm 161 = .ok (.dup, 1) := by decide +kernel
theorem dX2_takeRealm_162 : decode cX2_takeRealm 162 = .ok (.getfield 109, 3) := by decide +kernel
theorem dX2_takeRealm_165 : decode cX2_takeRealm 165 = .ok (.iconst 1, 1) := by decide +kernel
theorem dX2_takeRealm_166 : decode cX2_takeRealm 166 = .ok (.iload 4, 2) := by decide +kernel
theorem dX2_takeRealm_168 : decode cX2_takeRealm 168 = .ok (.ishl, 1) := by decide +kernel
theorem dX2_takeRealm_169 : decode cX2_takeRealm 169 = .ok (.ior, 1) := by decide +kernel
theorem dX2_takeRealm_170 : decode cX2_takeRealm 170 = .ok (.putfield 109, 3) := by decide +kernel
theorem dX2_takeRealm_173 : decode cX2_takeRealm 173 = .ok (.aload_n 0, 1) := by decide +kernel
theorem dX2_takeRealm_174 : decode cX2_takeRealm 174 = .ok (.getfield 12, 3) := by decide +kernel
theorem dX2_takeRealm_177 : decode cX2_takeRealm 177 = .ok (.getfield 112, 3) := by decide +kernel
theorem dX2_takeRealm_180 : decode cX2_takeRealm 180 = .ok (.iload 4, 2) := by decide +kernel
theorem dX2_takeRealm_182 : decode cX2_takeRealm 182 = .ok (.aload_n 0, 1) := by decide +kernel
theorem dX2_takeRealm_183 : decode cX2_takeRealm 183 = .ok (.getfield 25, 3) := by decide +kernel
theorem dX2_takeRealm_186 : decode cX2_takeRealm 186 = .ok (.iconst 2, 1) := by decide +kernel
theorem dX2_takeRealm_187 : decode cX2_takeRealm 187 = .ok (.iaload, 1) := by decide +kernel
theorem dX2_takeRealm_188 : decode cX2_takeRealm 188 = .ok (.iastore, 1) := by decide +kernel
theorem dX2_takeRealm_189 : decode cX2_takeRealm 189 = .ok (.aload_n 0, 1) := by decide +kernel
theorem dX2_takeRealm_190 : decode cX2_takeRealm 190 = .ok (.getfield 12, 3) := by decide +kernel
theorem dX2_takeRealm_193 : decode cX2_takeRealm 193 = .ok (.getfield 115, 3) := by decide +kernel
theorem dX2_takeRealm_196 : decode cX2_takeRealm 196 = .ok (.iload 4, 2) := by decide +kernel
theorem dX2_takeRealm_198 : decode cX2_takeRealm 198 = .ok (.aload_n 0, 1) := by decide +kernel
theorem dX2_takeRealm_199 : decode cX2_takeRealm 199 = .ok (.getfield 25, 3) := by decide +kernel
theorem dX2_takeRealm_202 : decode cX2_takeRealm 202 = .ok (.iconst 3, 1) := by decide +kernel
theorem dX2_takeRealm_203 : decode cX2_takeRealm 203 = .ok (.iaload, 1) := by decide +kernel
theorem dX2_takeRealm_204 : decode cX2_takeRealm 204 = .ok (.iastore, 1) := by decide +kernel
theorem dX2_takeRealm_205 : decode cX2_takeRealm 205 = .ok (.aload_n 0, 1) := by decide +kernel
theorem dX2_takeRealm_206 : decode cX2_takeRealm 206 = .ok (.getfield 12, 3) := by decide +kernel
theorem dX2_takeRealm_209 : decode cX2_takeRealm 209 = .ok (.iload 4, 2) := by decide +kernel
theorem dX2_takeRealm_211 : decode cX2_takeRealm 211 = .ok (.aload_n 0, 1) := by decide +kernel
theorem dX2_takeRealm_212 : decode cX2_takeRealm 212 = .ok (.getfield 25, 3) := by decide +kernel
theorem dX2_takeRealm_215 : decode cX2_takeRealm 215 = .ok (.iconst 1, 1) := by decide +kernel
theorem dX2_takeRealm_216 : decode cX2_takeRealm 216 = .ok (.iaload, 1) := by decide +kernel
theorem dX2_takeRealm_217 : decode cX2_takeRealm 217 = .ok (.invokevirtual 118, 3) := by decide +kernel
theorem dX2_takeRealm_220 : decode cX2_takeRealm 220 = .ok (.aload_n 0, 1) := by decide +kernel
theorem dX2_takeRealm_221 : decode cX2_takeRealm 221 = .ok (.getfield 12, 3) := by decide +kernel
theorem dX2_takeRealm_224 : decode cX2_takeRealm 224 = .ok (.getfield 122, 3) := by decide +kernel
theorem dX2_takeRealm_227 : decode cX2_takeRealm 227 = .ok (.iload 4, 2) := by decide +kernel
theorem dX2_takeRealm_229 : decode cX2_takeRealm 229 = .ok (.aload_n 0, 1) := by decide +kernel
theorem dX2_takeRealm_230 : decode cX2_takeRealm 230 = .ok (.getfield 25, 3) := by decide +kernel
theorem dX2_takeRealm_233 : decode cX2_takeRealm 233 = .ok (.iconst 4, 1) := by decide +kernel
theorem dX2_takeRealm_234 : decode cX2_takeRealm 234 = .ok (.iaload, 1) := by decide +kernel
theorem dX2_takeRealm_235 : decode cX2_takeRealm 235 = .ok (.i2l, 1) := by decide +kernel
theorem dX2_takeRealm_236 : decode cX2_takeRealm 236 = .ok (.lastore, 1) := by decide +kernel
theorem dX2_takeRealm_237 : decode cX2_takeRealm 237 = .ok (.aload_n 0, 1) := by decide +kernel
theorem dX2_takeRealm_238 : decode cX2_takeRealm 238 = .ok (.getfield 12, 3) := by decide +kernel
theorem dX2_takeRealm_241 : decode cX2_takeRealm 241 = .ok (.getfield 126, 3) := by decide +kernel
theorem dX2_takeRealm_244 : decode cX2_takeRealm 244 = .ok (.iload 4, 2) := by decide +kernel
theorem dX2_takeRealm_246 : decode cX2_takeRealm 246 = .ok (.ldc2_w 129, 3) := by decide +kernel
theorem dX2_takeRealm_249 : decode cX2_takeRealm 249 = .ok (.aload_n 0, 1) := by decide +kernel
theorem dX2_takeRealm_250 : decode cX2_takeRealm 250 = .ok (.getfield 25, 3) := by decide +kernel
theorem dX2_takeRealm_253 : decode cX2_takeRealm 253 = .ok (.iconst 5, 1) := by decide +kernel
theorem dX2_takeRealm_254 : decode cX2_takeRealm 254 = .ok (.iaload, 1) := by decide +kernel
theorem dX2_takeRealm_255 : decode cX2_takeRealm 255 = .ok (.i2l, 1) := by decide +kernel
theorem dX2_takeRealm_256 : decode cX2_takeRealm 256 = .ok (.lmul, 1) := by decide +kernel
theorem dX2_takeRealm_257 : decode cX2_takeRealm 257 = .ok (.lastore, 1) := by decide +kernel
theorem dX2_takeRealm_258 : decode cX2_takeRealm 258 = .ok (.aload_n 0, 1) := by decide +kernel
theorem dX2_takeRealm_259 : decode cX2_takeRealm 259 = .ok (.getfield 12, 3) := by decide +kernel
theorem dX2_takeRealm_262 : decode cX2_takeRealm 262 = .ok (.getfield 131, 3) := by decide +kernel
theorem dX2_takeRealm_265 : decode cX2_takeRealm 265 = .ok (.iload 4, 2) := by decide +kernel
theorem dX2_takeRealm_267 : decode cX2_takeRealm 267 = .ok (.aload_n 0, 1) := by decide +kernel
theorem dX2_takeRealm_268 : decode cX2_takeRealm 268 = .ok (.getfield 25, 3) := by decide +kernel
theorem dX2_takeRealm_271 : decode cX2_takeRealm 271 = .ok (.bipush 6, 2) := by decide +kernel
theorem dX2_takeRealm_273 : decode cX2_takeRealm 273 = .ok (.iaload, 1) := by decide +kernel
theorem dX2_takeRealm_274 : decode cX2_takeRealm 274 = .ok (.iastore, 1) := by decide +kernel
theorem dX2_takeRealm_275 : decode cX2_takeRealm 275 = .ok (.aload_n 0, 1) := by decide +kernel
theorem dX2_takeRealm_276 : decode cX2_takeRealm 276 = .ok (.getfield 12, 3) := by decide +kernel
theorem dX2_takeRealm_279 : decode cX2_takeRealm 279 = .ok (.getfield 134, 3) := by decide +kernel
theorem dX2_takeRealm_282 : decode cX2_takeRealm 282 = .ok (.iload 4, 2) := by decide +kernel
theorem dX2_takeRealm_284 : decode cX2_takeRealm 284 = .ok (.iconst (-1), 1) := by decide +kernel
theorem dX2_takeRealm_285 : decode cX2_takeRealm 285 = .ok (.iastore, 1) := by decide +kernel
theorem dX2_takeRealm_286 : decode cX2_takeRealm 286 = .ok (.iconst 1, 1) := by decide +kernel
theorem dX2_takeRealm_287 : decode cX2_takeRealm 287 = .ok (.ireturn, 1) := by decide +kernel
set_option maxRecDepth 20000 in
theorem ggX2_takeLimp_X4_has : GoodIn wsX2_takeLimp wsX4_has := goodIn_r _ [8, 9, 14, 15, 16, 17, 18, 19, 20, 21, 22, 23, 24, 25, 26, 27, 28, 29, 30] (by decide +kernel) (by decide +kernel)
set_option maxRecDepth 20000 in
theorem gX2_takeLimp_X4_has : GoodIn wsX2_takeLimp (wsV RX2 100 RX4 yX4_has wsX4_has) := goodIn_app (goodIn_of _ (by decide +kernel)) ggX2_takeLimp_X4_has
theorem dX2_takeLimp_0 : decode cX2_takeLimp 0 = .ok (.aload_n 0, 1) := by decide +kernel
theorem dX2_takeLimp_1 : decode cX2_takeLimp 1 = .ok (.getfield 12, 3) := by decide +kernel
theorem dX2_takeLimp_4 : decode cX2_takeLimp 4 = .ok (.aload_n 0, 1) := by decide +kernel
theorem dX2_takeLimp_5 : decode cX2_takeLimp 5 = .ok (.getfield 25, 3) := by decide +kernel
theorem dX2_takeLimp_8 : decode cX2_takeLimp 8 = .ok (.iconst 0, 1) := by decide +kernel
theorem dX2_takeLimp_9 : decode cX2_takeLimp 9 = .ok (.iaload, 1) := by decide +kernel
theorem dX2_takeLimp_10 : decode cX2_takeLimp 10 = .ok (.invokevirtual 100, 3) := by decide +kernel
theorem dX2_takeLimp_13 : decode cX2_takeLimp 13 = .ok (.ifCond .ne 5, 3) := by decide +kernel
theorem dX2_takeLimp_16 : decode cX2_takeLimp 16 = .ok (.iconst 0, 1) := by decide +kernel
theorem dX2_takeLimp_17 : decode cX2_takeLimp 17 = .ok (.ireturn, 1) := by decide +kernel
theorem dX2_takeLimp_18 : decode cX2_takeLimp 18 = .ok (.aload_n 0, 1) := by decide +kernel
theorem dX2_takeLimp_19 : decode cX2_takeLimp 19 = .ok (.getfield 12, 3) := by decide +kernel
theorem dX2_takeLimp_22 : decode cX2_takeLimp 22 = .ok (.dup, 1) := by decide +kernel
theorem dX2_takeLimp_23 : decode cX2_takeLimp 23 = .ok (.getfield 137, 3) := by decide +kernel
theorem dX2_takeLimp_26 : decode cX2_takeLimp 26 = .ok (.iconst 1, 1) := by decide +kernel
theorem dX2_takeLimp_27 : decode cX2_takeLimp 27 = .ok (.aload_n 0, 1) := by decide +kernel
theorem dX2_takeLimp_28 : decode cX2_takeLimp 28 = .ok (.getfield 25, 3) := by decide +kernel
theorem dX2_takeLimp_31 : decode cX2_takeLimp 31 = .ok (.iconst 0, 1) := by decide +kernel
theorem dX2_takeLimp_32 : decode cX2_takeLimp 32 = .ok (.iaload, 1) := by decide +kernel
theorem dX2_takeLimp_33 : decode cX2_takeLimp 33 = .ok (.ishl, 1) := by decide +kernel
theorem dX2_takeLimp_34 : decode cX2_takeLimp 34 = .ok (.ior, 1) := by decide +kernel
theorem dX2_takeLimp_35 : decode cX2_takeLimp 35 = .ok (.putfield 137, 3) := by decide +kernel
theorem dX2_takeLimp_38 : decode cX2_takeLimp 38 = .ok (.iconst 1, 1) := by decide +kernel
theorem dX2_takeLimp_39 : decode cX2_takeLimp 39 = .ok (.ireturn, 1) := by decide +kernel
set_option maxRecDepth 20000 in
theorem ggX2_takeStop_X4_has : GoodIn wsX2_takeStop wsX4_has := goodIn_r _ [8, 9, 19, 20, 21, 22, 23, 24, 25, 26, 27, 28, 29, 30, 31, 32, 33, 34, 35] (by decide +kernel) (by decide +kernel)
set_option maxRecDepth 20000 in
theorem gX2_takeStop_X4_has : GoodIn wsX2_takeStop (wsV RX2 100 RX4 yX4_has wsX4_has) := goodIn_app (goodIn_of _ (by decide +kernel)) ggX2_takeStop_X4_has
set_option maxRecDepth 20000 in
theorem ggX2_takeStop_X2_isWithin : GoodIn wsX2_takeStop wsX2_isWithin := goodIn_r _ [14, 2, 15, 16, 17, 18] (by decide +kernel) (by decide +kernel)
set_option maxRecDepth 20000 in
theorem gX2_takeStop_X2_isWithin : GoodIn wsX2_takeStop (wsV RX2 96 RX2 yX2_isWithin wsX2_isWithin) := goodIn_app (goodIn_of _ (by decide +kernel)) ggX2_takeStop_X2_isWithin
theorem dX2_takeStop_0 : decode cX2_takeStop 0 = .ok (.aload_n 0, 1) := by decide +kernel
theorem dX2_takeStop_1 : decode cX2_takeStop 1 = .ok (.getfield 12, 3) := by decide +kernel
theorem dX2_takeStop_4 : decode cX2_takeStop 4 = .ok (.aload_n 0, 1) := by decide +kernel
theorem dX2_takeStop_5 : decode cX2_takeStop 5 = .ok (.getfield 25, 3) := by decide +kernel
theorem dX2_takeStop_8 : decode cX2_takeStop 8 = .ok (.iconst 0, 1) := by decide +kernel
theorem dX2_takeStop_9 : decode cX2_takeStop 9 = .ok (.iaload, 1) := by decide +kernel
theorem dX2_takeStop_10 : decode cX2_takeStop 10 = .ok (.invokevirtual 100, 3) := by decide +kernel
theorem dX2_takeStop_13 : decode cX2_takeStop 13 = .ok (.ifCond .eq 15, 3) := by decide +kernel
theorem dX2_takeStop_16 : decode cX2_takeStop 16 = .ok (.aload_n 0, 1) := by decide +kernel
theorem dX2_takeStop_17 : decode cX2_takeStop 17 = .ok (.iconst 1, 1) := by decide +kernel
theorem dX2_takeStop_18 : decode cX2_takeStop 18 = .ok (.iconst 0, 1) := by decide +kernel
theorem dX2_takeStop_19 : decode cX2_takeStop 19 = .ok (.sipush 9999, 3) := by decide +kernel
theorem dX2_takeStop_22 : decode cX2_takeStop 22 = .ok (.invokevirtual 96, 3) := by decide +kernel
theorem dX2_takeStop_25 : decode cX2_takeStop 25 = .ok (.ifCond .ne 5, 3) := by decide +kernel
theorem dX2_takeStop_28 : decode cX2_takeStop 28 = .ok (.iconst 0, 1) := by decide +kernel
theorem dX2_takeStop_29 : decode cX2_takeStop 29 = .ok (.ireturn, 1) := by decide +kernel
theorem dX2_takeStop_30 : decode cX2_takeStop 30 = .ok (.aload_n 0, 1) := by decide +kernel
theorem dX2_takeStop_31 : decode cX2_takeStop 31 = .ok (.getfield 12, 3) := by decide +kernel
theorem dX2_takeStop_34 : decode cX2_takeStop 34 = .ok (.getfield 134, 3) := by decide +kernel
theorem dX2_takeStop_37 : decode cX2_takeStop 37 = .ok (.aload_n 0, 1) := by decide +kernel
theorem dX2_takeStop_38 : decode cX2_takeStop 38 = .ok (.getfield 25, 3) := by decide +kernel
theorem dX2_takeStop_41 : decode cX2_takeStop 41 = .ok (.iconst 0, 1) := by decide +kernel
theorem dX2_takeStop_42 : decode cX2_takeStop 42 = .ok (.iaload, 1) := by decide +kernel
theorem dX2_takeStop_43 : decode cX2_takeStop 43 = .ok (.aload_n 0, 1) := by decide +kernel
theorem dX2_takeStop_44 : decode cX2_takeStop 44 = .ok (.getfield 25, 3) := by decide +kernel
theorem dX2_takeStop_47 : decode cX2_takeStop 47 = .ok (.iconst 1, 1) := by decide +kernel
theorem dX2_takeStop_48 : decode cX2_takeStop 48 = .ok (.iaload, 1) := by decide +kernel
theorem dX2_takeStop_49 : decode cX2_takeStop 49 = .ok (.iastore, 1) := by decide +kernel
theorem dX2_takeStop_50 : decode cX2_takeStop 50 = .ok (.iconst 1, 1) := by decide +kernel
theorem dX2_takeStop_51 : decode cX2_takeStop 51 = .ok (.ireturn, 1) := by decide +kernel
theorem dX2_takeMarket_0 : decode cX2_takeMarket 0 = .ok (.aload_n 0, 1) := by decide +kernel
theorem dX2_takeMarket_1 : decode cX2_takeMarket 1 = .ok (.getfield 12, 3) := by decide +kernel
theorem dX2_takeMarket_4 : decode cX2_takeMarket 4 = .ok (.aload_n 0, 1) := by decide +kernel
theorem dX2_takeMarket_5 : decode cX2_takeMarket 5 = .ok (.getfield 25, 3) := by decide +kernel
theorem dX2_takeMarket_8 : decode cX2_takeMarket 8 = .ok (.iconst 0, 1) := by decide +kernel
theorem dX2_takeMarket_9 : decode cX2_takeMarket 9 = .ok (.iaload, 1) := by decide +kernel
theorem dX2_takeMarket_10 : decode cX2_takeMarket 10 = .ok (.i2l, 1) := by decide +kernel
theorem dX2_takeMarket_11 : decode cX2_takeMarket 11 = .ok (.putfield 140, 3) := by decide +kernel
theorem dX2_takeMarket_14 : decode cX2_takeMarket 14 = .ok (.aload_n 0, 1) := by decide +kernel
theorem dX2_takeMarket_15 : decode cX2_takeMarket 15 = .ok (.getfield 12, 3) := by decide +kernel
theorem dX2_takeMarket_18 : decode cX2_takeMarket 18 = .ok (.ldc2_w 129, 3) := by decide +kernel
theorem dX2_takeMarket_21 : decode cX2_takeMarket 21 = .ok (.aload_n 0, 1) := by decide +kernel
theorem dX2_takeMarket_22 : decode cX2_takeMarket 22 = .ok (.getfield 25, 3) := by decide +kernel
theorem dX2_takeMarket_25 : decode cX2_takeMarket 25 = .ok (.iconst 1, 1) := by decide +kernel
theorem dX2_takeMarket_26 : decode cX2_takeMarket 26 = .ok (.iaload, 1) := by decide +kernel
theorem dX2_takeMarket_27 : decode cX2_takeMarket 27 = .ok (.i2l, 1) := by decide +kernel
theorem dX2_takeMarket_28 : decode cX2_takeMarket 28 = .ok (.lmul, 1) := by decide +kernel
theorem dX2_takeMarket_29 : decode cX2_takeMarket 29 = .ok (.putfield 144, 3) := by decide +kernel
theorem dX2_takeMarket_32 : decode cX2_takeMarket 32 = .ok (.iconst 1, 1) := by decide +kernel
theorem dX2_takeMarket_33 : decode cX2_takeMarket 33 = .ok (.ireturn, 1) := by decide +kernel
set_option maxRecDepth 20000 in
theorem ggX2_takeScarcity_X2_isWithin : GoodIn wsX2_takeScarcity wsX2_isWithin := goodIn_r _ [8, 2, 9, 10, 11, 12] (by decide +kernel) (by decide +kernel)
set_option maxRecDepth 20000 in
theorem gX2_takeScarcity_X2_isWithin : GoodIn wsX2_takeScarcity (wsV RX2 96 RX2 yX2_isWithin wsX2_isWithin) := goodIn_app (goodIn_of _ (by decide +kernel)) ggX2_takeScarcity_X2_isWithin
theorem dX2_takeScarcity_0 : decode cX2_takeScarcity 0 = .ok (.aload_n 0, 1) := by decide +kernel
theorem dX2_takeScarcity_1 : decode cX2_takeScarcity 1 = .ok (.iconst 0, 1) := by decide +kernel
theorem dX2_takeScarcity_2 : decode cX2_takeScarcity 2 = .ok (.iconst 1, 1) := by decide +kernel
theorem dX2_takeScarcity_3 : decode cX2_takeScarcity 3 = .ok (.sipush 9999, 3) := by decide +kernel
theorem dX2_takeScarcity_6 : decode cX2_takeScarcity 6 = .ok (.invokevirtual 96, 3) := by decide +kernel
theorem dX2_takeScarcity_9 : decode cX2_takeScarcity 9 = .ok (.ifCond .ne 5, 3) := by decide +kernel
theorem dX2_takeScarcity_12 : decode cX2_takeScarcity 12 = .ok (.iconst 0, 1) := by decide +kernel
theorem dX2_takeScarcity_13 : decode cX2_takeScarcity 13 = .ok (.ireturn, 1) := by decide +kernel
theorem dX2_takeScarcity_14 : decode cX2_takeScarcity 14 = .ok (.aload_n 0, 1) := by decide +kernel
theorem dX2_takeScarcity_15 : decode cX2_takeScarcity 15 = .ok (.getfield 12, 3) := by decide +kernel
theorem dX2_takeScarcity_18 : decode cX2_takeScarcity 18 = .ok (.aload_n 0, 1) := by decide +kernel
theorem dX2_takeScarcity_19 : decode cX2_takeScarcity 19 = .ok (.getfield 25, 3) := by decide +kernel
theorem dX2_takeScarcity_22 : decode cX2_takeScarcity 22 = .ok (.iconst 0, 1) := by decide +kernel
theorem dX2_takeScarcity_23 : decode cX2_takeScarcity 23 = .ok (.iaload, 1) := by decide +kernel
theorem dX2_takeScarcity_24 : decode cX2_takeScarcity 24 = .ok (.putfield 147, 3) := by decide +kernel
theorem dX2_takeScarcity_27 : decode cX2_takeScarcity 27 = .ok (.iconst 1, 1) := by decide +kernel
theorem dX2_takeScarcity_28 : decode cX2_takeScarcity 28 = .ok (.ireturn, 1) := by decide +kernel
set_option maxRecDepth 20000 in
theorem ggX2_takeMines_X2_isWithin : GoodIn wsX2_takeMines wsX2_isWithin := goodIn_r _ [7, 2, 16, 17, 18, 19] (by decide +kernel) (by decide +kernel)
set_option maxRecDepth 20000 in
theorem gX2_takeMines_X2_isWithin : GoodIn wsX2_takeMines (wsV RX2 96 RX2 yX2_isWithin wsX2_isWithin) := goodIn_app (goodIn_of _ (by decide +kernel)) ggX2_takeMines_X2_isWithin
set_option maxRecDepth 20000 in
theorem ggX2_takeMines_X0_tell : GoodIn wsX2_takeMines wsX0_tell := goodIn_r _ [12, 13, 14, 15, 20, 21, 22] (by decide +kernel) (by decide +kernel)
set_option maxRecDepth 20000 in
theorem gX2_takeMines_X0_tell : GoodIn wsX2_takeMines (wsV RX2 150 RX0 yX0_tell wsX0_tell) := goodIn_app (goodIn_of _ (by decide +kernel)) ggX2_takeMines_X0_tell
theorem dX2_takeMines_0 : decode cX2_takeMines 0 = .ok (.aload_n 0, 1) := by decide +kernel
theorem dX2_takeMines_1 : decode cX2_takeMines 1 = .ok (.iconst 0, 1) := by decide +kernel
theorem dX2_takeMines_2 : decode cX2_takeMines 2 = .ok (.iconst 0, 1) := by decide +kernel
theorem dX2_takeMines_3 : decode cX2_takeMines 3 = .ok (.bipush 99, 2) := by decide +kernel
theorem dX2_takeMines_5 : decode cX2_takeMines 5 = .ok (.invokevirtual 96, 3) := by decide +kernel
theorem dX2_takeMines_8 : decode cX2_takeMines 8 = .ok (.ifCond .eq 27, 3) := by decide +kernel
theorem dX2_takeMines_11 : decode cX2_takeMines 11 = .ok (.aload_n 0, 1) := by decide +kernel
theorem dX2_takeMines_12 : decode cX2_takeMines 12 = .ok (.iconst 1, 1) := by decide +kernel
theorem dX2_takeMines_13 : decode cX2_takeMines 13 = .ok (.iconst 0, 1) := by decide +kernel
theorem dX2_takeMines_14 : decode cX2_takeMines 14 = .ok (.sipush 9999, 3) := by decide +kernel
theorem dX2_takeMines_17 : decode cX2_takeMines 17 = .ok (.invokevirtual 96, 3) := by decide +kernel
theorem dX2_takeMines_20 : decode cX2_takeMines 20 = .ok (.ifCond .eq 15, 3) := by decide +kernel
theorem dX2_takeMines_23 : decode cX2_takeMines 23 = .ok (.aload_n 0, 1) := by decide +kernel
theorem dX2_takeMines_24 : decode cX2_takeMines 24 = .ok (.iconst 2, 1) := by decide +kernel
theorem dX2_takeMines_25 : decode cX2_takeMines 25 = .ok (.iconst 0, 1) := by decide +kernel
end
section
theorem dX2_takeMines_26 : decode cX2_takeMines 26 = .ok (.sipush 9999, 3) := by decide +kernel
theorem dX2_takeMines_29 : decode cX2_takeMines 29 = .ok (.invokevirtual 96, 3) := by decide +kernel
theorem dX2_takeMines_32 : decode cX2_takeMines 32 = .ok (.ifCond .ne 5, 3) := by decide +kernel
theorem dX2_takeMines_35 : decode cX2_takeMines 35 = .ok (.iconst 0, 1) := by decide +kernel
theorem dX2_takeMines_36 : decode cX2_takeMines 36 = .ok (.ireturn, 1) := by decide +kernel
theorem dX2_takeMines_37 : decode cX2_takeMines 37 = .ok (.aload_n 0, 1) := by decide +kernel
theorem dX2_takeMines_38 : decode cX2_takeMines 38 = .ok (.getfield 21, 3) := by decide +kernel
theorem dX2_takeMines_41 : decode cX2_takeMines 41 = .ok (.aload_n 0, 1) := by decide +kernel
theorem dX2_takeMines_42 : decode cX2_takeMines 42 = .ok (.getfield 25, 3) := by decide +kernel
theorem dX2_takeMines_45 : decode cX2_takeMines 45 = .ok (.iconst 0, 1) := by decide +kernel
theorem dX2_takeMines_46 : decode cX2_takeMines 46 = .ok (.iaload, 1) := by decide +kernel
theorem dX2_takeMines_47 : decode cX2_takeMines 47 = .ok (.aload_n 0, 1) := by decide +kernel
theorem dX2_takeMines_48 : decode cX2_takeMines 48 = .ok (.getfield 25, 3) := by decide +kernel
theorem dX2_takeMines_51 : decode cX2_takeMines 51 = .ok (.iconst 1, 1) := by decide +kernel
theorem dX2_takeMines_52 : decode cX2_takeMines 52 = .ok (.iaload, 1) := by decide +kernel
theorem dX2_takeMines_53 : decode cX2_takeMines 53 = .ok (.aload_n 0, 1) := by decide +kernel
theorem dX2_takeMines_54 : decode cX2_takeMines 54 = .ok (.getfield 25, 3) := by decide +kernel
theorem dX2_takeMines_57 : decode cX2_takeMines 57 = .ok (.iconst 2, 1) := by decide +kernel
theorem dX2_takeMines_58 : decode cX2_takeMines 58 = .ok (.iaload, 1) := by decide +kernel
theorem dX2_takeMines_59 : decode cX2_takeMines 59 = .ok (.invokevirtual 150, 3) := by decide +kernel
theorem dX2_takeMines_62 : decode cX2_takeMines 62 = .ok (.iconst 1, 1) := by decide +kernel
theorem dX2_takeMines_63 : decode cX2_takeMines 63 = .ok (.ireturn, 1) := by decide +kernel
theorem dX3_init_0 : decode cX3_init 0 = .ok (.aload_n 0, 1) := by decide +kernel
theorem dX3_init_1 : decode cX3_init 1 = .ok (.invokespecial 1, 3) := by decide +kernel
theorem dX3_init_4 : decode cX3_init 4 = .ok (.aload_n 0, 1) := by decide +kernel
theorem dX3_init_5 : decode cX3_init 5 = .ok (.sipush 400, 3) := by decide +kernel
theorem dX3_init_8 : decode cX3_init 8 = .ok (.newarray .byte, 2) := by decide +kernel
theorem dX3_init_10 : decode cX3_init 10 = .ok (.putfield 9, 3) := by decide +kernel
theorem dX3_init_13 : decode cX3_init 13 = .ok (.aload_n 0, 1) := by decide +kernel
theorem dX3_init_14 : decode cX3_init 14 = .ok (.iconst 0, 1) := by decide +kernel
theorem dX3_init_15 : decode cX3_init 15 = .ok (.putfield 13, 3) := by decide +kernel
theorem dX3_init_18 : decode cX3_init 18 = .ok (.return_, 1) := by decide +kernel
theorem dX3_hasRoomFor_0 : decode cX3_hasRoomFor 0 = .ok (.aload_n 0, 1) := by decide +kernel
theorem dX3_hasRoomFor_1 : decode cX3_hasRoomFor 1 = .ok (.getfield 13, 3) := by decide +kernel
theorem dX3_hasRoomFor_4 : decode cX3_hasRoomFor 4 = .ok (.iload_n 1, 1) := by decide +kernel
theorem dX3_hasRoomFor_5 : decode cX3_hasRoomFor 5 = .ok (.iadd, 1) := by decide +kernel
theorem dX3_hasRoomFor_6 : decode cX3_hasRoomFor 6 = .ok (.sipush 400, 3) := by decide +kernel
theorem dX3_hasRoomFor_9 : decode cX3_hasRoomFor 9 = .ok (.if_icmp .gt 7, 3) := by decide +kernel
theorem dX3_hasRoomFor_12 : decode cX3_hasRoomFor 12 = .ok (.iconst 1, 1) := by decide +kernel
theorem dX3_hasRoomFor_13 : decode cX3_hasRoomFor 13 = .ok (.goto 4, 3) := by decide +kernel
theorem dX3_hasRoomFor_16 : decode cX3_hasRoomFor 16 = .ok (.iconst 0, 1) := by decide +kernel
theorem dX3_hasRoomFor_17 : decode cX3_hasRoomFor 17 = .ok (.ireturn, 1) := by decide +kernel
theorem dX3_append_0 : decode cX3_append 0 = .ok (.iload_n 1, 1) := by decide +kernel
theorem dX3_append_1 : decode cX3_append 1 = .ok (.iconst 1, 1) := by decide +kernel
theorem dX3_append_2 : decode cX3_append 2 = .ok (.isub, 1) := by decide +kernel
theorem dX3_append_3 : decode cX3_append 3 = .ok (.istore 4, 2) := by decide +kernel
theorem dX3_append_5 : decode cX3_append 5 = .ok (.iload 4, 2) := by decide +kernel
theorem dX3_append_7 : decode cX3_append 7 = .ok (.ifCond .lt 47, 3) := by decide +kernel
theorem dX3_append_10 : decode cX3_append 10 = .ok (.aload_n 0, 1) := by decide +kernel
theorem dX3_append_11 : decode cX3_append 11 = .ok (.getfield 13, 3) := by decide +kernel
theorem dX3_append_14 : decode cX3_append 14 = .ok (.sipush 400, 3) := by decide +kernel
theorem dX3_append_17 : decode cX3_append 17 = .ok (.if_icmp .ge 37, 3) := by decide +kernel
theorem dX3_append_20 : decode cX3_append 20 = .ok (.aload_n 0, 1) := by decide +kernel
theorem dX3_append_21 : decode cX3_append 21 = .ok (.getfield 9, 3) := by decide +kernel
theorem dX3_append_24 : decode cX3_append 24 = .ok (.aload_n 0, 1) := by decide +kernel
theorem dX3_append_25 : decode cX3_append 25 = .ok (.getfield 13, 3) := by decide +kernel
theorem dX3_append_28 : decode cX3_append 28 = .ok (.lload_n 2, 1) := by decide +kernel
theorem dX3_append_29 : decode cX3_append 29 = .ok (.iload 4, 2) := by decide +kernel
theorem dX3_append_31 : decode cX3_append 31 = .ok (.bipush 8, 2) := by decide +kernel
theorem dX3_append_33 : decode cX3_append 33 = .ok (.imul, 1) := by decide +kernel
theorem dX3_append_34 : decode cX3_append 34 = .ok (.lshr, 1) := by decide +kernel
theorem dX3_append_35 : decode cX3_append 35 = .ok (.l2i, 1) := by decide +kernel
theorem dX3_append_36 : decode cX3_append 36 = .ok (.i2b, 1) := by decide +kernel
theorem dX3_append_37 : decode cX3_append 37 = .ok (.bastore, 1) := by decide +kernel
theorem dX3_append_38 : decode cX3_append 38 = .ok (.aload_n 0, 1) := by decide +kernel
theorem dX3_append_39 : decode cX3_append 39 = .ok (.dup, 1) := by decide +kernel
theorem dX3_append_40 : decode cX3_append 40 = .ok (.getfield 13, 3) := by decide +kernel
theorem dX3_append_43 : decode cX3_append 43 = .ok (.iconst 1, 1) := by decide +kernel
theorem dX3_append_44 : decode cX3_append 44 = .ok (.iadd, 1) := by decide +kernel
theorem dX3_append_45 : decode cX3_append 45 = .ok (.putfield 13, 3) := by decide +kernel
theorem dX3_append_48 : decode cX3_append 48 = .ok (.iinc 4 (-1), 3) := by decide +kernel
theorem dX3_append_51 : decode cX3_append 51 = .ok (.goto (-46), 3) := by decide +kernel
theorem dX3_append_54 : decode cX3_append 54 = .ok (.return_, 1) := by decide +kernel
theorem dX4_init_0 : decode cX4_init 0 = .ok (.aload_n 0, 1) := by decide +kernel
theorem dX4_init_1 : decode cX4_init 1 = .ok (.invokespecial 3, 3) := by decide +kernel
theorem dX4_init_4 : decode cX4_init 4 = .ok (.aload_n 0, 1) := by decide +kernel
theorem dX4_init_5 : decode cX4_init 5 = .ok (.bipush 8, 2) := by decide +kernel
theorem dX4_init_7 : decode cX4_init 7 = .ok (.newarray .int, 2) := by decide +kernel
theorem dX4_init_9 : decode cX4_init 9 = .ok (.putfield 9, 3) := by decide +kernel
theorem dX4_init_12 : decode cX4_init 12 = .ok (.aload_n 0, 1) := by decide +kernel
theorem dX4_init_13 : decode cX4_init 13 = .ok (.bipush 8, 2) := by decide +kernel
theorem dX4_init_15 : decode cX4_init 15 = .ok (.newarray .int, 2) := by decide +kernel
theorem dX4_init_17 : decode cX4_init 17 = .ok (.putfield 15, 3) := by decide +kernel
theorem dX4_init_20 : decode cX4_init 20 = .ok (.aload_n 0, 1) := by decide +kernel
theorem dX4_init_21 : decode cX4_init 21 = .ok (.bipush 8, 2) := by decide +kernel
theorem dX4_init_23 : decode cX4_init 23 = .ok (.newarray .int, 2) := by decide +kernel
theorem dX4_init_25 : decode cX4_init 25 = .ok (.putfield 18, 3) := by decide +kernel
theorem dX4_init_28 : decode cX4_init 28 = .ok (.aload_n 0, 1) := by decide +kernel
theorem dX4_init_29 : decode cX4_init 29 = .ok (.bipush 8, 2) := by decide +kernel
theorem dX4_init_31 : decode cX4_init 31 = .ok (.newarray .int, 2) := by decide +kernel
theorem dX4_init_33 : decode cX4_init 33 = .ok (.putfield 21, 3) := by decide +kernel
theorem dX4_init_36 : decode cX4_init 36 = .ok (.aload_n 0, 1) := by decide +kernel
theorem dX4_init_37 : decode cX4_init 37 = .ok (.bipush 8, 2) := by decide +kernel
theorem dX4_init_39 : decode cX4_init 39 = .ok (.newarray .int, 2) := by decide +kernel
theorem dX4_init_41 : decode cX4_init 41 = .ok (.putfield 24, 3) := by decide +kernel
theorem dX4_init_44 : decode cX4_init 44 = .ok (.aload_n 0, 1) := by decide +kernel
theorem dX4_init_45 : decode cX4_init 45 = .ok (.bipush 8, 2) := by decide +kernel
theorem dX4_init_47 : decode cX4_init 47 = .ok (.newarray .int, 2) := by decide +kernel
theorem dX4_init_49 : decode cX4_init 49 = .ok (.putfield 27, 3) := by decide +kernel
theorem dX4_init_52 : decode cX4_init 52 = .ok (.aload_n 0, 1) := by decide +kernel
theorem dX4_init_53 : decode cX4_init 53 = .ok (.bipush 8, 2) := by decide +kernel
theorem dX4_init_55 : decode cX4_init 55 = .ok (.newarray .int, 2) := by decide +kernel
theorem dX4_init_57 : decode cX4_init 57 = .ok (.putfield 30, 3) := by decide +kernel
theorem dX4_init_60 : decode cX4_init 60 = .ok (.aload_n 0, 1) := by decide +kernel
theorem dX4_init_61 : decode cX4_init 61 = .ok (.bipush 8, 2) := by decide +kernel
theorem dX4_init_63 : decode cX4_init 63 = .ok (.newarray .long, 2) := by decide +kernel
theorem dX4_init_65 : decode cX4_init 65 = .ok (.putfield 33, 3) := by decide +kernel
theorem dX4_init_68 : decode cX4_init 68 = .ok (.aload_n 0, 1) := by decide +kernel
theorem dX4_init_69 : decode cX4_init 69 = .ok (.bipush 8, 2) := by decide +kernel
theorem dX4_init_71 : decode cX4_init 71 = .ok (.newarray .long, 2) := by decide +kernel
theorem dX4_init_73 : decode cX4_init 73 = .ok (.putfield 37, 3) := by decide +kernel
theorem dX4_init_76 : decode cX4_init 76 = .ok (.aload_n 0, 1) := by decide +kernel
theorem dX4_init_77 : decode cX4_init 77 = .ok (.iconst 0, 1) := by decide +kernel
theorem dX4_init_78 : decode cX4_init 78 = .ok (.putfield 40, 3) := by decide +kernel
theorem dX4_init_81 : decode cX4_init 81 = .ok (.aload_n 0, 1) := by decide +kernel
theorem dX4_init_82 : decode cX4_init 82 = .ok (.iconst 0, 1) := by decide +kernel
theorem dX4_init_83 : decode cX4_init 83 = .ok (.putfield 44, 3) := by decide +kernel
theorem dX4_init_86 : decode cX4_init 86 = .ok (.aload_n 0, 1) := by decide +kernel
theorem dX4_init_87 : decode cX4_init 87 = .ok (.iconst 0, 1) := by decide +kernel
theorem dX4_init_88 : decode cX4_init 88 = .ok (.putfield 47, 3) := by decide +kernel
theorem dX4_init_91 : decode cX4_init 91 = .ok (.aload_n 0, 1) := by decide +kernel
theorem dX4_init_92 : decode cX4_init 92 = .ok (.lconst 0, 1) := by decide +kernel
theorem dX4_init_93 : decode cX4_init 93 = .ok (.putfield 50, 3) := by decide +kernel
theorem dX4_init_96 : decode cX4_init 96 = .ok (.aload_n 0, 1) := by decide +kernel
theorem dX4_init_97 : decode cX4_init 97 = .ok (.lconst 0, 1) := by decide +kernel
theorem dX4_init_98 : decode cX4_init 98 = .ok (.putfield 54, 3) := by decide +kernel
theorem dX4_init_101 : decode cX4_init 101 = .ok (.aload_n 0, 1) := by decide +kernel
theorem dX4_init_102 : decode cX4_init 102 = .ok (.sipush 1000, 3) := by decide +kernel
theorem dX4_init_105 : decode cX4_init 105 = .ok (.putfield 57, 3) := by decide +kernel
theorem dX4_init_108 : decode cX4_init 108 = .ok (.aload_n 0, 1) := by decide +kernel
theorem dX4_init_109 : decode cX4_init 109 = .ok (.ldc 60, 2) := by decide +kernel
theorem dX4_init_111 : decode cX4_init 111 = .ok (.putfield 61, 3) := by decide +kernel
theorem dX4_init_114 : decode cX4_init 114 = .ok (.aload_n 0, 1) := by decide +kernel
theorem dX4_init_115 : decode cX4_init 115 = .ok (.iconst 0, 1) := by decide +kernel
theorem dX4_init_116 : decode cX4_init 116 = .ok (.putfield 64, 3) := by decide +kernel
theorem dX4_init_119 : decode cX4_init 119 = .ok (.return_, 1) := by decide +kernel
theorem dX4_clear_0 : decode cX4_clear 0 = .ok (.aload_n 0, 1) := by decide +kernel
theorem dX4_clear_1 : decode cX4_clear 1 = .ok (.iconst 0, 1) := by decide +kernel
theorem dX4_clear_2 : decode cX4_clear 2 = .ok (.putfield 40, 3) := by decide +kernel
theorem dX4_clear_5 : decode cX4_clear 5 = .ok (.aload_n 0, 1) := by decide +kernel
theorem dX4_clear_6 : decode cX4_clear 6 = .ok (.iconst 0, 1) := by decide +kernel
theorem dX4_clear_7 : decode cX4_clear 7 = .ok (.putfield 44, 3) := by decide +kernel
theorem dX4_clear_10 : decode cX4_clear 10 = .ok (.aload_n 0, 1) := by decide +kernel
theorem dX4_clear_11 : decode cX4_clear 11 = .ok (.iconst 0, 1) := by decide +kernel
theorem dX4_clear_12 : decode cX4_clear 12 = .ok (.putfield 47, 3) := by decide +kernel
theorem dX4_clear_15 : decode cX4_clear 15 = .ok (.aload_n 0, 1) := by decide +kernel
theorem dX4_clear_16 : decode cX4_clear 16 = .ok (.lconst 0, 1) := by decide +kernel
theorem dX4_clear_17 : decode cX4_clear 17 = .ok (.putfield 50, 3) := by decide +kernel
theorem dX4_clear_20 : decode cX4_clear 20 = .ok (.aload_n 0, 1) := by decide +kernel
theorem dX4_clear_21 : decode cX4_clear 21 = .ok (.lconst 0, 1) := by decide +kernel
theorem dX4_clear_22 : decode cX4_clear 22 = .ok (.putfield 54, 3) := by decide +kernel
theorem dX4_clear_25 : decode cX4_clear 25 = .ok (.aload_n 0, 1) := by decide +kernel
theorem dX4_clear_26 : decode cX4_clear 26 = .ok (.sipush 1000, 3) := by decide +kernel
theorem dX4_clear_29 : decode cX4_clear 29 = .ok (.putfield 57, 3) := by decide +kernel
theorem dX4_clear_32 : decode cX4_clear 32 = .ok (.aload_n 0, 1) := by decide +kernel
theorem dX4_clear_33 : decode cX4_clear 33 = .ok (.ldc 60, 2) := by decide +kernel
theorem dX4_clear_35 : decode cX4_clear 35 = .ok (.putfield 61, 3) := by decide +kernel
theorem dX4_clear_38 : decode cX4_clear 38 = .ok (.aload_n 0, 1) := by decide +kernel
theorem dX4_clear_39 : decode cX4_clear 39 = .ok (.iconst 0, 1) := by decide +kernel
theorem dX4_clear_40 : decode cX4_clear 40 = .ok (.putfield 64, 3) := by decide +kernel
theorem dX4_clear_43 : decode cX4_clear 43 = .ok (.return_, 1) := by decide +kernel
theorem dX4_copyFrom_0 : decode cX4_copyFrom 0 = .ok (.aload_n 1, 1) := by decide +kernel
theorem dX4_copyFrom_1 : decode cX4_copyFrom 1 = .ok (.getfield 9, 3) := by decide +kernel
theorem dX4_copyFrom_4 : decode cX4_copyFrom 4 = .ok (.iconst 0, 1) := by decide +kernel
theorem dX4_copyFrom_5 : decode cX4_copyFrom 5 = .ok (.aload_n 0, 1) := by decide +kernel
theorem dX4_copyFrom_6 : decode cX4_copyFrom 6 = .ok (.getfield 9, 3) := by decide +kernel
theorem dX4_copyFrom_9 : decode cX4_copyFrom 9 = .ok (.iconst 0, 1) := by decide +kernel
theorem dX4_copyFrom_10 : decode cX4_copyFrom 10 = .ok (.bipush 8, 2) := by decide +kernel
theorem dX4_copyFrom_12 : decode cX4_copyFrom 12 = .ok (.invokestatic 67, 3) := by decide +kernel
theorem dX4_copyFrom_15 : decode cX4_copyFrom 15 = .ok (.aload_n 1, 1) := by decide +kernel
theorem dX4_copyFrom_16 : decode cX4_copyFrom 16 = .ok (.getfield 15, 3) := by decide +kernel
theorem dX4_copyFrom_19 : decode cX4_copyFrom 19 = .ok (.iconst 0, 1) := by decide +kernel
theorem dX4_copyFrom_20 : decode cX4_copyFrom 20 = .ok (.aload_n 0, 1) := by decide +kernel
theorem dX4_copyFrom_21 : decode cX4_copyFrom 21 = .ok (.getfield 15, 3) := by decide +kernel
theorem dX4_copyFrom_24 : decode cX4_copyFrom 24 = .ok (.iconst 0, 1) := by decide +kernel
theorem dX4_copyFrom_25 : decode cX4_copyFrom 25 = .ok (.bipush 8, 2) := by decide +kernel
theorem dX4_copyFrom_27 : decode cX4_copyFrom 27 = .ok (.invokestatic 67, 3) := by decide +kernel
theorem dX4_copyFrom_30 : decode cX4_copyFrom 30 = .ok (.aload_n 1, 1) := by decide +kernel
theorem dX4_copyFrom_31 : decode cX4_copyFrom 31 = .ok (.getfield 18, 3) := by decide +kernel
theorem dX4_copyFrom_34 : decode cX4_copyFrom 34 = .ok (.iconst 0, 1) := by decide +kernel
theorem dX4_copyFrom_35 : decode cX4_copyFrom 35 = .ok (.aload_n 0, 1) := by decide +kernel
theorem dX4_copyFrom_36 : decode cX4_copyFrom 36 = .ok (.getfield 18, 3) := by decide +kernel
theorem dX4_copyFrom_39 : decode cX4_copyFrom 39 = .ok (.iconst 0, 1) := by decide +kernel
theorem dX4_copyFrom_40 : decode cX4_copyFrom 40 = .ok (.bipush 8, 2) := by decide +kernel
theorem dX4_copyFrom_42 : decode cX4_copyFrom 42 = .ok (.invokestatic 67, 3) := by decide +kernel
theorem dX4_copyFrom_45 : decode cX4_copyFrom 45 = .ok (.aload_n 1, 1) := by decide +kernel
theorem dX4_copyFrom_46 : decode cX4_copyFrom 46 = .ok (.getfield 21, 3) := by decide +kernel
theorem dX4_copyFrom_49 : decode cX4_copyFrom 49 = .ok (.iconst 0, 1) := by decide +kernel
theorem dX4_copyFrom_50 : decode cX4_copyFrom 50 = .ok (.aload_n 0, 1) := by decide +kernel
theorem dX4_copyFrom_51 : decode cX4_copyFrom 51 = .ok (.getfield 21, 3) := by decide +kernel
theorem dX4_copyFrom_54 : decode cX4_copyFrom 54 = .ok (.iconst 0, 1) := by decide +kernel
theorem dX4_copyFrom_55 : decode cX4_copyFrom 55 = .ok (.bipush 8, 2) := by decide +kernel
theorem dX4_copyFrom_57 : decode cX4_copyFrom 57 = .ok (.invokestatic 67, 3) := by decide +kernel
theorem dX4_copyFrom_60 : decode cX4_copyFrom 60 = .ok (.aload_n 1, 1) := by decide +kernel
theorem dX4_copyFrom_61 : decode cX4_copyFrom 61 = .ok (.getfield 24, 3) := by decide +kernel
theorem dX4_copyFrom_64 : decode cX4_copyFrom 64 = .ok (.iconst 0, 1) := by decide +kernel
theorem dX4_copyFrom_65 : decode cX4_copyFrom 65 = .ok (.aload_n 0, 1) := by decide +kernel
theorem dX4_copyFrom_66 : decode cX4_copyFrom 66 = .ok (.getfield 24, 3) := by decide +kernel
theorem dX4_copyFrom_69 : decode cX4_copyFrom 69 = .ok (.iconst 0, 1) := by decide +kernel
theorem dX4_copyFrom_70 : decode cX4_copyFrom 70 = .ok (.bipush 8, 2) := by decide +kernel
theorem dX4_copyFrom_72 : decode cX4_copyFrom 72 = .ok (.invokestatic 67, 3) := by decide +kernel
theorem dX4_copyFrom_75 : decode cX4_copyFrom 75 = .ok (.aload_n 1, 1) := by decide +kernel
theorem dX4_copyFrom_76 : decode cX4_copyFrom 76 = .ok (.getfield 27, 3) := by decide +kernel
theorem dX4_copyFrom_79 : decode cX4_copyFrom 79 = .ok (.iconst 0, 1) := by decide +kernel
theorem dX4_copyFrom_80 : decode cX4_copyFrom 80 = .ok (.aload_n 0, 1) := by decide +kernel
theorem dX4_copyFrom_81 : decode cX4_copyFrom 81 = .ok (.getfield 27, 3) := by decide +kernel
theorem dX4_copyFrom_84 : decode cX4_copyFrom 84 = .ok (.iconst 0, 1) := by decide +kernel
theorem dX4_copyFrom_85 : decode cX4_copyFrom 85 = .ok (.bipush 8, 2) := by decide +kernel
theorem dX4_copyFrom_87 : decode cX4_copyFrom 87 = .ok (.invokestatic 67, 3) := by decide +kernel
theorem dX4_copyFrom_90 : decode cX4_copyFrom 90 = .ok (.aload_n 1, 1) := by decide +kernel
theorem dX4_copyFrom_91 : decode cX4_copyFrom 91 = .ok (.getfield 30, 3) := by decide +kernel
theorem dX4_copyFrom_94 : decode cX4_copyFrom 94 = .ok (.iconst 0, 1) := by decide +kernel
theorem dX4_copyFrom_95 : decode cX4_copyFrom 95 = .ok (.aload_n 0, 1) := by decide +kernel
theorem dX4_copyFrom_96 : decode cX4_copyFrom 96 = .ok (.getfield 30, 3) := by decide +kernel
theorem dX4_copyFrom_99 : decode cX4_copyFrom 99 = .ok (.iconst 0, 1) := by decide +kernel
theorem dX4_copyFrom_100 : decode cX4_copyFrom 100 = .ok (.bipush 8, 2) := by decide +kernel
theorem dX4_copyFrom_102 : decode cX4_copyFrom 102 = .ok (.invokestatic 67, 3) := by decide +kernel
theorem dX4_copyFrom_105 : decode cX4_copyFrom 105 = .ok (.aload_n 1, 1) := by decide +kernel
theorem dX4_copyFrom_106 : decode cX4_copyFrom 106 = .ok (.getfield 33, 3) := by decide +kernel
theorem dX4_copyFrom_109 : decode cX4_copyFrom 109 = .ok (.iconst 0, 1) := by decide +kernel
theorem dX4_copyFrom_110 : decode cX4_copyFrom 110 = .ok (.aload_n 0, 1) := by decide +kernel
theorem dX4_copyFrom_111 : decode cX4_copyFrom 111 = .ok (.getfield 33, 3) := by decide +kernel
theorem dX4_copyFrom_114 : decode cX4_copyFrom 114 = .ok (.iconst 0, 1) := by decide +kernel
theorem dX4_copyFrom_115 : decode cX4_copyFrom 115 = .ok (.bipush 8, 2) := by decide +kernel
theorem dX4_copyFrom_117 : decode cX4_copyFrom 117 = .ok (.invokestatic 67, 3) := by decide +kernel
theorem dX4_copyFrom_120 : decode cX4_copyFrom 120 = .ok (.aload_n 1, 1) := by decide +kernel
theorem dX4_copyFrom_121 : decode cX4_copyFrom 121 = .ok (.getfield 37, 3) := by decide +kernel
theorem dX4_copyFrom_124 : decode cX4_copyFrom 124 = .ok (.iconst 0, 1) := by decide +kernel
theorem dX4_copyFrom_125 : decode cX4_copyFrom 125 = .ok (.aload_n 0, 1) := by decide +kernel
theorem dX4_copyFrom_126 : decode cX4_copyFrom 126 = .ok (.getfield 37, 3) := by decide +kernel
theorem dX4_copyFrom_129 : decode cX4_copyFrom 129 = .ok (.iconst 0, 1) := by decide +kernel
theorem dX4_copyFrom_130 : decode cX4_copyFrom 130 = .ok (.bipush 8, 2) := by decide +kernel
theorem dX4_copyFrom_132 : decode cX4_copyFrom 132 = .ok (.invokestatic 67, 3) := by decide +kernel
theorem dX4_copyFrom_135 : decode cX4_copyFrom 135 = .ok (.aload_n 0, 1) := by decide +kernel
theorem dX4_copyFrom_136 : decode cX4_copyFrom 136 = .ok (.aload_n 1, 1) := by decide +kernel
theorem dX4_copyFrom_137 : decode cX4_copyFrom 137 = .ok (.getfield 40, 3) := by decide +kernel
theorem dX4_copyFrom_140 : decode cX4_copyFrom 140 = .ok (.putfield 40, 3) := by decide +kernel
theorem dX4_copyFrom_143 : decode cX4_copyFrom 143 = .ok (.aload_n 0, 1) := by decide +kernel
theorem dX4_copyFrom_144 : decode cX4_copyFrom 144 = .ok (.aload_n 1, 1) := by decide +kernel
theorem dX4_copyFrom_145 : decode cX4_copyFrom 145 = .ok (.getfield 44, 3) := by decide +kernel
theorem dX4_copyFrom_148 : decode cX4_copyFrom 148 = .ok (.putfield 44, 3) := by decide +kernel
theorem dX4_copyFrom_151 : decode cX4_copyFrom 151 = .ok (.aload_n 0, 1) := by decide +kernel
theorem dX4_copyFrom_152 : decode cX4_copyFrom 152 = .ok (.aload_n 1, 1) := by decide +kernel
theorem dX4_copyFrom_153 : decode cX4_copyFrom 153 = .ok (.getfield 47, 3) := by decide +kernel
theorem dX4_copyFrom_156 : decode cX4_copyFrom 156 = .ok (.putfield 47, 3) := by decide +kernel
theorem dX4_copyFrom_159 : decode cX4_copyFrom 159 = .ok (.aload_n 0, 1) := by decide +kernel
theorem dX4_copyFrom_160 : decode cX4_copyFrom 160 = .ok (.aload_n 1, 1) := by decide +kernel
theorem dX4_copyFrom_161 : decode cX4_copyFrom 161 = .ok (.getfield 50, 3) := by decide +kernel
theorem dX4_copyFrom_164 : decode cX4_copyFrom 164 = .ok (.putfield 50, 3) := by decide +kernel
theorem dX4_copyFrom_167 : decode cX4_copyFrom 167 = .ok (.aload_n 0, 1) := by decide +kernel
theorem dX4_copyFrom_168 : decode cX4_copyFrom 168 = .ok (.aload_n 1, 1) := by decide +kernel
theorem dX4_copyFrom_169 : decode cX4_copyFrom 169 = .ok (.getfield 54, 3) := by decide +kernel
theorem dX4_copyFrom_172 : decode cX4_copyFrom 172 = .ok (.putfield 54, 3) := by decide +kernel
theorem dX4_copyFrom_175 : decode cX4_copyFrom 175 = .ok (.aload_n 0, 1) := by decide +kernel
theorem dX4_copyFrom_176 : decode cX4_copyFrom 176 = .ok (.aload_n 1, 1) := by decide +kernel
theorem dX4_copyFrom_177 : decode cX4_copyFrom 177 = .ok (.getfield 57, 3) := by decide +kernel
theorem dX4_copyFrom_180 : decode cX4_copyFrom 180 = .ok (.putfield 57, 3) := by decide +kernel
theorem dX4_copyFrom_183 : decode cX4_copyFrom 183 = .ok (.aload_n 0, 1) := by decide +kernel
theorem dX4_copyFrom_184 : decode cX4_copyFrom 184 = .ok (.aload_n 1, 1) := by decide +kernel
theorem dX4_copyFrom_185 : decode cX4_copyFrom 185 = .ok (.getfield 61, 3) := by decide +kernel
theorem dX4_copyFrom_188 : decode cX4_copyFrom 188 = .ok (.putfield 61, 3) := by decide +kernel
theorem dX4_copyFrom_191 : decode cX4_copyFrom 191 = .ok (.aload_n 0, 1) := by decide +kernel
theorem dX4_copyFrom_192 : decode cX4_copyFrom 192 = .ok (.aload_n 1, 1) := by decide +kernel
theorem dX4_copyFrom_193 : decode cX4_copyFrom 193 = .ok (.getfield 64, 3) := by decide +kernel
theorem dX4_copyFrom_196 : decode cX4_copyFrom 196 = .ok (.putfield 64, 3) := by decide +kernel
theorem dX4_copyFrom_199 : decode cX4_copyFrom 199 = .ok (.return_, 1) := by decide +kernel
theorem dX4_has_0 : decode cX4_has 0 = .ok (.iload_n 1, 1) := by decide +kernel
theorem dX4_has_1 : decode cX4_has 1 = .ok (.ifCond .lt 25, 3) := by decide +kernel
theorem dX4_has_4 : decode cX4_has 4 = .ok (.iload_n 1, 1) := by decide +kernel
theorem dX4_has_5 : decode cX4_has 5 = .ok (.bipush 8, 2) := by decide +kernel
theorem dX4_has_7 : decode cX4_has 7 = .ok (.if_icmp .ge 19, 3) := by decide +kernel
theorem dX4_has_10 : decode cX4_has 10 = .ok (.aload_n 0, 1) := by decide +kernel
theorem dX4_has_11 : decode cX4_has 11 = .ok (.getfield 40, 3) := by decide +kernel
theorem dX4_has_14 : decode cX4_has 14 = .ok (.iload_n 1, 1) := by decide +kernel
theorem dX4_has_15 : decode cX4_has 15 = .ok (.ishr, 1) := by decide +kernel
theorem dX4_has_16 : decode cX4_has 16 = .ok (.iconst 1, 1) := by decide +kernel
theorem dX4_has_17 : decode cX4_has 17 = .ok (.iand, 1) := by decide +kernel
theorem dX4_has_18 : decode cX4_has 18 = .ok (.iconst 1, 1) := by decide +kernel
theorem dX4_has_19 : decode cX4_has 19 = .ok (.if_icmp .ne 7, 3) := by decide +kernel
theorem dX4_has_22 : decode cX4_has 22 = .ok (.iconst 1, 1) := by decide +kernel
theorem dX4_has_23 : decode cX4_has 23 = .ok (.goto 4, 3) := by decide +kernel
theorem dX4_has_26 : decode cX4_has 26 = .ok (.iconst 0, 1) := by decide +kernel
theorem dX4_has_27 : decode cX4_has 27 = .ok (.ireturn, 1) := by decide +kernel
theorem dX4_mints_0 : decode cX4_mints 0 = .ok (.aload_n 0, 1) := by decide +kernel
theorem dX4_mints_1 : decode cX4_mints 1 = .ok (.getfield 44, 3) := by decide +kernel
theorem dX4_mints_4 : decode cX4_mints 4 = .ok (.iload_n 1, 1) := by decide +kernel
theorem dX4_mints_5 : decode cX4_mints 5 = .ok (.ishr, 1) := by decide +kernel
theorem dX4_mints_6 : decode cX4_mints 6 = .ok (.iconst 1, 1) := by decide +kernel
theorem dX4_mints_7 : decode cX4_mints 7 = .ok (.iand, 1) := by decide +kernel
theorem dX4_mints_8 : decode cX4_mints 8 = .ok (.iconst 1, 1) := by decide +kernel
theorem dX4_mints_9 : decode cX4_mints 9 = .ok (.if_icmp .ne 7, 3) := by decide +kernel
theorem dX4_mints_12 : decode cX4_mints 12 = .ok (.iconst 1, 1) := by decide +kernel
theorem dX4_mints_13 : decode cX4_mints 13 = .ok (.goto 4, 3) := by decide +kernel
theorem dX4_mints_16 : decode cX4_mints 16 = .ok (.iconst 0, 1) := by decide +kernel
theorem dX4_mints_17 : decode cX4_mints 17 = .ok (.ireturn, 1) := by decide +kernel
theorem dX4_limps_0 : decode cX4_limps 0 = .ok (.aload_n 0, 1) := by decide +kernel
theorem dX4_limps_1 : decode cX4_limps 1 = .ok (.getfield 47, 3) := by decide +kernel
theorem dX4_limps_4 : decode cX4_limps 4 = .ok (.iload_n 1, 1) := by decide +kernel
theorem dX4_limps_5 : decode cX4_limps 5 = .ok (.ishr, 1) := by decide +kernel
theorem dX4_limps_6 : decode cX4_limps 6 = .ok (.iconst 1, 1) := by decide +kernel
theorem dX4_limps_7 : decode cX4_limps 7 = .ok (.iand, 1) := by decide +kernel
theorem dX4_limps_8 : decode cX4_limps 8 = .ok (.iconst 1, 1) := by decide +kernel
theorem dX4_limps_9 : decode cX4_limps 9 = .ok (.if_icmp .ne 7, 3) := by decide +kernel
theorem dX4_limps_12 : decode cX4_limps 12 = .ok (.iconst 1, 1) := by decide +kernel
theorem dX4_limps_13 : decode cX4_limps 13 = .ok (.goto 4, 3) := by decide +kernel
theorem dX4_limps_16 : decode cX4_limps 16 = .ok (.iconst 0, 1) := by decide +kernel
theorem dX4_limps_17 : decode cX4_limps 17 = .ok (.ireturn, 1) := by decide +kernel
theorem dX4_hasGold_0 : decode cX4_hasGold 0 = .ok (.aload_n 0, 1) := by decide +kernel
theorem dX4_hasGold_1 : decode cX4_hasGold 1 = .ok (.getfield 33, 3) := by decide +kernel
theorem dX4_hasGold_4 : decode cX4_hasGold 4 = .ok (.iload_n 1, 1) := by decide +kernel
theorem dX4_hasGold_5 : decode cX4_hasGold 5 = .ok (.laload, 1) := by decide +kernel
theorem dX4_hasGold_6 : decode cX4_hasGold 6 = .ok (.lconst 0, 1) := by decide +kernel
theorem dX4_hasGold_7 : decode cX4_hasGold 7 = .ok (.lcmp, 1) := by decide +kernel
theorem dX4_hasGold_8 : decode cX4_hasGold 8 = .ok (.ifCond .le 7, 3) := by decide +kernel
theorem dX4_hasGold_11 : decode cX4_hasGold 11 = .ok (.iconst 1, 1) := by decide +kernel
theorem dX4_hasGold_12 : decode cX4_hasGold 12 = .ok (.goto 4, 3) := by decide +kernel
theorem dX4_hasGold_15 : decode cX4_hasGold 15 = .ok (.iconst 0, 1) := by decide +kernel
theorem dX4_hasGold_16 : decode cX4_hasGold 16 = .ok (.ireturn, 1) := by decide +kernel
theorem dX4_hasSilver_0 : decode cX4_hasSilver 0 = .ok (.aload_n 0, 1) := by decide +kernel
theorem dX4_hasSilver_1 : decode cX4_hasSilver 1 = .ok (.getfield 37, 3) := by decide +kernel
theorem dX4_hasSilver_4 : decode cX4_hasSilver 4 = .ok (.iload_n 1, 1) := by decide +kernel
theorem dX4_hasSilver_5 : decode cX4_hasSilver 5 = .ok (.laload, 1) := by decide +kernel
theorem dX4_hasSilver_6 : decode cX4_hasSilver 6 = .ok (.aload_n 0, 1) := by decide +kernel
theorem dX4_hasSilver_7 : decode cX4_hasSilver 7 = .ok (.getfield 9, 3) := by decide +kernel
theorem dX4_hasSilver_10 : decode cX4_hasSilver 10 = .ok (.iload_n 1, 1) := by decide +kernel
theorem dX4_hasSilver_11 : decode cX4_hasSilver 11 = .ok (.iaload, 1) := by decide +kernel
theorem dX4_hasSilver_12 : decode cX4_hasSilver 12 = .ok (.i2l, 1) := by decide +kernel
theorem dX4_hasSilver_13 : decode cX4_hasSilver 13 = .ok (.lcmp, 1) := by decide +kernel
theorem dX4_hasSilver_14 : decode cX4_hasSilver 14 = .ok (.ifCond .lt 7, 3) := by decide +kernel
theorem dX4_hasSilver_17 : decode cX4_hasSilver 17 = .ok (.iconst 1, 1) := by decide +kernel
theorem dX4_hasSilver_18 : decode cX4_hasSilver 18 = .ok (.goto 4, 3) := by decide +kernel
theorem dX4_hasSilver_21 : decode cX4_hasSilver 21 = .ok (.iconst 0, 1) := by decide +kernel
theorem dX4_hasSilver_22 : decode cX4_hasSilver 22 = .ok (.ireturn, 1) := by decide +kernel
theorem dX4_setLaw_0 : decode cX4_setLaw 0 = .ok (.aload_n 0, 1) := by decide +kernel
theorem dX4_setLaw_1 : decode cX4_setLaw 1 = .ok (.getfield 9, 3) := by decide +kernel
theorem dX4_setLaw_4 : decode cX4_setLaw 4 = .ok (.iload_n 1, 1) := by decide +kernel
theorem dX4_setLaw_5 : decode cX4_setLaw 5 = .ok (.iload_n 2, 1) := by decide +kernel
theorem dX4_setLaw_6 : decode cX4_setLaw 6 = .ok (.iastore, 1) := by decide +kernel
theorem dX4_setLaw_7 : decode cX4_setLaw 7 = .ok (.sipush 1000, 3) := by decide +kernel
theorem dX4_setLaw_10 : decode cX4_setLaw 10 = .ok (.aload_n 0, 1) := by decide +kernel
theorem dX4_setLaw_11 : decode cX4_setLaw 11 = .ok (.getfield 18, 3) := by decide +kernel
theorem dX4_setLaw_14 : decode cX4_setLaw 14 = .ok (.iload_n 1, 1) := by decide +kernel
theorem dX4_setLaw_15 : decode cX4_setLaw 15 = .ok (.iaload, 1) := by decide +kernel
theorem dX4_setLaw_16 : decode cX4_setLaw 16 = .ok (.iadd, 1) := by decide +kernel
theorem dX4_setLaw_17 : decode cX4_setLaw 17 = .ok (.istore_n 3, 1) := by decide +kernel
theorem dX4_setLaw_18 : decode cX4_setLaw 18 = .ok (.ldc2_w 73, 3) := by decide +kernel
theorem dX4_setLaw_21 : decode cX4_setLaw 21 = .ok (.iconst 0, 1) := by decide +kernel
theorem dX4_setLaw_22 : decode cX4_setLaw 22 = .ok (.iload_n 2, 1) := by decide +kernel
theorem dX4_setLaw_23 : decode cX4_setLaw 23 = .ok (.aload_n 0, 1) := by decide +kernel
theorem dX4_setLaw_24 : decode cX4_setLaw 24 = .ok (.getfield 15, 3) := by decide +kernel
theorem dX4_setLaw_27 : decode cX4_setLaw 27 = .ok (.iload_n 1, 1) := by decide +kernel
theorem dX4_setLaw_28 : decode cX4_setLaw 28 = .ok (.iaload, 1) := by decide +kernel
theorem dX4_setLaw_29 : decode cX4_setLaw 29 = .ok (.isub, 1) := by decide +kernel
theorem dX4_setLaw_30 : decode cX4_setLaw 30 = .ok (.invokestatic 75, 3) := by decide +kernel
theorem dX4_setLaw_33 : decode cX4_setLaw 33 = .ok (.i2l, 1) := by decide +kernel
theorem dX4_setLaw_34 : decode cX4_setLaw 34 = .ok (.lmul, 1) := by decide +kernel
theorem dX4_setLaw_35 : decode cX4_setLaw 35 = .ok (.lstore 4, 2) := by decide +kernel
theorem dX4_setLaw_37 : decode cX4_setLaw 37 = .ok (.aload_n 0, 1) := by decide +kernel
theorem dX4_setLaw_38 : decode cX4_setLaw 38 = .ok (.getfield 27, 3) := by decide +kernel
theorem dX4_setLaw_41 : decode cX4_setLaw 41 = .ok (.iload_n 1, 1) := by decide +kernel
theorem dX4_setLaw_42 : decode cX4_setLaw 42 = .ok (.lload 4, 2) := by decide +kernel
theorem dX4_setLaw_44 : decode cX4_setLaw 44 = .ok (.iload_n 3, 1) := by decide +kernel
theorem dX4_setLaw_45 : decode cX4_setLaw 45 = .ok (.i2l, 1) := by decide +kernel
theorem dX4_setLaw_46 : decode cX4_setLaw 46 = .ok (.ladd, 1) := by decide +kernel
theorem dX4_setLaw_47 : decode cX4_setLaw 47 = .ok (.lconst 1, 1) := by decide +kernel
theorem dX4_setLaw_48 : decode cX4_setLaw 48 = .ok (.lsub, 1) := by decide +kernel
theorem dX4_setLaw_49 : decode cX4_setLaw 49 = .ok (.iconst 1, 1) := by decide +kernel
theorem dX4_setLaw_50 : decode cX4_setLaw 50 = .ok (.iload_n 3, 1) := by decide +kernel
theorem dX4_setLaw_51 : decode cX4_setLaw 51 = .ok (.invokestatic 75, 3) := by decide +kernel
theorem dX4_setLaw_54 : decode cX4_setLaw 54 = .ok (.i2l, 1) := by decide +kernel
theorem dX4_setLaw_55 : decode cX4_setLaw 55 = .ok (.ldiv, 1) := by decide +kernel
theorem dX4_setLaw_56 : decode cX4_setLaw 56 = .ok (.l2i, 1) := by decide +kernel
theorem dX4_setLaw_57 : decode cX4_setLaw 57 = .ok (.iastore, 1) := by decide +kernel
theorem dX4_setLaw_58 : decode cX4_setLaw 58 = .ok (.ldc2_w 73, 3) := by decide +kernel
theorem dX4_setLaw_61 : decode cX4_setLaw 61 = .ok (.iload_n 2, 1) := by decide +kernel
theorem dX4_setLaw_62 : decode cX4_setLaw 62 = .ok (.aload_n 0, 1) := by decide +kernel
theorem dX4_setLaw_63 : decode cX4_setLaw 63 = .ok (.getfield 15, 3) := by decide +kernel
theorem dX4_setLaw_66 : decode cX4_setLaw 66 = .ok (.iload_n 1, 1) := by decide +kernel
theorem dX4_setLaw_67 : decode cX4_setLaw 67 = .ok (.iaload, 1) := by decide +kernel
theorem dX4_setLaw_68 : decode cX4_setLaw 68 = .ok (.iadd, 1) := by decide +kernel
theorem dX4_setLaw_69 : decode cX4_setLaw 69 = .ok (.i2l, 1) := by decide +kernel
theorem dX4_setLaw_70 : decode cX4_setLaw 70 = .ok (.lmul, 1) := by decide +kernel
theorem dX4_setLaw_71 : decode cX4_setLaw 71 = .ok (.iconst 1, 1) := by decide +kernel
theorem dX4_setLaw_72 : decode cX4_setLaw 72 = .ok (.sipush 1000, 3) := by decide +kernel
theorem dX4_setLaw_75 : decode cX4_setLaw 75 = .ok (.aload_n 0, 1) := by decide +kernel
theorem dX4_setLaw_76 : decode cX4_setLaw 76 = .ok (.getfield 18, 3) := by decide +kernel
theorem dX4_setLaw_79 : decode cX4_setLaw 79 = .ok (.iload_n 1, 1) := by decide +kernel
theorem dX4_setLaw_80 : decode cX4_setLaw 80 = .ok (.iaload, 1) := by decide +kernel
theorem dX4_setLaw_81 : decode cX4_setLaw 81 = .ok (.isub, 1) := by decide +kernel
theorem dX4_setLaw_82 : decode cX4_setLaw 82 = .ok (.invokestatic 75, 3) := by decide +kernel
theorem dX4_setLaw_85 : decode cX4_setLaw 85 = .ok (.i2l, 1) := by decide +kernel
theorem dX4_setLaw_86 : decode cX4_setLaw 86 = .ok (.ldiv, 1) := by decide +kernel
theorem dX4_setLaw_87 : decode cX4_setLaw 87 = .ok (.lstore 6, 2) := by decide +kernel
theorem dX4_setLaw_89 : decode cX4_setLaw 89 = .ok (.aload_n 0, 1) := by decide +kernel
theorem dX4_setLaw_90 : decode cX4_setLaw 90 = .ok (.getfield 30, 3) := by decide +kernel
theorem dX4_setLaw_93 : decode cX4_setLaw 93 = .ok (.iload_n 1, 1) := by decide +kernel
theorem dX4_setLaw_94 : decode cX4_setLaw 94 = .ok (.lload 6, 2) := by decide +kernel
theorem dX4_setLaw_96 : decode cX4_setLaw 96 = .ok (.ldc2_w 81, 3) := by decide +kernel
theorem dX4_setLaw_99 : decode cX4_setLaw 99 = .ok (.invokestatic 83, 3) := by decide +kernel
theorem dX4_setLaw_102 : decode cX4_setLaw 102 = .ok (.l2i, 1) := by decide +kernel
theorem dX4_setLaw_103 : decode cX4_setLaw 103 = .ok (.iastore, 1) := by decide +kernel
theorem dX4_setLaw_104 : decode cX4_setLaw 104 = .ok (.return_, 1) := by decide +kernel
theorem dX4_weigh_0 : decode cX4_weigh 0 = .ok (.aload_n 0, 1) := by decide +kernel
theorem dX4_weigh_1 : decode cX4_weigh 1 = .ok (.getfield 50, 3) := by decide +kernel
theorem dX4_weigh_4 : decode cX4_weigh 4 = .ok (.lconst 0, 1) := by decide +kernel
theorem dX4_weigh_5 : decode cX4_weigh 5 = .ok (.lcmp, 1) := by decide +kernel
theorem dX4_weigh_6 : decode cX4_weigh 6 = .ok (.ifCond .gt 10, 3) := by decide +kernel
theorem dX4_weigh_9 : decode cX4_weigh 9 = .ok (.aload_n 0, 1) := by decide +kernel
theorem dX4_weigh_10 : decode cX4_weigh 10 = .ok (.ldc 60, 2) := by decide +kernel
theorem dX4_weigh_12 : decode cX4_weigh 12 = .ok (.putfield 61, 3) := by decide +kernel
theorem dX4_weigh_15 : decode cX4_weigh 15 = .ok (.return_, 1) := by decide +kernel
theorem dX4_weigh_16 : decode cX4_weigh 16 = .ok (.aload_n 0, 1) := by decide +kernel
theorem dX4_weigh_17 : decode cX4_weigh 17 = .ok (.aload_n 0, 1) := by decide +kernel
theorem dX4_weigh_18 : decode cX4_weigh 18 = .ok (.getfield 57, 3) := by decide +kernel
theorem dX4_weigh_21 : decode cX4_weigh 21 = .ok (.i2l, 1) := by decide +kernel
theorem dX4_weigh_22 : decode cX4_weigh 22 = .ok (.aload_n 0, 1) := by decide +kernel
theorem dX4_weigh_23 : decode cX4_weigh 23 = .ok (.getfield 54, 3) := by decide +kernel
theorem dX4_weigh_26 : decode cX4_weigh 26 = .ok (.lmul, 1) := by decide +kernel
theorem dX4_weigh_27 : decode cX4_weigh 27 = .ok (.ldc2_w 73, 3) := by decide +kernel
theorem dX4_weigh_30 : decode cX4_weigh 30 = .ok (.aload_n 0, 1) := by decide +kernel
theorem dX4_weigh_31 : decode cX4_weigh 31 = .ok (.getfield 50, 3) := by decide +kernel
theorem dX4_weigh_34 : decode cX4_weigh 34 = .ok (.lmul, 1) := by decide +kernel
theorem dX4_weigh_35 : decode cX4_weigh 35 = .ok (.ldiv, 1) := by decide +kernel
theorem dX4_weigh_36 : decode cX4_weigh 36 = .ok (.ldc2_w 81, 3) := by decide +kernel
theorem dX4_weigh_39 : decode cX4_weigh 39 = .ok (.invokestatic 83, 3) := by decide +kernel
theorem dX4_weigh_42 : decode cX4_weigh 42 = .ok (.l2i, 1) := by decide +kernel
theorem dX4_weigh_43 : decode cX4_weigh 43 = .ok (.putfield 61, 3) := by decide +kernel
theorem dX4_weigh_46 : decode cX4_weigh 46 = .ok (.return_, 1) := by decide +kernel
set_option maxRecDepth 20000 in
theorem ggX4_heading_X4_mints : GoodIn wsX4_heading wsX4_mints := goodIn_r _ [11, 12, 28, 29, 30, 31, 32, 33, 34, 35, 36, 37, 38, 39, 40, 41, 42, 43, 44] (by decide +kernel) (by decide +kernel)
set_option maxRecDepth 20000 in
theorem gX4_heading_X4_mints : GoodIn wsX4_heading (wsV RX4 87 RX4 yX4_mints wsX4_mints) := goodIn_app (goodIn_of _ (by decide +kernel)) ggX4_heading_X4_mints
set_option maxRecDepth 20000 in
theorem ggX4_heading_X4_limps : GoodIn wsX4_heading wsX4_limps := goodIn_r _ [16, 17, 28, 29, 30, 31, 32, 33, 34, 35, 36, 37, 38, 39, 40, 41, 42, 43, 44] (by decide +kernel) (by decide +kernel)
set_option maxRecDepth 20000 in
theorem gX4_heading_X4_limps : GoodIn wsX4_heading (wsV RX4 91 RX4 yX4_limps wsX4_limps) := goodIn_app (goodIn_of _ (by decide +kernel)) ggX4_heading_X4_limps
set_option maxRecDepth 20000 in
theorem ggX4_heading_X4_hasGold : GoodIn wsX4_heading wsX4_hasGold := goodIn_r _ [21, 22, 28, 29, 30, 31, 32, 33, 34, 35, 36, 37, 38, 39, 40, 41, 42, 43, 44] (by decide +kernel) (by decide +kernel)
set_option maxRecDepth 20000 in
theorem gX4_heading_X4_hasGold : GoodIn wsX4_heading (wsV RX4 94 RX4 yX4_hasGold wsX4_hasGold) := goodIn_app (goodIn_of _ (by decide +kernel)) ggX4_heading_X4_hasGold
set_option maxRecDepth 20000 in
theorem ggX4_heading_X4_hasSilver : GoodIn wsX4_heading wsX4_hasSilver := goodIn_r _ [26, 27, 4, 28, 29, 30, 31, 32, 33, 34, 35, 36, 37, 38, 39, 40, 41, 42, 43, 44] (by decide +kernel) (by decide +kernel)
set_option maxRecDepth 20000 in
theorem gX4_heading_X4_hasSilver : GoodIn wsX4_heading (wsV RX4 97 RX4 yX4_hasSilver wsX4_hasSilver) := goodIn_app (goodIn_of _ (by decide +kernel)) ggX4_heading_X4_hasSilver
theorem dX4_heading_0 : decode cX4_heading 0 = .ok (.aload_n 0, 1) := by decide +kernel
theorem dX4_heading_1 : decode cX4_heading 1 = .ok (.iload_n 1, 1) := by decide +kernel
theorem dX4_heading_2 : decode cX4_heading 2 = .ok (.invokevirtual 87, 3) := by decide +kernel
theorem dX4_heading_5 : decode cX4_heading 5 = .ok (.ifCond .ne 5, 3) := by decide +kernel
theorem dX4_heading_8 : decode cX4_heading 8 = .ok (.iconst 0, 1) := by decide +kernel
theorem dX4_heading_9 : decode cX4_heading 9 = .ok (.ireturn, 1) := by decide +kernel
theorem dX4_heading_10 : decode cX4_heading 10 = .ok (.aload_n 0, 1) := by decide +kernel
theorem dX4_heading_11 : decode cX4_heading 11 = .ok (.getfield 61, 3) := by decide +kernel
theorem dX4_heading_14 : decode cX4_heading 14 = .ok (.aload_n 0, 1) := by decide +kernel
theorem dX4_heading_15 : decode cX4_heading 15 = .ok (.getfield 30, 3) := by decide +kernel
theorem dX4_heading_18 : decode cX4_heading 18 = .ok (.iload_n 1, 1) := by decide +kernel
theorem dX4_heading_19 : decode cX4_heading 19 = .ok (.iaload, 1) := by decide +kernel
theorem dX4_heading_20 : decode cX4_heading 20 = .ok (.if_icmp .le 50, 3) := by decide +kernel
theorem dX4_heading_23 : decode cX4_heading 23 = .ok (.aload_n 0, 1) := by decide +kernel
theorem dX4_heading_24 : decode cX4_heading 24 = .ok (.iload_n 1, 1) := by decide +kernel
theorem dX4_heading_25 : decode cX4_heading 25 = .ok (.invokevirtual 91, 3) := by decide +kernel
theorem dX4_heading_28 : decode cX4_heading 28 = .ok (.ifCond .ne 30, 3) := by decide +kernel
theorem dX4_heading_31 : decode cX4_heading 31 = .ok (.aload_n 0, 1) := by decide +kernel
theorem dX4_heading_32 : decode cX4_heading 32 = .ok (.iload_n 1, 1) := by decide +kernel
theorem dX4_heading_33 : decode cX4_heading 33 = .ok (.invokevirtual 94, 3) := by decide +kernel
theorem dX4_heading_36 : decode cX4_heading 36 = .ok (.ifCond .eq 22, 3) := by decide +kernel
theorem dX4_heading_39 : decode cX4_heading 39 = .ok (.aload_n 0, 1) := by decide +kernel
theorem dX4_heading_40 : decode cX4_heading 40 = .ok (.getfield 54, 3) := by decide +kernel
theorem dX4_heading_43 : decode cX4_heading 43 = .ok (.aload_n 0, 1) := by decide +kernel
theorem dX4_heading_44 : decode cX4_heading 44 = .ok (.getfield 9, 3) := by decide +kernel
theorem dX4_heading_47 : decode cX4_heading 47 = .ok (.iload_n 1, 1) := by decide +kernel
theorem dX4_heading_48 : decode cX4_heading 48 = .ok (.iaload, 1) := by decide +kernel
theorem dX4_heading_49 : decode cX4_heading 49 = .ok (.i2l, 1) := by decide +kernel
theorem dX4_heading_50 : decode cX4_heading 50 = .ok (.lcmp, 1) := by decide +kernel
theorem dX4_heading_51 : decode cX4_heading 51 = .ok (.ifCond .lt 7, 3) := by decide +kernel
theorem dX4_heading_54 : decode cX4_heading 54 = .ok (.iconst 1, 1) := by decide +kernel
theorem dX4_heading_55 : decode cX4_heading 55 = .ok (.goto 4, 3) := by decide +kernel
theorem dX4_heading_58 : decode cX4_heading 58 = .ok (.iconst 0, 1) := by decide +kernel
theorem dX4_heading_59 : decode cX4_heading 59 = .ok (.istore_n 2, 1) := by decide +kernel
theorem dX4_heading_60 : decode cX4_heading 60 = .ok (.iload_n 2, 1) := by decide +kernel
theorem dX4_heading_61 : decode cX4_heading 61 = .ok (.ifCond .eq 7, 3) := by decide +kernel
theorem dX4_heading_64 : decode cX4_heading 64 = .ok (.iconst 1, 1) := by decide +kernel
theorem dX4_heading_65 : decode cX4_heading 65 = .ok (.goto 4, 3) := by decide +kernel
theorem dX4_heading_68 : decode cX4_heading 68 = .ok (.iconst 0, 1) := by decide +kernel
theorem dX4_heading_69 : decode cX4_heading 69 = .ok (.ireturn, 1) := by decide +kernel
theorem dX4_heading_70 : decode cX4_heading 70 = .ok (.aload_n 0, 1) := by decide +kernel
theorem dX4_heading_71 : decode cX4_heading 71 = .ok (.getfield 61, 3) := by decide +kernel
theorem dX4_heading_74 : decode cX4_heading 74 = .ok (.aload_n 0, 1) := by decide +kernel
theorem dX4_heading_75 : decode cX4_heading 75 = .ok (.getfield 27, 3) := by decide +kernel
theorem dX4_heading_78 : decode cX4_heading 78 = .ok (.iload_n 1, 1) := by decide +kernel
theorem dX4_heading_79 : decode cX4_heading 79 = .ok (.iaload, 1) := by decide +kernel
theorem dX4_heading_80 : decode cX4_heading 80 = .ok (.if_icmp .ge 36, 3) := by decide +kernel
theorem dX4_heading_83 : decode cX4_heading 83 = .ok (.aload_n 0, 1) := by decide +kernel
theorem dX4_heading_84 : decode cX4_heading 84 = .ok (.getfield 50, 3) := by decide +kernel
theorem dX4_heading_87 : decode cX4_heading 87 = .ok (.lconst 0, 1) := by decide +kernel
theorem dX4_heading_88 : decode cX4_heading 88 = .ok (.lcmp, 1) := by decide +kernel
theorem dX4_heading_89 : decode cX4_heading 89 = .ok (.ifCond .le 15, 3) := by decide +kernel
theorem dX4_heading_92 : decode cX4_heading 92 = .ok (.aload_n 0, 1) := by decide +kernel
theorem dX4_heading_93 : decode cX4_heading 93 = .ok (.iload_n 1, 1) := by decide +kernel
theorem dX4_heading_94 : decode cX4_heading 94 = .ok (.invokevirtual 97, 3) := by decide +kernel
theorem dX4_heading_97 : decode cX4_heading 97 = .ok (.ifCond .eq 7, 3) := by decide +kernel
theorem dX4_heading_100 : decode cX4_heading 100 = .ok (.iconst 1, 1) := by decide +kernel
theorem dX4_heading_101 : decode cX4_heading 101 = .ok (.goto 4, 3) := by decide +kernel
theorem dX4_heading_104 : decode cX4_heading 104 = .ok (.iconst 0, 1) := by decide +kernel
theorem dX4_heading_105 : decode cX4_heading 105 = .ok (.istore_n 2, 1) := by decide +kernel
theorem dX4_heading_106 : decode cX4_heading 106 = .ok (.iload_n 2, 1) := by decide +kernel
theorem dX4_heading_107 : decode cX4_heading 107 = .ok (.ifCond .eq 7, 3) := by decide +kernel
theorem dX4_heading_110 : decode cX4_heading 110 = .ok (.iconst 2, 1) := by decide +kernel
theorem dX4_heading_111 : decode cX4_heading 111 = .ok (.goto 4, 3) := by decide +kernel
theorem dX4_heading_114 : decode cX4_heading 114 = .ok (.iconst 0, 1) := by decide +kernel
theorem dX4_heading_115 : decode cX4_heading 115 = .ok (.ireturn, 1) := by decide +kernel
theorem dX4_heading_116 : decode cX4_heading 116 = .ok (.iconst 0, 1) := by decide +kernel
theorem dX4_heading_117 : decode cX4_heading 117 = .ok (.ireturn, 1) := by decide +kernel
set_option maxRecDepth 20000 in
theorem ggX4_carry_X4_weigh : GoodIn wsX4_carry wsX4_weigh := goodIn_r _ [10, 2, 11, 12, 13, 5, 14, 15, 16, 17, 18, 19, 20, 21, 22, 23, 24, 25, 26, 27, 28, 29, 30, 31, 32, 33, 34, 35, 36] (by decide +kernel) (by decide +kernel)
set_option maxRecDepth 20000 in
theorem gX4_carry_X4_weigh : GoodIn wsX4_carry (wsV RX4 100 RX4 yX4_weigh wsX4_weigh) := goodIn_app (goodIn_of _ (by decide +kernel)) ggX4_carry_X4_weigh
theorem dX4_carry_0 : decode cX4_carry 0 = .ok (.iload_n 2, 1) := by decide +kernel
theorem dX4_carry_1 : decode cX4_carry 1 = .ok (.iconst 1, 1) := by decide +kernel
theorem dX4_carry_2 : decode cX4_carry 2 = .ok (.if_icmp .ne 7, 3) := by decide +kernel
theorem dX4_carry_5 : decode cX4_carry 5 = .ok (.iconst 1, 1) := by decide +kernel
theorem dX4_carry_6 : decode cX4_carry 6 = .ok (.goto 4, 3) := by decide +kernel
theorem dX4_carry_9 : decode cX4_carry 9 = .ok (.iconst (-1), 1) := by decide +kernel
theorem dX4_carry_10 : decode cX4_carry 10 = .ok (.istore_n 3, 1) := by decide +kernel
theorem dX4_carry_11 : decode cX4_carry 11 = .ok (.aload_n 0, 1) := by decide +kernel
theorem dX4_carry_12 : decode cX4_carry 12 = .ok (.getfield 33, 3) := by decide +kernel
theorem dX4_carry_15 : decode cX4_carry 15 = .ok (.iload_n 1, 1) := by decide +kernel
theorem dX4_carry_16 : decode cX4_carry 16 = .ok (.dup2, 1) := by decide +kernel
theorem dX4_carry_17 : decode cX4_carry 17 = .ok (.laload, 1) := by decide +kernel
theorem dX4_carry_18 : decode cX4_carry 18 = .ok (.iload_n 3, 1) := by decide +kernel
theorem dX4_carry_19 : decode cX4_carry 19 = .ok (.i2l, 1) := by decide +kernel
theorem dX4_carry_20 : decode cX4_carry 20 = .ok (.lsub, 1) := by decide +kernel
theorem dX4_carry_21 : decode cX4_carry 21 = .ok (.lastore, 1) := by decide +kernel
theorem dX4_carry_22 : decode cX4_carry 22 = .ok (.aload_n 0, 1) := by decide +kernel
theorem dX4_carry_23 : decode cX4_carry 23 = .ok (.dup, 1) := by decide +kernel
theorem dX4_carry_24 : decode cX4_carry 24 = .ok (.getfield 50, 3) := by decide +kernel
theorem dX4_carry_27 : decode cX4_carry 27 = .ok (.iload_n 3, 1) := by decide +kernel
theorem dX4_carry_28 : decode cX4_carry 28 = .ok (.i2l, 1) := by decide +kernel
theorem dX4_carry_29 : decode cX4_carry 29 = .ok (.ladd, 1) := by decide +kernel
theorem dX4_carry_30 : decode cX4_carry 30 = .ok (.putfield 50, 3) := by decide +kernel
theorem dX4_carry_33 : decode cX4_carry 33 = .ok (.aload_n 0, 1) := by decide +kernel
theorem dX4_carry_34 : decode cX4_carry 34 = .ok (.getfield 37, 3) := by decide +kernel
theorem dX4_carry_37 : decode cX4_carry 37 = .ok (.iload_n 1, 1) := by decide +kernel
theorem dX4_carry_38 : decode cX4_carry 38 = .ok (.dup2, 1) := by decide +kernel
theorem dX4_carry_39 : decode cX4_carry 39 = .ok (.laload, 1) := by decide +kernel
theorem dX4_carry_40 : decode cX4_carry 40 = .ok (.iload_n 3, 1) := by decide +kernel
theorem dX4_carry_41 : decode cX4_carry 41 = .ok (.aload_n 0, 1) := by decide +kernel
theorem dX4_carry_42 : decode cX4_carry 42 = .ok (.getfield 9, 3) := by decide +kernel
theorem dX4_carry_45 : decode cX4_carry 45 = .ok (.iload_n 1, 1) := by decide +kernel
theorem dX4_carry_46 : decode cX4_carry 46 = .ok (.iaload, 1) := by decide +kernel
theorem dX4_carry_47 : decode cX4_carry 47 = .ok (.imul, 1) := by decide +kernel
theorem dX4_carry_48 : decode cX4_carry 48 = .ok (.i2l, 1) := by decide +kernel
theorem dX4_carry_49 : decode cX4_carry 49 = .ok (.ladd, 1) := by decide +kernel
theorem dX4_carry_50 : decode cX4_carry 50 = .ok (.lastore, 1) := by decide +kernel
theorem dX4_carry_51 : decode cX4_carry 51 = .ok (.aload_n 0, 1) := by decide +kernel
theorem dX4_carry_52 : decode cX4_carry 52 = .ok (.dup, 1) := by decide +kernel
theorem dX4_carry_53 : decode cX4_carry 53 = .ok (.getfield 54, 3) := by decide +kernel
theorem dX4_carry_56 : decode cX4_carry 56 = .ok (.iload_n 3, 1) := by decide +kernel
theorem dX4_carry_57 : decode cX4_carry 57 = .ok (.aload_n 0, 1) := by decide +kernel
theorem dX4_carry_58 : decode cX4_carry 58 = .ok (.getfield 9, 3) := by decide +kernel
theorem dX4_carry_61 : decode cX4_carry 61 = .ok (.iload_n 1, 1) := by decide +kernel
theorem dX4_carry_62 : decode cX4_carry 62 = .ok (.iaload, 1) := by decide +kernel
theorem dX4_carry_63 : decode cX4_carry 63 = .ok (.imul, 1) := by decide +kernel
theorem dX4_carry_64 : decode cX4_carry 64 = .ok (.i2l, 1) := by decide +kernel
theorem dX4_carry_65 : decode cX4_carry 65 = .ok (.lsub, 1) := by decide +kernel
theorem dX4_carry_66 : decode cX4_carry 66 = .ok (.putfield 54, 3) := by decide +kernel
theorem dX4_carry_69 : decode cX4_carry 69 = .ok (.aload_n 0, 1) := by decide +kernel
theorem dX4_carry_70 : decode cX4_carry 70 = .ok (.invokevirtual 100, 3) := by decide +kernel
theorem dX4_carry_73 : decode cX4_carry 73 = .ok (.return_, 1) := by decide +kernel
set_option maxRecDepth 20000 in
theorem ggX4_holders_X4_mints : GoodIn wsX4_holders wsX4_mints := goodIn_r _ [8, 9, 21, 22, 23, 24, 25, 26, 27, 28, 29, 30, 31, 32, 33, 34, 35, 36, 37] (by decide +kernel) (by decide +kernel)
set_option maxRecDepth 20000 in
theorem gX4_holders_X4_mints : GoodIn wsX4_holders (wsV RX4 87 RX4 yX4_mints wsX4_mints) := goodIn_app (goodIn_of _ (by decide +kernel)) ggX4_holders_X4_mints
set_option maxRecDepth 20000 in
theorem ggX4_holders_X4_hasGold : GoodIn wsX4_holders wsX4_hasGold := goodIn_r _ [13, 14, 21, 22, 23, 24, 25, 26, 27, 28, 29, 30, 31, 32, 33, 34, 35, 36, 37] (by decide +kernel) (by decide +kernel)
set_option maxRecDepth 20000 in
theorem gX4_holders_X4_hasGold : GoodIn wsX4_holders (wsV RX4 94 RX4 yX4_hasGold wsX4_hasGold) := goodIn_app (goodIn_of _ (by decide +kernel)) ggX4_holders_X4_hasGold
set_option maxRecDepth 20000 in
theorem ggX4_holders_X4_hasSilver : GoodIn wsX4_holders wsX4_hasSilver := goodIn_r _ [18, 19, 20, 21, 22, 23, 24, 25, 26, 27, 28, 29, 30, 31, 32, 33, 34, 35, 36, 37] (by decide +kernel) (by decide +kernel)
set_option maxRecDepth 20000 in
theorem gX4_holders_X4_hasSilver : GoodIn wsX4_holders (wsV RX4 97 RX4 yX4_hasSilver wsX4_hasSilver) := goodIn_app (goodIn_of _ (by decide +kernel)) ggX4_holders_X4_hasSilver
theorem dX4_holders_0 : decode cX4_holders 0 = .ok (.iconst 0, 1) := by decide +kernel
theorem dX4_holders_1 : decode cX4_holders 1 = .ok (.istore_n 1, 1) := by decide +kernel
theorem dX4_holders_2 : decode cX4_holders 2 = .ok (.iconst 0, 1) := by decide +kernel
theorem dX4_holders_3 : decode cX4_holders 3 = .ok (.istore_n 2, 1) := by decide +kernel
theorem dX4_holders_4 : decode cX4_holders 4 = .ok (.iload_n 2, 1) := by decide +kernel
theorem dX4_holders_5 : decode cX4_holders 5 = .ok (.bipush 8, 2) := by decide +kernel
theorem dX4_holders_7 : decode cX4_holders 7 = .ok (.if_icmp .ge 75, 3) := by decide +kernel
theorem dX4_holders_10 : decode cX4_holders 10 = .ok (.aload_n 0, 1) := by decide +kernel
theorem dX4_holders_11 : decode cX4_holders 11 = .ok (.getfield 61, 3) := by decide +kernel
theorem dX4_holders_14 : decode cX4_holders 14 = .ok (.aload_n 0, 1) := by decide +kernel
theorem dX4_holders_15 : decode cX4_holders 15 = .ok (.getfield 27, 3) := by decide +kernel
theorem dX4_holders_18 : decode cX4_holders 18 = .ok (.iload_n 2, 1) := by decide +kernel
theorem dX4_holders_19 : decode cX4_holders 19 = .ok (.iaload, 1) := by decide +kernel
theorem dX4_holders_20 : decode cX4_holders 20 = .ok (.if_icmp .lt 20, 3) := by decide +kernel
theorem dX4_holders_23 : decode cX4_holders 23 = .ok (.aload_n 0, 1) := by decide +kernel
theorem dX4_holders_24 : decode cX4_holders 24 = .ok (.getfield 61, 3) := by decide +kernel
theorem dX4_holders_27 : decode cX4_holders 27 = .ok (.aload_n 0, 1) := by decide +kernel
theorem dX4_holders_28 : decode cX4_holders 28 = .ok (.getfield 30, 3) := by decide +kernel
theorem dX4_holders_31 : decode cX4_holders 31 = .ok (.iload_n 2, 1) := by decide +kernel
theorem dX4_holders_32 : decode cX4_holders 32 = .ok (.iaload, 1) := by decide +kernel
theorem dX4_holders_33 : decode cX4_holders 33 = .ok (.if_icmp .gt 7, 3) := by decide +kernel
theorem dX4_holders_36 : decode cX4_holders 36 = .ok (.iconst 1, 1) := by decide +kernel
theorem dX4_holders_37 : decode cX4_holders 37 = .ok (.goto 4, 3) := by decide +kernel
theorem dX4_holders_40 : decode cX4_holders 40 = .ok (.iconst 0, 1) := by decide +kernel
theorem dX4_holders_41 : decode cX4_holders 41 = .ok (.istore_n 3, 1) := by decide +kernel
theorem dX4_holders_42 : decode cX4_holders 42 = .ok (.aload_n 0, 1) := by decide +kernel
theorem dX4_holders_43 : decode cX4_holders 43 = .ok (.iload_n 2, 1) := by decide +kernel
theorem dX4_holders_44 : decode cX4_holders 44 = .ok (.invokevirtual 87, 3) := by decide +kernel
theorem dX4_holders_47 : decode cX4_holders 47 = .ok (.ifCond .eq 29, 3) := by decide +kernel
theorem dX4_holders_50 : decode cX4_holders 50 = .ok (.iload_n 3, 1) := by decide +kernel
theorem dX4_holders_51 : decode cX4_holders 51 = .ok (.ifCond .eq 25, 3) := by decide +kernel
theorem dX4_holders_54 : decode cX4_holders 54 = .ok (.aload_n 0, 1) := by decide +kernel
theorem dX4_holders_55 : decode cX4_holders 55 = .ok (.iload_n 2, 1) := by decide +kernel
theorem dX4_holders_56 : decode cX4_holders 56 = .ok (.invokevirtual 94, 3) := by decide +kernel
theorem dX4_holders_59 : decode cX4_holders 59 = .ok (.ifCond .eq 17, 3) := by decide +kernel
theorem dX4_holders_62 : decode cX4_holders 62 = .ok (.aload_n 0, 1) := by decide +kernel
theorem dX4_holders_63 : decode cX4_holders 63 = .ok (.iload_n 2, 1) := by decide +kernel
theorem dX4_holders_64 : decode cX4_holders 64 = .ok (.invokevirtual 97, 3) := by decide +kernel
theorem dX4_holders_67 : decode cX4_holders 67 = .ok (.ifCond .eq 9, 3) := by decide +kernel
theorem dX4_holders_70 : decode cX4_holders 70 = .ok (.iload_n 1, 1) := by decide +kernel
theorem dX4_holders_71 : decode cX4_holders 71 = .ok (.iconst 1, 1) := by decide +kernel
theorem dX4_holders_72 : decode cX4_holders 72 = .ok (.iload_n 2, 1) := by decide +kernel
theorem dX4_holders_73 : decode cX4_holders 73 = .ok (.ishl, 1) := by decide +kernel
theorem dX4_holders_74 : decode cX4_holders 74 = .ok (.ior, 1) := by decide +kernel
theorem dX4_holders_75 : decode cX4_holders 75 = .ok (.istore_n 1, 1) := by decide +kernel
theorem dX4_holders_76 : decode cX4_holders 76 = .ok (.iinc 2 1, 3) := by decide +kernel
theorem dX4_holders_79 : decode cX4_holders 79 = .ok (.goto (-75), 3) := by decide +kernel
theorem dX4_holders_82 : decode cX4_holders 82 = .ok (.iload_n 1, 1) := by decide +kernel
theorem dX4_holders_83 : decode cX4_holders 83 = .ok (.ireturn, 1) := by decide +kernel
set_option maxRecDepth 20000 in
theorem ggX4_stopThoseThatRanLow_X4_mints : GoodIn wsX4_stopThoseThatRanLow wsX4_mints := goodIn_r _ [8, 3, 9, 10, 11, 12, 13, 14, 15, 16, 17, 18, 19, 20, 21, 22, 23, 24, 25] (by decide +kernel) (by decide +kernel)
set_option maxRecDepth 20000 in
theorem gX4_stopThoseThatRanLow_X4_mints : GoodIn wsX4_stopThoseThatRanLow (wsV RX4 87 RX4 yX4_mints wsX4_mints) := goodIn_app (goodIn_of _ (by decide +kernel)) ggX4_stopThoseThatRanLow_X4_mints
theorem dX4_stopThoseThatRanLow_0 : decode cX4_stopThoseThatRanLow 0 = .ok (.iconst 0, 1) := by decide +kernel
theorem dX4_stopThoseThatRanLow_1 : decode cX4_stopThoseThatRanLow 1 = .ok (.istore_n 1, 1) := by decide +kernel
theorem dX4_stopThoseThatRanLow_2 : decode cX4_stopThoseThatRanLow 2 = .ok (.iload_n 1, 1) := by decide +kernel
theorem dX4_stopThoseThatRanLow_3 : decode cX4_stopThoseThatRanLow 3 = .ok (.bipush 8, 2) := by decide +kernel
theorem dX4_stopThoseThatRanLow_5 : decode cX4_stopThoseThatRanLow 5 = .ok (.if_icmp .ge 48, 3) := by decide +kernel
theorem dX4_stopThoseThatRanLow_8 : decode cX4_stopThoseThatRanLow 8 = .ok (.aload_n 0, 1) := by decide +kernel
theorem dX4_stopThoseThatRanLow_9 : decode cX4_stopThoseThatRanLow 9 = .ok (.iload_n 1, 1) := by decide +kernel
theorem dX4_stopThoseThatRanLow_10 : decode cX4_stopThoseThatRanLow 10 = .ok (.invokevirtual 87, 3) := by decide +kernel
theorem dX4_stopThoseThatRanLow_13 : decode cX4_stopThoseThatRanLow 13 = .ok (.ifCond .eq 34, 3) := by decide +kernel
theorem dX4_stopThoseThatRanLow_16 : decode cX4_stopThoseThatRanLow 16 = .ok (.aload_n 0, 1) := by decide +kernel
theorem dX4_stopThoseThatRanLow_17 : decode cX4_stopThoseThatRanLow 17 = .ok (.getfield 33, 3) := by decide +kernel
theorem dX4_stopThoseThatRanLow_20 : decode cX4_stopThoseThatRanLow 20 = .ok (.iload_n 1, 1) := by decide +kernel
theorem dX4_stopThoseThatRanLow_21 : decode cX4_stopThoseThatRanLow 21 = .ok (.laload, 1) := by decide +kernel
theorem dX4_stopThoseThatRanLow_22 : decode cX4_stopThoseThatRanLow 22 = .ok (.aload_n 0, 1) := by decide +kernel
theorem dX4_stopThoseThatRanLow_23 : decode cX4_stopThoseThatRanLow 23 = .ok (.getfield 24, 3) := by decide +kernel
theorem dX4_stopThoseThatRanLow_26 : decode cX4_stopThoseThatRanLow 26 = .ok (.iload_n 1, 1) := by decide +kernel
theorem dX4_stopThoseThatRanLow_27 : decode cX4_stopThoseThatRanLow 27 = .ok (.iaload, 1) := by decide +kernel
theorem dX4_stopThoseThatRanLow_28 : decode cX4_stopThoseThatRanLow 28 = .ok (.i2l, 1) := by decide +kernel
theorem dX4_stopThoseThatRanLow_29 : decode cX4_stopThoseThatRanLow 29 = .ok (.lcmp, 1) := by decide +kernel
theorem dX4_stopThoseThatRanLow_30 : decode cX4_stopThoseThatRanLow 30 = .ok (.ifCond .gt 17, 3) := by decide +kernel
theorem dX4_stopThoseThatRanLow_33 : decode cX4_stopThoseThatRanLow 33 = .ok (.aload_n 0, 1) := by decide +kernel
theorem dX4_stopThoseThatRanLow_34 : decode cX4_stopThoseThatRanLow 34 = .ok (.dup, 1) := by decide +kernel
theorem dX4_stopThoseThatRanLow_35 : decode cX4_stopThoseThatRanLow 35 = .ok (.getfield 44, 3) := by decide +kernel
theorem dX4_stopThoseThatRanLow_38 : decode cX4_stopThoseThatRanLow 38 = .ok (.iconst 1, 1) := by decide +kernel
theorem dX4_stopThoseThatRanLow_39 : decode cX4_stopThoseThatRanLow 39 = .ok (.iload_n 1, 1) := by decide +kernel
theorem dX4_stopThoseThatRanLow_40 : decode cX4_stopThoseThatRanLow 40 = .ok (.ishl, 1) := by decide +kernel
theorem dX4_stopThoseThatRanLow_41 : decode cX4_stopThoseThatRanLow 41 = .ok (.iconst (-1), 1) := by decide +kernel
theorem dX4_stopThoseThatRanLow_42 : decode cX4_stopThoseThatRanLow 42 = .ok (.ixor, 1) := by decide +kernel
theorem dX4_stopThoseThatRanLow_43 : decode cX4_stopThoseThatRanLow 43 = .ok (.iand, 1) := by decide +kernel
theorem dX4_stopThoseThatRanLow_44 : decode cX4_stopThoseThatRanLow 44 = .ok (.putfield 44, 3) := by decide +kernel
theorem dX4_stopThoseThatRanLow_47 : decode cX4_stopThoseThatRanLow 47 = .ok (.iinc 1 1, 3) := by decide +kernel
theorem dX4_stopThoseThatRanLow_50 : decode cX4_stopThoseThatRanLow 50 = .ok (.goto (-48), 3) := by decide +kernel
theorem dX4_stopThoseThatRanLow_53 : decode cX4_stopThoseThatRanLow 53 = .ok (.return_, 1) := by decide +kernel
set_option maxRecDepth 20000 in
theorem ggX4_goldInAll_X4_has : GoodIn wsX4_goldInAll wsX4_has := goodIn_r _ [7, 8, 9, 10, 11, 12, 13, 14, 15, 16, 17, 18, 19, 20, 21, 22, 23, 24, 25] (by decide +kernel) (by decide +kernel)
set_option maxRecDepth 20000 in
theorem gX4_goldInAll_X4_has : GoodIn wsX4_goldInAll (wsV RX4 103 RX4 yX4_has wsX4_has) := goodIn_app (goodIn_of _ (by decide +kernel)) ggX4_goldInAll_X4_has
theorem dX4_goldInAll_0 : decode cX4_goldInAll 0 = .ok (.aload_n 0, 1) := by decide +kernel
theorem dX4_goldInAll_1 : decode cX4_goldInAll 1 = .ok (.getfield 50, 3) := by decide +kernel
theorem dX4_goldInAll_4 : decode cX4_goldInAll 4 = .ok (.lstore_n 1, 1) := by decide +kernel
theorem dX4_goldInAll_5 : decode cX4_goldInAll 5 = .ok (.iconst 0, 1) := by decide +kernel
theorem dX4_goldInAll_6 : decode cX4_goldInAll 6 = .ok (.istore_n 3, 1) := by decide +kernel
theorem dX4_goldInAll_7 : decode cX4_goldInAll 7 = .ok (.iload_n 3, 1) := by decide +kernel
theorem dX4_goldInAll_8 : decode cX4_goldInAll 8 = .ok (.bipush 8, 2) := by decide +kernel
theorem dX4_goldInAll_10 : decode cX4_goldInAll 10 = .ok (.if_icmp .ge 30, 3) := by decide +kernel
theorem dX4_goldInAll_13 : decode cX4_goldInAll 13 = .ok (.lload_n 1, 1) := by decide +kernel
theorem dX4_goldInAll_14 : decode cX4_goldInAll 14 = .ok (.aload_n 0, 1) := by decide +kernel
theorem dX4_goldInAll_15 : decode cX4_goldInAll 15 = .ok (.iload_n 3, 1) := by decide +kernel
theorem dX4_goldInAll_16 : decode cX4_goldInAll 16 = .ok (.invokevirtual 103, 3) := by decide +kernel
theorem dX4_goldInAll_19 : decode cX4_goldInAll 19 = .ok (.ifCond .eq 12, 3) := by decide +kernel
theorem dX4_goldInAll_22 : decode cX4_goldInAll 22 = .ok (.aload_n 0, 1) := by decide +kernel
theorem dX4_goldInAll_23 : decode cX4_goldInAll 23 = .ok (.getfield 33, 3) := by decide +kernel
theorem dX4_goldInAll_26 : decode cX4_goldInAll 26 = .ok (.iload_n 3, 1) := by decide +kernel
theorem dX4_goldInAll_27 : decode cX4_goldInAll 27 = .ok (.laload, 1) := by decide +kernel
theorem dX4_goldInAll_28 : decode cX4_goldInAll 28 = .ok (.goto 4, 3) := by decide +kernel
theorem dX4_goldInAll_31 : decode cX4_goldInAll 31 = .ok (.lconst 0, 1) := by decide +kernel
theorem dX4_goldInAll_32 : decode cX4_goldInAll 32 = .ok (.ladd, 1) := by decide +kernel
theorem dX4_goldInAll_33 : decode cX4_goldInAll 33 = .ok (.lstore_n 1, 1) := by decide +kernel
theorem dX4_goldInAll_34 : decode cX4_goldInAll 34 = .ok (.iinc 3 1, 3) := by decide +kernel
theorem dX4_goldInAll_37 : decode cX4_goldInAll 37 = .ok (.goto (-30), 3) := by decide +kernel
theorem dX4_goldInAll_40 : decode cX4_goldInAll 40 = .ok (.lload_n 1, 1) := by decide +kernel
theorem dX4_goldInAll_41 : decode cX4_goldInAll 41 = .ok (.lreturn, 1) := by decide +kernel
set_option maxRecDepth 20000 in
theorem ggX5_init_X3_init : GoodIn wsX5_init wsX3_init := goodIn_r _ [28, 29, 2, 3, 30, 31, 32, 76, 77] (by decide +kernel) (by decide +kernel)
set_option maxRecDepth 20000 in
theorem gX5_init_X3_init_n9 : GoodIn wsX5_init (wsX3_init) := ggX5_init_X3_init
set_option maxRecDepth 20000 in
theorem ggX5_init_X2_init : GoodIn wsX5_init wsX2_init := goodIn_r _ [34, 35, 2, 3, 36, 21, 22, 37, 38, 17, 18, 39, 40, 41, 42, 43, 44, 45, 46, 47, 48, 49, 50, 51, 52, 53, 54, 55, 56, 57, 58, 59, 60, 61, 62, 63, 64, 65, 66, 67, 68, 69, 70, 95, 96, 97, 98, 99, 100, 101, 102, 103, 104, 105, 106, 107, 108, 109, 110, 111, 86, 87, 88, 89, 92, 93, 94] (by decide +kernel) (by decide +kernel)
set_option maxRecDepth 20000 in
theorem gX5_init_X2_init_n18 : GoodIn wsX5_init (wsX2_init) := ggX5_init_X2_init
set_option maxRecDepth 20000 in
theorem ggX5_init_X1_init : GoodIn wsX5_init wsX1_init := goodIn_r _ [72, 73, 2, 3, 40, 74, 53, 75, 90, 91] (by decide +kernel) (by decide +kernel)
set_option maxRecDepth 20000 in
theorem gX5_init_X1_init_n25 : GoodIn wsX5_init (wsX1_init) := ggX5_init_X1_init
set_option maxRecDepth 20000 in
theorem ggX5_init_X0_init : GoodIn wsX5_init wsX0_init := goodIn_r _ [66, 67, 2, 3, 40, 68, 69, 70, 92, 93, 94] (by decide +kernel) (by decide +kernel)
set_option maxRecDepth 20000 in
theorem gX5_init_X0_init_n32 : GoodIn wsX5_init (wsX0_init) := ggX5_init_X0_init
set_option maxRecDepth 20000 in
theorem ggX5_init_X4_init : GoodIn wsX5_init wsX4_init := goodIn_r _ [44, 45, 2, 3, 40, 46, 47, 48, 49, 50, 51, 52, 53, 54, 55, 56, 57, 58, 59, 60, 61, 62, 63, 64, 95, 96, 97, 98, 99, 100, 101, 102, 103, 104, 105, 106, 107, 108, 109, 110, 111] (by decide +kernel) (by decide +kernel)
set_option maxRecDepth 20000 in
theorem gX5_init_X4_init_n39 : GoodIn wsX5_init (wsX4_init) := ggX5_init_X4_init
theorem dX5_init_0 : decode cX5_init 0 = .ok (.aload_n 0, 1) := by decide +kernel
theorem dX5_init_1 : decode cX5_init 1 = .ok (.invokespecial 1, 3) := by decide +kernel
theorem dX5_init_4 : decode cX5_init 4 = .ok (.aload_n 0, 1) := by decide +kernel
theorem dX5_init_5 : decode cX5_init 5 = .ok (.new 7, 3) := by decide +kernel
theorem dX5_init_8 : decode cX5_init 8 = .ok (.dup, 1) := by decide +kernel
theorem dX5_init_9 : decode cX5_init 9 = .ok (.invokespecial 9, 3) := by decide +kernel
theorem dX5_init_12 : decode cX5_init 12 = .ok (.putfield 10, 3) := by decide +kernel
theorem dX5_init_15 : decode cX5_init 15 = .ok (.aload_n 0, 1) := by decide +kernel
theorem dX5_init_16 : decode cX5_init 16 = .ok (.new 16, 3) := by decide +kernel
theorem dX5_init_19 : decode cX5_init 19 = .ok (.dup, 1) := by decide +kernel
theorem dX5_init_20 : decode cX5_init 20 = .ok (.invokespecial 18, 3) := by decide +kernel
theorem dX5_init_23 : decode cX5_init 23 = .ok (.putfield 19, 3) := by decide +kernel
theorem dX5_init_26 : decode cX5_init 26 = .ok (.aload_n 0, 1) := by decide +kernel
theorem dX5_init_27 : decode cX5_init 27 = .ok (.new 23, 3) := by decide +kernel
theorem dX5_init_30 : decode cX5_init 30 = .ok (.dup, 1) := by decide +kernel
theorem dX5_init_31 : decode cX5_init 31 = .ok (.invokespecial 25, 3) := by decide +kernel
theorem dX5_init_34 : decode cX5_init 34 = .ok (.putfield 26, 3) := by decide +kernel
theorem dX5_init_37 : decode cX5_init 37 = .ok (.aload_n 0, 1) := by decide +kernel
theorem dX5_init_38 : decode cX5_init 38 = .ok (.new 30, 3) := by decide +kernel
theorem dX5_init_41 : decode cX5_init 41 = .ok (.dup, 1) := by decide +kernel
theorem dX5_init_42 : decode cX5_init 42 = .ok (.invokespecial 32, 3) := by decide +kernel
theorem dX5_init_45 : decode cX5_init 45 = .ok (.putfield 33, 3) := by decide +kernel
theorem dX5_init_48 : decode cX5_init 48 = .ok (.aload_n 0, 1) := by decide +kernel
theorem dX5_init_49 : decode cX5_init 49 = .ok (.new 37, 3) := by decide +kernel
theorem dX5_init_52 : decode cX5_init 52 = .ok (.dup, 1) := by decide +kernel
theorem dX5_init_53 : decode cX5_init 53 = .ok (.invokespecial 39, 3) := by decide +kernel
theorem dX5_init_56 : decode cX5_init 56 = .ok (.putfield 40, 3) := by decide +kernel
theorem dX5_init_59 : decode cX5_init 59 = .ok (.aload_n 0, 1) := by decide +kernel
theorem dX5_init_60 : decode cX5_init 60 = .ok (.new 37, 3) := by decide +kernel
theorem dX5_init_63 : decode cX5_init 63 = .ok (.dup, 1) := by decide +kernel
theorem dX5_init_64 : decode cX5_init 64 = .ok (.invokespecial 39, 3) := by decide +kernel
theorem dX5_init_67 : decode cX5_init 67 = .ok (.putfield 44, 3) := by decide +kernel
theorem dX5_init_70 : decode cX5_init 70 = .ok (.aload_n 0, 1) := by decide +kernel
theorem dX5_init_71 : decode cX5_init 71 = .ok (.iconst 2, 1) := by decide +kernel
theorem dX5_init_72 : decode cX5_init 72 = .ok (.anewarray 37, 3) := by decide +kernel
theorem dX5_init_75 : decode cX5_init 75 = .ok (.putfield 47, 3) := by decide +kernel
theorem dX5_init_78 : decode cX5_init 78 = .ok (.aload_n 0, 1) := by decide +kernel
theorem dX5_init_79 : decode cX5_init 79 = .ok (.iconst 0, 1) := by decide +kernel
theorem dX5_init_80 : decode cX5_init 80 = .ok (.putfield 51, 3) := by decide +kernel
theorem dX5_init_83 : decode cX5_init 83 = .ok (.iconst 0, 1) := by decide +kernel
theorem dX5_init_84 : decode cX5_init 84 = .ok (.istore_n 1, 1) := by decide +kernel
theorem dX5_init_85 : decode cX5_init 85 = .ok (.iload_n 1, 1) := by decide +kernel
theorem dX5_init_86 : decode cX5_init 86 = .ok (.iconst 2, 1) := by decide +kernel
theorem dX5_init_87 : decode cX5_init 87 = .ok (.if_icmp .ge 22, 3) := by decide +kernel
theorem dX5_init_90 : decode cX5_init 90 = .ok (.aload_n 0, 1) := by decide +kernel
theorem dX5_init_91 : decode cX5_init 91 = .ok (.getfield 47, 3) := by decide +kernel
theorem dX5_init_94 : decode cX5_init 94 = .ok (.iload_n 1, 1) := by decide +kernel
theorem dX5_init_95 : decode cX5_init 95 = .ok (.new 37, 3) := by decide +kernel
theorem dX5_init_98 : decode cX5_init 98 = .ok (.dup, 1) := by decide +kernel
theorem dX5_init_99 : decode cX5_init 99 = .ok (.invokespecial 39, 3) := by decide +kernel
theorem dX5_init_102 : decode cX5_init 102 = .ok (.aastore, 1) := by decide +kernel
theorem dX5_init_103 : decode cX5_init 103 = .ok (.iinc 1 1, 3) := by decide +kernel
theorem dX5_init_106 : decode cX5_init 106 = .ok (.goto (-21), 3) := by decide +kernel
theorem dX5_init_109 : decode cX5_init 109 = .ok (.return_, 1) := by decide +kernel
set_option maxRecDepth 20000 in
theorem ggX5_write_X3_hasRoomFor : GoodIn wsX5_write wsX3_hasRoomFor := goodIn_r _ [7, 8, 22, 23] (by decide +kernel) (by decide +kernel)
set_option maxRecDepth 20000 in
theorem gX5_write_X3_hasRoomFor : GoodIn wsX5_write (wsV RX5 55 RX3 yX3_hasRoomFor wsX3_hasRoomFor) := goodIn_app (goodIn_of _ (by decide +kernel)) ggX5_write_X3_hasRoomFor
set_option maxRecDepth 20000 in
theorem ggX5_write_X3_append : GoodIn wsX5_write wsX3_append := goodIn_r _ [12, 8, 13, 22, 23] (by decide +kernel) (by decide +kernel)
set_option maxRecDepth 20000 in
theorem gX5_write_X3_append : GoodIn wsX5_write (wsV RX5 59 RX3 yX3_append wsX3_append) := goodIn_app (goodIn_of _ (by decide +kernel)) ggX5_write_X3_append
theorem dX5_write_0 : decode cX5_write 0 = .ok (.iload_n 1, 1) := by decide +kernel
theorem dX5_write_1 : decode cX5_write 1 = .ok (.iconst 1, 1) := by decide +kernel
theorem dX5_write_2 : decode cX5_write 2 = .ok (.if_icmp .lt 9, 3) := by decide +kernel
theorem dX5_write_5 : decode cX5_write 5 = .ok (.iload_n 1, 1) := by decide +kernel
theorem dX5_write_6 : decode cX5_write 6 = .ok (.bipush 8, 2) := by decide +kernel
theorem dX5_write_8 : decode cX5_write 8 = .ok (.if_icmp .le 5, 3) := by decide +kernel
theorem dX5_write_11 : decode cX5_write 11 = .ok (.iconst (-1), 1) := by decide +kernel
theorem dX5_write_12 : decode cX5_write 12 = .ok (.ireturn, 1) := by decide +kernel
theorem dX5_write_13 : decode cX5_write 13 = .ok (.aload_n 0, 1) := by decide +kernel
theorem dX5_write_14 : decode cX5_write 14 = .ok (.getfield 10, 3) := by decide +kernel
theorem dX5_write_17 : decode cX5_write 17 = .ok (.iload_n 1, 1) := by decide +kernel
theorem dX5_write_18 : decode cX5_write 18 = .ok (.invokevirtual 55, 3) := by decide +kernel
theorem dX5_write_21 : decode cX5_write 21 = .ok (.ifCond .ne 6, 3) := by decide +kernel
theorem dX5_write_24 : decode cX5_write 24 = .ok (.bipush (-3), 2) := by decide +kernel
theorem dX5_write_26 : decode cX5_write 26 = .ok (.ireturn, 1) := by decide +kernel
theorem dX5_write_27 : decode cX5_write 27 = .ok (.aload_n 0, 1) := by decide +kernel
theorem dX5_write_28 : decode cX5_write 28 = .ok (.getfield 10, 3) := by decide +kernel
theorem dX5_write_31 : decode cX5_write 31 = .ok (.iload_n 1, 1) := by decide +kernel
theorem dX5_write_32 : decode cX5_write 32 = .ok (.lload_n 2, 1) := by decide +kernel
theorem dX5_write_33 : decode cX5_write 33 = .ok (.invokevirtual 59, 3) := by decide +kernel
theorem dX5_write_36 : decode cX5_write 36 = .ok (.aload_n 0, 1) := by decide +kernel
theorem dX5_write_37 : decode cX5_write 37 = .ok (.getfield 10, 3) := by decide +kernel
theorem dX5_write_40 : decode cX5_write 40 = .ok (.getfield 63, 3) := by decide +kernel
theorem dX5_write_43 : decode cX5_write 43 = .ok (.ireturn, 1) := by decide +kernel
theorem dX5_wipe_0 : decode cX5_wipe 0 = .ok (.aload_n 0, 1) := by decide +kernel
theorem dX5_wipe_1 : decode cX5_wipe 1 = .ok (.getfield 10, 3) := by decide +kernel
theorem dX5_wipe_4 : decode cX5_wipe 4 = .ok (.getfield 63, 3) := by decide +kernel
theorem dX5_wipe_7 : decode cX5_wipe 7 = .ok (.istore_n 1, 1) := by decide +kernel
theorem dX5_wipe_8 : decode cX5_wipe 8 = .ok (.aload_n 0, 1) := by decide +kernel
theorem dX5_wipe_9 : decode cX5_wipe 9 = .ok (.getfield 10, 3) := by decide +kernel
theorem dX5_wipe_12 : decode cX5_wipe 12 = .ok (.iconst 0, 1) := by decide +kernel
theorem dX5_wipe_13 : decode cX5_wipe 13 = .ok (.putfield 63, 3) := by decide +kernel
theorem dX5_wipe_16 : decode cX5_wipe 16 = .ok (.iload_n 1, 1) := by decide +kernel
theorem dX5_wipe_17 : decode cX5_wipe 17 = .ok (.ireturn, 1) := by decide +kernel
set_option maxRecDepth 20000 in
theorem ggX5_fault_X2_firstFault : GoodIn wsX5_fault wsX2_firstFault := goodIn_r _ [7, 8, 9, 10, 11, 12, 13, 14, 15, 16, 17, 18, 19, 20, 21, 22, 23, 24, 25, 26, 27, 28, 29, 30, 31, 32, 33, 34, 35, 36, 37, 38, 39, 40, 6, 41, 42, 43, 44, 45, 46, 47, 48, 49, 50, 51, 52, 53, 54, 55, 56, 57, 58, 59, 60, 61, 62, 63, 64, 65, 66, 67, 68, 69, 70, 71, 72, 73, 74, 75, 76, 77, 78, 79, 80, 81, 82, 83, 84, 85, 86, 87, 88, 89, 90, 91, 92, 93, 94, 95, 96, 97, 98, 99, 100, 101, 102, 103, 104, 105, 106, 107, 108, 109, 110, 111, 112, 113, 114, 115, 116, 117, 118, 119, 120, 121, 122, 123, 124, 125, 126, 127, 128, 129, 130, 131, 132, 133, 134, 135, 136, 137, 138, 139, 140, 141, 150, 151, 152, 153, 154, 155, 156, 157, 158, 159, 160, 161, 162, 163, 164, 165, 166, 167, 168, 169, 170, 171, 172, 173, 174, 175] (by decide +kernel) (by decide +kernel)
set_option maxRecDepth 20000 in
theorem gX5_fault_X2_firstFault : GoodIn wsX5_fault (wsV RX5 66 RX2 yX2_firstFault wsX2_firstFault) := goodIn_app (goodIn_of _ (by decide +kernel)) ggX5_fault_X2_firstFault
theorem dX5_fault_0 : decode cX5_fault 0 = .ok (.aload_n 0, 1) := by decide +kernel
theorem dX5_fault_1 : decode cX5_fault 1 = .ok (.getfield 19, 3) := by decide +kernel
theorem dX5_fault_4 : decode cX5_fault 4 = .ok (.aload_n 0, 1) := by decide +kernel
theorem dX5_fault_5 : decode cX5_fault 5 = .ok (.getfield 10, 3) := by decide +kernel
theorem dX5_fault_8 : decode cX5_fault 8 = .ok (.invokevirtual 66, 3) := by decide +kernel
theorem dX5_fault_11 : decode cX5_fault 11 = .ok (.ireturn, 1) := by decide +kernel
set_option maxRecDepth 20000 in
theorem ggX5_lay_X2_firstFault : GoodIn wsX5_lay wsX2_firstFault := goodIn_r _ [13, 14, 15, 16, 17, 18, 19, 20, 21, 22, 23, 24, 25, 26, 27, 28, 29, 30, 31, 32, 33, 34, 35, 36, 37, 38, 39, 40, 41, 42, 43, 44, 45, 46, 12, 47, 48, 49, 50, 51, 52, 53, 54, 55, 56, 57, 58, 59, 60, 61, 62, 63, 64, 65, 66, 67, 68, 69, 70, 71, 72, 73, 74, 75, 76, 77, 78, 79, 80, 81, 82, 83, 84, 85, 86, 87, 88, 89, 90, 91, 92, 93, 94, 95, 96, 97, 98, 99, 100, 101, 102, 103, 104, 105, 106, 107, 108, 109, 110, 111, 112, 113, 114, 115, 116, 117, 118, 119, 120, 121, 122, 123, 124, 125, 126, 127, 128, 129, 130, 131, 132, 133, 134, 135, 136, 137, 138, 139, 140, 141, 142, 143, 144, 145, 146, 147, 180, 181, 182, 183, 201, 202, 184, 185, 186, 187, 188, 189, 190, 191, 192, 193, 194, 195, 196, 197, 198, 199, 200, 203, 204, 205] (by decide +kernel) (by decide +kernel)
set_option maxRecDepth 20000 in
theorem gX5_lay_X2_firstFault : GoodIn wsX5_lay (wsV RX5 66 RX2 yX2_firstFault wsX2_firstFault) := goodIn_app (goodIn_of _ (by decide +kernel)) ggX5_lay_X2_firstFault
set_option maxRecDepth 20000 in
theorem ggX5_lay_X4_copyFrom : GoodIn wsX5_lay wsX4_copyFrom := goodIn_r _ [151, 98, 152, 153, 154, 155, 101, 99, 156, 157, 106, 107, 158, 159, 23, 24, 25, 26, 27, 28, 30, 31, 184, 185, 186, 187, 188, 189, 190, 191, 192, 193, 194, 195, 196, 197, 198, 199, 200] (by decide +kernel) (by decide +kernel)
set_option maxRecDepth 20000 in
theorem gX5_lay_X4_copyFrom : GoodIn wsX5_lay (wsV RX5 73 RX4 yX4_copyFrom wsX4_copyFrom) := goodIn_app (goodIn_of _ (by decide +kernel)) ggX5_lay_X4_copyFrom
set_option maxRecDepth 20000 in
theorem ggX5_lay_X0_copyFrom : GoodIn wsX5_lay wsX0_copyFrom := goodIn_r _ [163, 37, 164, 153, 154, 155, 38, 39, 203, 204, 205] (by decide +kernel) (by decide +kernel)
set_option maxRecDepth 20000 in
theorem gX5_lay_X0_copyFrom : GoodIn wsX5_lay (wsV RX5 78 RX0 yX0_copyFrom wsX0_copyFrom) := goodIn_app (goodIn_of _ (by decide +kernel)) ggX5_lay_X0_copyFrom
set_option maxRecDepth 20000 in
theorem ggX5_lay_J6_bitCount_0f7a4 : GoodIn wsX5_lay wsJ6_bitCount_0f7a4 := goodIn_r _ [168, 169, 170, 171] (by decide +kernel) (by decide +kernel)
set_option maxRecDepth 20000 in
theorem gX5_lay_J6_bitCount_0f7a4 : GoodIn wsX5_lay (va_wsS RX5 84 yJ6_bitCount_0f7a4 wsJ6_bitCount_0f7a4) := goodIn_app (goodIn_of _ (by decide +kernel)) ggX5_lay_J6_bitCount_0f7a4
theorem dX5_lay_0 : decode cX5_lay 0 = .ok (.aload_n 0, 1) := by decide +kernel
theorem dX5_lay_1 : decode cX5_lay 1 = .ok (.getfield 19, 3) := by decide +kernel
theorem dX5_lay_4 : decode cX5_lay 4 = .ok (.aload_n 0, 1) := by decide +kernel
theorem dX5_lay_5 : decode cX5_lay 5 = .ok (.getfield 10, 3) := by decide +kernel
theorem dX5_lay_8 : decode cX5_lay 8 = .ok (.invokevirtual 66, 3) := by decide +kernel
theorem dX5_lay_11 : decode cX5_lay 11 = .ok (.bipush (-4), 2) := by decide +kernel
theorem dX5_lay_13 : decode cX5_lay 13 = .ok (.if_icmp .eq 6, 3) := by decide +kernel
theorem dX5_lay_16 : decode cX5_lay 16 = .ok (.bipush (-2), 2) := by decide +kernel
theorem dX5_lay_18 : decode cX5_lay 18 = .ok (.ireturn, 1) := by decide +kernel
theorem dX5_lay_19 : decode cX5_lay 19 = .ok (.aload_n 0, 1) := by decide +kernel
theorem dX5_lay_20 : decode cX5_lay 20 = .ok (.getfield 40, 3) := by decide +kernel
theorem dX5_lay_23 : decode cX5_lay 23 = .ok (.aload_n 0, 1) := by decide +kernel
theorem dX5_lay_24 : decode cX5_lay 24 = .ok (.getfield 19, 3) := by decide +kernel
theorem dX5_lay_27 : decode cX5_lay 27 = .ok (.getfield 70, 3) := by decide +kernel
theorem dX5_lay_30 : decode cX5_lay 30 = .ok (.invokevirtual 73, 3) := by decide +kernel
theorem dX5_lay_33 : decode cX5_lay 33 = .ok (.aload_n 0, 1) := by decide +kernel
theorem dX5_lay_34 : decode cX5_lay 34 = .ok (.getfield 33, 3) := by decide +kernel
theorem dX5_lay_37 : decode cX5_lay 37 = .ok (.aload_n 0, 1) := by decide +kernel
theorem dX5_lay_38 : decode cX5_lay 38 = .ok (.getfield 19, 3) := by decide +kernel
theorem dX5_lay_41 : decode cX5_lay 41 = .ok (.getfield 77, 3) := by decide +kernel
theorem dX5_lay_44 : decode cX5_lay 44 = .ok (.invokevirtual 78, 3) := by decide +kernel
theorem dX5_lay_47 : decode cX5_lay 47 = .ok (.aload_n 0, 1) := by decide +kernel
theorem dX5_lay_48 : decode cX5_lay 48 = .ok (.iconst 0, 1) := by decide +kernel
theorem dX5_lay_49 : decode cX5_lay 49 = .ok (.putfield 51, 3) := by decide +kernel
theorem dX5_lay_52 : decode cX5_lay 52 = .ok (.aload_n 0, 1) := by decide +kernel
theorem dX5_lay_53 : decode cX5_lay 53 = .ok (.getfield 40, 3) := by decide +kernel
theorem dX5_lay_56 : decode cX5_lay 56 = .ok (.getfield 81, 3) := by decide +kernel
theorem dX5_lay_59 : decode cX5_lay 59 = .ok (.invokestatic 84, 3) := by decide +kernel
theorem dX5_lay_62 : decode cX5_lay 62 = .ok (.ireturn, 1) := by decide +kernel
set_option maxRecDepth 20000 in
theorem ggX5_realm_X4_has : GoodIn wsX5_realm wsX4_has := goodIn_r _ [13, 14, 33, 34, 35, 36, 37, 38, 39, 40, 41, 42, 43, 44, 45, 46, 47, 48, 49] (by decide +kernel) (by decide +kernel)
set_option maxRecDepth 20000 in
theorem gX5_realm_X4_has : GoodIn wsX5_realm (wsV RX5 90 RX4 yX4_has wsX4_has) := goodIn_app (goodIn_of _ (by decide +kernel)) ggX5_realm_X4_has
set_option maxRecDepth 20000 in
theorem ggX5_realm_X4_mints : GoodIn wsX5_realm wsX4_mints := goodIn_r _ [18, 19, 33, 34, 35, 36, 37, 38, 39, 40, 41, 42, 43, 44, 45, 46, 47, 48, 49] (by decide +kernel) (by decide +kernel)
set_option maxRecDepth 20000 in
theorem gX5_realm_X4_mints : GoodIn wsX5_realm (wsV RX5 115 RX4 yX4_mints wsX4_mints) := goodIn_app (goodIn_of _ (by decide +kernel)) ggX5_realm_X4_mints
set_option maxRecDepth 20000 in
theorem ggX5_realm_X4_limps : GoodIn wsX5_realm wsX4_limps := goodIn_r _ [23, 24, 33, 34, 35, 36, 37, 38, 39, 40, 41, 42, 43, 44, 45, 46, 47, 48, 49] (by decide +kernel) (by decide +kernel)
set_option maxRecDepth 20000 in
theorem gX5_realm_X4_limps : GoodIn wsX5_realm (wsV RX5 118 RX4 yX4_limps wsX4_limps) := goodIn_app (goodIn_of _ (by decide +kernel)) ggX5_realm_X4_limps
theorem dX5_realm_0 : decode cX5_realm 0 = .ok (.aload_n 0, 1) := by decide +kernel
theorem dX5_realm_1 : decode cX5_realm 1 = .ok (.getfield 40, 3) := by decide +kernel
theorem dX5_realm_4 : decode cX5_realm 4 = .ok (.iload_n 1, 1) := by decide +kernel
theorem dX5_realm_5 : decode cX5_realm 5 = .ok (.invokevirtual 90, 3) := by decide +kernel
theorem dX5_realm_8 : decode cX5_realm 8 = .ok (.ifCond .ne 7, 3) := by decide +kernel
theorem dX5_realm_11 : decode cX5_realm 11 = .ok (.ldc2_w 93, 3) := by decide +kernel
theorem dX5_realm_14 : decode cX5_realm 14 = .ok (.lreturn, 1) := by decide +kernel
theorem dX5_realm_15 : decode cX5_realm 15 = .ok (.iload_n 2, 1) := by decide +kernel
theorem dX5_realm_16 : decode cX5_realm 16 = .ok (.tableswitch 146 0 7 #[48, 59, 70, 81, 91, 101, 112, 129], 48) := by decide +kernel
theorem dX5_realm_64 : decode cX5_realm 64 = .ok (.aload_n 0, 1) := by decide +kernel
theorem dX5_realm_65 : decode cX5_realm 65 = .ok (.getfield 40, 3) := by decide +kernel
theorem dX5_realm_68 : decode cX5_realm 68 = .ok (.getfield 95, 3) := by decide +kernel
theorem dX5_realm_71 : decode cX5_realm 71 = .ok (.iload_n 1, 1) := by decide +kernel
theorem dX5_realm_72 : decode cX5_realm 72 = .ok (.iaload, 1) := by decide +kernel
theorem dX5_realm_73 : decode cX5_realm 73 = .ok (.i2l, 1) := by decide +kernel
theorem dX5_realm_74 : decode cX5_realm 74 = .ok (.lreturn, 1) := by decide +kernel
theorem dX5_realm_75 : decode cX5_realm 75 = .ok (.aload_n 0, 1) := by decide +kernel
theorem dX5_realm_76 : decode cX5_realm 76 = .ok (.getfield 40, 3) := by decide +kernel
theorem dX5_realm_79 : decode cX5_realm 79 = .ok (.getfield 99, 3) := by decide +kernel
theorem dX5_realm_82 : decode cX5_realm 82 = .ok (.iload_n 1, 1) := by decide +kernel
theorem dX5_realm_83 : decode cX5_realm 83 = .ok (.iaload, 1) := by decide +kernel
theorem dX5_realm_84 : decode cX5_realm 84 = .ok (.i2l, 1) := by decide +kernel
theorem dX5_realm_85 : decode cX5_realm 85 = .ok (.lreturn, 1) := by decide +kernel
theorem dX5_realm_86 : decode cX5_realm 86 = .ok (.aload_n 0, 1) := by decide +kernel
theorem dX5_realm_87 : decode cX5_realm 87 = .ok (.getfield 40, 3) := by decide +kernel
theorem dX5_realm_90 : decode cX5_realm 90 = .ok (.getfield 102, 3) := by decide +kernel
theorem dX5_realm_93 : decode cX5_realm 93 = .ok (.iload_n 1, 1) := by decide +kernel
theorem dX5_realm_94 : decode cX5_realm 94 = .ok (.iaload, 1) := by decide +kernel
theorem dX5_realm_95 : decode cX5_realm 95 = .ok (.i2l, 1) := by decide +kernel
theorem dX5_realm_96 : decode cX5_realm 96 = .ok (.lreturn, 1) := by decide +kernel
theorem dX5_realm_97 : decode cX5_realm 97 = .ok (.aload_n 0, 1) := by decide +kernel
theorem dX5_realm_98 : decode cX5_realm 98 = .ok (.getfield 40, 3) := by decide +kernel
theorem dX5_realm_101 : decode cX5_realm 101 = .ok (.getfield 105, 3) := by decide +kernel
theorem dX5_realm_104 : decode cX5_realm 104 = .ok (.iload_n 1, 1) := by decide +kernel
theorem dX5_realm_105 : decode cX5_realm 105 = .ok (.laload, 1) := by decide +kernel
theorem dX5_realm_106 : decode cX5_realm 106 = .ok (.lreturn, 1) := by decide +kernel
theorem dX5_realm_107 : decode cX5_realm 107 = .ok (.aload_n 0, 1) := by decide +kernel
theorem dX5_realm_108 : decode cX5_realm 108 = .ok (.getfield 40, 3) := by decide +kernel
theorem dX5_realm_111 : decode cX5_realm 111 = .ok (.getfield 109, 3) := by decide +kernel
theorem dX5_realm_114 : decode cX5_realm 114 = .ok (.iload_n 1, 1) := by decide +kernel
theorem dX5_realm_115 : decode cX5_realm 115 = .ok (.laload, 1) := by decide +kernel
theorem dX5_realm_116 : decode cX5_realm 116 = .ok (.lreturn, 1) := by decide +kernel
theorem dX5_realm_117 : decode cX5_realm 117 = .ok (.aload_n 0, 1) := by decide +kernel
theorem dX5_realm_118 : decode cX5_realm 118 = .ok (.getfield 40, 3) := by decide +kernel
theorem dX5_realm_121 : decode cX5_realm 121 = .ok (.getfield 112, 3) := by decide +kernel
theorem dX5_realm_124 : decode cX5_realm 124 = .ok (.iload_n 1, 1) := by decide +kernel
theorem dX5_realm_125 : decode cX5_realm 125 = .ok (.iaload, 1) := by decide +kernel
theorem dX5_realm_126 : decode cX5_realm 126 = .ok (.i2l, 1) := by decide +kernel
theorem dX5_realm_127 : decode cX5_realm 127 = .ok (.lreturn, 1) := by decide +kernel
theorem dX5_realm_128 : decode cX5_realm 128 = .ok (.aload_n 0, 1) := by decide +kernel
theorem dX5_realm_129 : decode cX5_realm 129 = .ok (.getfield 40, 3) := by decide +kernel
theorem dX5_realm_132 : decode cX5_realm 132 = .ok (.iload_n 1, 1) := by decide +kernel
theorem dX5_realm_133 : decode cX5_realm 133 = .ok (.invokevirtual 115, 3) := by decide +kernel
theorem dX5_realm_136 : decode cX5_realm 136 = .ok (.ifCond .eq 7, 3) := by decide +kernel
theorem dX5_realm_139 : decode cX5_realm 139 = .ok (.lconst 1, 1) := by decide +kernel
theorem dX5_realm_140 : decode cX5_realm 140 = .ok (.goto 4, 3) := by decide +kernel
theorem dX5_realm_143 : decode cX5_realm 143 = .ok (.lconst 0, 1) := by decide +kernel
theorem dX5_realm_144 : decode cX5_realm 144 = .ok (.lreturn, 1) := by decide +kernel
theorem dX5_realm_145 : decode cX5_realm 145 = .ok (.aload_n 0, 1) := by decide +kernel
theorem dX5_realm_146 : decode cX5_realm 146 = .ok (.getfield 40, 3) := by decide +kernel
theorem dX5_realm_149 : decode cX5_realm 149 = .ok (.iload_n 1, 1) := by decide +kernel
theorem dX5_realm_150 : decode cX5_realm 150 = .ok (.invokevirtual 118, 3) := by decide +kernel
theorem dX5_realm_153 : decode cX5_realm 153 = .ok (.ifCond .eq 7, 3) := by decide +kernel
theorem dX5_realm_156 : decode cX5_realm 156 = .ok (.lconst 1, 1) := by decide +kernel
theorem dX5_realm_157 : decode cX5_realm 157 = .ok (.goto 4, 3) := by decide +kernel
theorem dX5_realm_160 : decode cX5_realm 160 = .ok (.lconst 0, 1) := by decide +kernel
theorem dX5_realm_161 : decode cX5_realm 161 = .ok (.lreturn, 1) := by decide +kernel
theorem dX5_realm_162 : decode cX5_realm 162 = .ok (.ldc2_w 93, 3) := by decide +kernel
theorem dX5_realm_165 : decode cX5_realm 165 = .ok (.lreturn, 1) := by decide +kernel
theorem dX5_market_0 : decode cX5_market 0 = .ok (.iload_n 1, 1) := by decide +kernel
theorem dX5_market_1 : decode cX5_market 1 = .ok (.tableswitch 65 0 3 #[31, 39, 47, 56], 31) := by decide +kernel
theorem dX5_market_32 : decode cX5_market 32 = .ok (.aload_n 0, 1) := by decide +kernel
end
section
theorem dX5_market_33 : decode cX5_market 33 = .ok (.getfield 40, 3) := by decide +kernel
theorem dX5_market_36 : decode cX5_market 36 = .ok (.getfield 121, 3) := by decide +kernel
theorem dX5_market_39 : decode cX5_market 39 = .ok (.lreturn, 1) := by decide +kernel
theorem dX5_market_40 : decode cX5_market 40 = .ok (.aload_n 0, 1) := by decide +kernel
theorem dX5_market_41 : decode cX5_market 41 = .ok (.getfield 40, 3) := by decide +kernel
theorem dX5_market_44 : decode cX5_market 44 = .ok (.getfield 125, 3) := by decide +kernel
theorem dX5_market_47 : decode cX5_market 47 = .ok (.lreturn, 1) := by decide +kernel
theorem dX5_market_48 : decode cX5_market 48 = .ok (.aload_n 0, 1) := by decide +kernel
theorem dX5_market_49 : decode cX5_market 49 = .ok (.getfield 40, 3) := by decide +kernel
theorem dX5_market_52 : decode cX5_market 52 = .ok (.getfield 128, 3) := by decide +kernel
theorem dX5_market_55 : decode cX5_market 55 = .ok (.i2l, 1) := by decide +kernel
theorem dX5_market_56 : decode cX5_market 56 = .ok (.lreturn, 1) := by decide +kernel
theorem dX5_market_57 : decode cX5_market 57 = .ok (.aload_n 0, 1) := by decide +kernel
theorem dX5_market_58 : decode cX5_market 58 = .ok (.getfield 40, 3) := by decide +kernel
theorem dX5_market_61 : decode cX5_market 61 = .ok (.getfield 131, 3) := by decide +kernel
theorem dX5_market_64 : decode cX5_market 64 = .ok (.i2l, 1) := by decide +kernel
theorem dX5_market_65 : decode cX5_market 65 = .ok (.lreturn, 1) := by decide +kernel
theorem dX5_market_66 : decode cX5_market 66 = .ok (.ldc2_w 93, 3) := by decide +kernel
theorem dX5_market_69 : decode cX5_market 69 = .ok (.lreturn, 1) := by decide +kernel
set_option maxRecDepth 20000 in
theorem ggX5_moves_X4_has : GoodIn wsX5_moves wsX4_has := goodIn_r _ [6, 7, 46, 47, 48, 49, 50, 51, 52, 53, 54, 55, 56, 57, 58, 59, 60, 61, 62] (by decide +kernel) (by decide +kernel)
set_option maxRecDepth 20000 in
theorem gX5_moves_X4_has : GoodIn wsX5_moves (wsV RX5 90 RX4 yX4_has wsX4_has) := goodIn_app (goodIn_of _ (by decide +kernel)) ggX5_moves_X4_has
set_option maxRecDepth 20000 in
theorem ggX5_moves_X4_heading : GoodIn wsX5_moves wsX4_heading := goodIn_r _ [11, 12, 13, 14, 15, 16, 17, 18, 19, 20, 5, 21, 22, 23, 24, 25, 26, 27, 28, 29, 30, 31, 32, 33, 34, 35, 36, 37, 46, 47, 48, 49, 50, 51, 52, 53, 54, 55, 56, 57, 58, 59, 60, 61, 62] (by decide +kernel) (by decide +kernel)
set_option maxRecDepth 20000 in
theorem gX5_moves_X4_heading : GoodIn wsX5_moves (wsV RX5 134 RX4 yX4_heading wsX4_heading) := goodIn_app (goodIn_of _ (by decide +kernel)) ggX5_moves_X4_heading
theorem dX5_moves_0 : decode cX5_moves 0 = .ok (.aload_n 0, 1) := by decide +kernel
theorem dX5_moves_1 : decode cX5_moves 1 = .ok (.getfield 40, 3) := by decide +kernel
theorem dX5_moves_4 : decode cX5_moves 4 = .ok (.iload_n 1, 1) := by decide +kernel
theorem dX5_moves_5 : decode cX5_moves 5 = .ok (.invokevirtual 90, 3) := by decide +kernel
theorem dX5_moves_8 : decode cX5_moves 8 = .ok (.ifCond .eq 14, 3) := by decide +kernel
theorem dX5_moves_11 : decode cX5_moves 11 = .ok (.aload_n 0, 1) := by decide +kernel
theorem dX5_moves_12 : decode cX5_moves 12 = .ok (.getfield 40, 3) := by decide +kernel
theorem dX5_moves_15 : decode cX5_moves 15 = .ok (.iload_n 1, 1) := by decide +kernel
theorem dX5_moves_16 : decode cX5_moves 16 = .ok (.invokevirtual 134, 3) := by decide +kernel
theorem dX5_moves_19 : decode cX5_moves 19 = .ok (.goto 4, 3) := by decide +kernel
theorem dX5_moves_22 : decode cX5_moves 22 = .ok (.iconst (-1), 1) := by decide +kernel
theorem dX5_moves_23 : decode cX5_moves 23 = .ok (.ireturn, 1) := by decide +kernel
set_option maxRecDepth 20000 in
theorem ggX5_ends_X4_has : GoodIn wsX5_ends wsX4_has := goodIn_r _ [8, 9, 22, 23, 24, 25, 26, 27, 28, 29, 30, 31, 32, 33, 34, 35, 36, 37, 38] (by decide +kernel) (by decide +kernel)
set_option maxRecDepth 20000 in
theorem gX5_ends_X4_has : GoodIn wsX5_ends (wsV RX5 90 RX4 yX4_has wsX4_has) := goodIn_app (goodIn_of _ (by decide +kernel)) ggX5_ends_X4_has
set_option maxRecDepth 20000 in
theorem ggX5_ends_X5_isZeroOrOne : GoodIn wsX5_ends wsX5_isZeroOrOne := goodIn_r _ [13] (by decide +kernel) (by decide +kernel)
set_option maxRecDepth 20000 in
theorem gX5_ends_X5_isZeroOrOne : GoodIn wsX5_ends (va_wsS RX5 137 yX5_isZeroOrOne wsX5_isZeroOrOne) := goodIn_app (goodIn_of _ (by decide +kernel)) ggX5_ends_X5_isZeroOrOne
theorem dX5_ends_0 : decode cX5_ends 0 = .ok (.aload_n 0, 1) := by decide +kernel
theorem dX5_ends_1 : decode cX5_ends 1 = .ok (.getfield 40, 3) := by decide +kernel
theorem dX5_ends_4 : decode cX5_ends 4 = .ok (.iload_n 1, 1) := by decide +kernel
theorem dX5_ends_5 : decode cX5_ends 5 = .ok (.invokevirtual 90, 3) := by decide +kernel
theorem dX5_ends_8 : decode cX5_ends 8 = .ok (.ifCond .eq 10, 3) := by decide +kernel
theorem dX5_ends_11 : decode cX5_ends 11 = .ok (.iload_n 2, 1) := by decide +kernel
theorem dX5_ends_12 : decode cX5_ends 12 = .ok (.invokestatic 137, 3) := by decide +kernel
theorem dX5_ends_15 : decode cX5_ends 15 = .ok (.ifCond .ne 5, 3) := by decide +kernel
theorem dX5_ends_18 : decode cX5_ends 18 = .ok (.iconst (-1), 1) := by decide +kernel
theorem dX5_ends_19 : decode cX5_ends 19 = .ok (.ireturn, 1) := by decide +kernel
theorem dX5_ends_20 : decode cX5_ends 20 = .ok (.iload_n 2, 1) := by decide +kernel
theorem dX5_ends_21 : decode cX5_ends 21 = .ok (.ifCond .ne 15, 3) := by decide +kernel
theorem dX5_ends_24 : decode cX5_ends 24 = .ok (.aload_n 0, 1) := by decide +kernel
theorem dX5_ends_25 : decode cX5_ends 25 = .ok (.getfield 40, 3) := by decide +kernel
theorem dX5_ends_28 : decode cX5_ends 28 = .ok (.getfield 140, 3) := by decide +kernel
theorem dX5_ends_31 : decode cX5_ends 31 = .ok (.iload_n 1, 1) := by decide +kernel
theorem dX5_ends_32 : decode cX5_ends 32 = .ok (.iaload, 1) := by decide +kernel
theorem dX5_ends_33 : decode cX5_ends 33 = .ok (.goto 12, 3) := by decide +kernel
theorem dX5_ends_36 : decode cX5_ends 36 = .ok (.aload_n 0, 1) := by decide +kernel
theorem dX5_ends_37 : decode cX5_ends 37 = .ok (.getfield 40, 3) := by decide +kernel
theorem dX5_ends_40 : decode cX5_ends 40 = .ok (.getfield 143, 3) := by decide +kernel
theorem dX5_ends_43 : decode cX5_ends 43 = .ok (.iload_n 1, 1) := by decide +kernel
theorem dX5_ends_44 : decode cX5_ends 44 = .ok (.iaload, 1) := by decide +kernel
theorem dX5_ends_45 : decode cX5_ends 45 = .ok (.ireturn, 1) := by decide +kernel
set_option maxRecDepth 20000 in
theorem ggX5_held_X4_holders : GoodIn wsX5_held wsX4_holders := goodIn_r _ [6, 7, 8, 9, 10, 11, 12, 5, 13, 14, 15, 16, 17, 18, 19, 20, 21, 22, 23, 24, 25, 34, 35, 36, 37, 38, 39, 40, 41, 42, 43, 44, 45, 46, 47, 48, 49, 50] (by decide +kernel) (by decide +kernel)
set_option maxRecDepth 20000 in
theorem gX5_held_X4_holders : GoodIn wsX5_held (wsV RX5 146 RX4 yX4_holders wsX4_holders) := goodIn_app (goodIn_of _ (by decide +kernel)) ggX5_held_X4_holders
theorem dX5_held_0 : decode cX5_held 0 = .ok (.aload_n 0, 1) := by decide +kernel
theorem dX5_held_1 : decode cX5_held 1 = .ok (.getfield 40, 3) := by decide +kernel
theorem dX5_held_4 : decode cX5_held 4 = .ok (.invokevirtual 146, 3) := by decide +kernel
theorem dX5_held_7 : decode cX5_held 7 = .ok (.ireturn, 1) := by decide +kernel
set_option maxRecDepth 20000 in
theorem ggX5_year_X1_passYear : GoodIn wsX5_year wsX1_passYear := goodIn_r _ [8, 9, 10, 11, 12, 13, 14, 15, 16, 17, 18, 19, 20, 21, 22, 23, 24, 25, 26, 27, 28, 29, 30, 31, 32, 33, 34, 35, 36, 37, 38, 39, 40, 41, 42, 43, 44, 45, 46, 47, 48, 49, 50, 51, 7, 52, 53, 54, 55, 56, 57, 58, 59, 60, 61, 62, 63, 64, 65, 66, 67, 68, 69, 70, 71, 72, 73, 74, 75, 76, 77, 78, 79, 80, 81, 82, 83, 84, 85, 86, 87, 88, 89, 98, 99, 100, 101, 102, 103, 104, 105, 106, 107, 108, 109, 110, 111, 112, 113, 114, 115, 116, 117, 118, 119] (by decide +kernel) (by decide +kernel)
set_option maxRecDepth 20000 in
theorem gX5_year_X1_passYear : GoodIn wsX5_year (wsV RX5 150 RX1 yX1_passYear wsX1_passYear) := goodIn_app (goodIn_of _ (by decide +kernel)) ggX5_year_X1_passYear
theorem dX5_year_0 : decode cX5_year 0 = .ok (.aload_n 0, 1) := by decide +kernel
theorem dX5_year_1 : decode cX5_year 1 = .ok (.getfield 26, 3) := by decide +kernel
theorem dX5_year_4 : decode cX5_year 4 = .ok (.aload_n 0, 1) := by decide +kernel
theorem dX5_year_5 : decode cX5_year 5 = .ok (.getfield 40, 3) := by decide +kernel
theorem dX5_year_8 : decode cX5_year 8 = .ok (.aload_n 0, 1) := by decide +kernel
theorem dX5_year_9 : decode cX5_year 9 = .ok (.getfield 33, 3) := by decide +kernel
theorem dX5_year_12 : decode cX5_year 12 = .ok (.invokevirtual 150, 3) := by decide +kernel
theorem dX5_year_15 : decode cX5_year 15 = .ok (.ireturn, 1) := by decide +kernel
set_option maxRecDepth 20000 in
theorem ggX5_rest_X4_copyFrom : GoodIn wsX5_rest wsX4_copyFrom := goodIn_r _ [8, 9, 10, 11, 12, 13, 14, 15, 16, 17, 18, 19, 20, 21, 22, 23, 24, 25, 26, 27, 28, 29, 107, 108, 109, 110, 111, 112, 113, 114, 115, 116, 117, 118, 119, 120, 121, 122, 123] (by decide +kernel) (by decide +kernel)
set_option maxRecDepth 20000 in
theorem gX5_rest_X4_copyFrom : GoodIn wsX5_rest (wsV RX5 73 RX4 yX4_copyFrom wsX4_copyFrom) := goodIn_app (goodIn_of _ (by decide +kernel)) ggX5_rest_X4_copyFrom
set_option maxRecDepth 20000 in
theorem ggX5_rest_X1_settle : GoodIn wsX5_rest wsX1_settle := goodIn_r _ [34, 35, 36, 37, 38, 39, 40, 41, 42, 43, 44, 33, 45, 46, 47, 48, 11, 12, 13, 49, 50, 51, 52, 53, 54, 55, 7, 56, 28, 19, 26, 9, 18, 25, 57, 58, 59, 60, 23, 61, 62, 63, 64, 24, 65, 66, 67, 68, 20, 69, 70, 71, 72, 21, 73, 74, 75, 76, 77, 78, 79, 80, 81, 27, 82, 83, 84, 85, 86, 87, 88, 89, 90, 91, 92, 93, 94, 95, 96, 97, 98, 124, 125, 107, 108, 109, 110, 111, 112, 113, 114, 115, 116, 117, 118, 119, 120, 121, 122, 123] (by decide +kernel) (by decide +kernel)
set_option maxRecDepth 20000 in
theorem gX5_rest_X1_settle : GoodIn wsX5_rest (wsV RX5 154 RX1 yX1_settle wsX1_settle) := goodIn_app (goodIn_of _ (by decide +kernel)) ggX5_rest_X1_settle
theorem dX5_rest_0 : decode cX5_rest 0 = .ok (.aload_n 0, 1) := by decide +kernel
theorem dX5_rest_1 : decode cX5_rest 1 = .ok (.getfield 44, 3) := by decide +kernel
theorem dX5_rest_4 : decode cX5_rest 4 = .ok (.aload_n 0, 1) := by decide +kernel
theorem dX5_rest_5 : decode cX5_rest 5 = .ok (.getfield 40, 3) := by decide +kernel
theorem dX5_rest_8 : decode cX5_rest 8 = .ok (.invokevirtual 73, 3) := by decide +kernel
theorem dX5_rest_11 : decode cX5_rest 11 = .ok (.aload_n 0, 1) := by decide +kernel
theorem dX5_rest_12 : decode cX5_rest 12 = .ok (.getfield 26, 3) := by decide +kernel
theorem dX5_rest_15 : decode cX5_rest 15 = .ok (.aload_n 0, 1) := by decide +kernel
theorem dX5_rest_16 : decode cX5_rest 16 = .ok (.getfield 44, 3) := by decide +kernel
theorem dX5_rest_19 : decode cX5_rest 19 = .ok (.invokevirtual 154, 3) := by decide +kernel
theorem dX5_rest_22 : decode cX5_rest 22 = .ok (.istore_n 1, 1) := by decide +kernel
theorem dX5_rest_23 : decode cX5_rest 23 = .ok (.iload_n 1, 1) := by decide +kernel
theorem dX5_rest_24 : decode cX5_rest 24 = .ok (.bipush (-5), 2) := by decide +kernel
theorem dX5_rest_26 : decode cX5_rest 26 = .ok (.if_icmp .eq 14, 3) := by decide +kernel
theorem dX5_rest_29 : decode cX5_rest 29 = .ok (.aload_n 0, 1) := by decide +kernel
theorem dX5_rest_30 : decode cX5_rest 30 = .ok (.getfield 40, 3) := by decide +kernel
theorem dX5_rest_33 : decode cX5_rest 33 = .ok (.aload_n 0, 1) := by decide +kernel
theorem dX5_rest_34 : decode cX5_rest 34 = .ok (.getfield 44, 3) := by decide +kernel
theorem dX5_rest_37 : decode cX5_rest 37 = .ok (.invokevirtual 73, 3) := by decide +kernel
theorem dX5_rest_40 : decode cX5_rest 40 = .ok (.iload_n 1, 1) := by decide +kernel
theorem dX5_rest_41 : decode cX5_rest 41 = .ok (.ireturn, 1) := by decide +kernel
set_option maxRecDepth 20000 in
theorem ggX5_gone_X4_has : GoodIn wsX5_gone wsX4_has := goodIn_r _ [9, 10, 122, 123, 124, 125, 126, 127, 128, 129, 130, 131, 132, 133, 134, 135, 136, 137, 138] (by decide +kernel) (by decide +kernel)
set_option maxRecDepth 20000 in
theorem gX5_gone_X4_has : GoodIn wsX5_gone (wsV RX5 90 RX4 yX4_has wsX4_has) := goodIn_app (goodIn_of _ (by decide +kernel)) ggX5_gone_X4_has
set_option maxRecDepth 20000 in
theorem ggX5_gone_X5_isZeroOrOne : GoodIn wsX5_gone wsX5_isZeroOrOne := goodIn_r _ [14] (by decide +kernel) (by decide +kernel)
set_option maxRecDepth 20000 in
theorem gX5_gone_X5_isZeroOrOne : GoodIn wsX5_gone (va_wsS RX5 137 yX5_isZeroOrOne wsX5_isZeroOrOne) := goodIn_app (goodIn_of _ (by decide +kernel)) ggX5_gone_X5_isZeroOrOne
set_option maxRecDepth 20000 in
theorem ggX5_gone_X5_isSpanOfYears : GoodIn wsX5_gone wsX5_isSpanOfYears := goodIn_r _ [17] (by decide +kernel) (by decide +kernel)
set_option maxRecDepth 20000 in
theorem gX5_gone_X5_isSpanOfYears : GoodIn wsX5_gone (va_wsS RX5 158 yX5_isSpanOfYears wsX5_isSpanOfYears) := goodIn_app (goodIn_of _ (by decide +kernel)) ggX5_gone_X5_isSpanOfYears
set_option maxRecDepth 20000 in
theorem ggX5_gone_X4_copyFrom : GoodIn wsX5_gone wsX4_copyFrom := goodIn_r _ [21, 22, 23, 24, 25, 26, 27, 28, 29, 30, 31, 32, 33, 34, 10, 35, 36, 37, 38, 39, 40, 41, 122, 123, 124, 125, 126, 127, 128, 129, 130, 131, 132, 133, 134, 135, 136, 137, 138] (by decide +kernel) (by decide +kernel)
set_option maxRecDepth 20000 in
theorem gX5_gone_X4_copyFrom : GoodIn wsX5_gone (wsV RX5 73 RX4 yX4_copyFrom wsX4_copyFrom) := goodIn_app (goodIn_of _ (by decide +kernel)) ggX5_gone_X4_copyFrom
set_option maxRecDepth 20000 in
theorem ggX5_gone_X1_passYear : GoodIn wsX5_gone wsX1_passYear := goodIn_r _ [46, 47, 48, 49, 24, 25, 26, 50, 51, 52, 53, 54, 55, 56, 57, 58, 59, 60, 61, 62, 63, 64, 65, 66, 67, 68, 69, 70, 71, 8, 72, 37, 73, 40, 39, 38, 74, 75, 76, 77, 78, 79, 80, 81, 45, 82, 83, 84, 85, 86, 32, 22, 31, 87, 88, 89, 90, 35, 91, 92, 93, 94, 36, 95, 96, 97, 98, 33, 99, 100, 101, 102, 34, 103, 104, 105, 106, 107, 108, 109, 110, 111, 30, 122, 123, 124, 125, 126, 127, 128, 129, 130, 131, 132, 133, 134, 135, 136, 137, 138, 139, 140, 141, 142, 143] (by decide +kernel) (by decide +kernel)
set_option maxRecDepth 20000 in
theorem gX5_gone_X1_passYear : GoodIn wsX5_gone (wsV RX5 150 RX1 yX1_passYear wsX1_passYear) := goodIn_app (goodIn_of _ (by decide +kernel)) ggX5_gone_X1_passYear
set_option maxRecDepth 20000 in
theorem ggX5_gone_X4_hasGold : GoodIn wsX5_gone wsX4_hasGold := goodIn_r _ [98, 33, 122, 123, 124, 125, 126, 127, 128, 129, 130, 131, 132, 133, 134, 135, 136, 137, 138] (by decide +kernel) (by decide +kernel)
set_option maxRecDepth 20000 in
theorem gX5_gone_X4_hasGold : GoodIn wsX5_gone (wsV RX5 161 RX4 yX4_hasGold wsX4_hasGold) := goodIn_app (goodIn_of _ (by decide +kernel)) ggX5_gone_X4_hasGold
set_option maxRecDepth 20000 in
theorem ggX5_gone_X4_hasSilver : GoodIn wsX5_gone wsX4_hasSilver := goodIn_r _ [102, 34, 22, 122, 123, 124, 125, 126, 127, 128, 129, 130, 131, 132, 133, 134, 135, 136, 137, 138] (by decide +kernel) (by decide +kernel)
set_option maxRecDepth 20000 in
theorem gX5_gone_X4_hasSilver : GoodIn wsX5_gone (wsV RX5 164 RX4 yX4_hasSilver wsX4_hasSilver) := goodIn_app (goodIn_of _ (by decide +kernel)) ggX5_gone_X4_hasSilver
theorem dX5_gone_0 : decode cX5_gone 0 = .ok (.aload_n 0, 1) := by decide +kernel
theorem dX5_gone_1 : decode cX5_gone 1 = .ok (.getfield 40, 3) := by decide +kernel
theorem dX5_gone_4 : decode cX5_gone 4 = .ok (.iload_n 1, 1) := by decide +kernel
theorem dX5_gone_5 : decode cX5_gone 5 = .ok (.invokevirtual 90, 3) := by decide +kernel
theorem dX5_gone_8 : decode cX5_gone 8 = .ok (.ifCond .eq 17, 3) := by decide +kernel
theorem dX5_gone_11 : decode cX5_gone 11 = .ok (.iload_n 2, 1) := by decide +kernel
theorem dX5_gone_12 : decode cX5_gone 12 = .ok (.invokestatic 137, 3) := by decide +kernel
theorem dX5_gone_15 : decode cX5_gone 15 = .ok (.ifCond .eq 10, 3) := by decide +kernel
theorem dX5_gone_18 : decode cX5_gone 18 = .ok (.iload_n 3, 1) := by decide +kernel
theorem dX5_gone_19 : decode cX5_gone 19 = .ok (.invokestatic 158, 3) := by decide +kernel
theorem dX5_gone_22 : decode cX5_gone 22 = .ok (.ifCond .ne 5, 3) := by decide +kernel
theorem dX5_gone_25 : decode cX5_gone 25 = .ok (.iconst (-1), 1) := by decide +kernel
theorem dX5_gone_26 : decode cX5_gone 26 = .ok (.ireturn, 1) := by decide +kernel
theorem dX5_gone_27 : decode cX5_gone 27 = .ok (.aload_n 0, 1) := by decide +kernel
theorem dX5_gone_28 : decode cX5_gone 28 = .ok (.getfield 44, 3) := by decide +kernel
theorem dX5_gone_31 : decode cX5_gone 31 = .ok (.aload_n 0, 1) := by decide +kernel
theorem dX5_gone_32 : decode cX5_gone 32 = .ok (.getfield 40, 3) := by decide +kernel
theorem dX5_gone_35 : decode cX5_gone 35 = .ok (.invokevirtual 73, 3) := by decide +kernel
theorem dX5_gone_38 : decode cX5_gone 38 = .ok (.iconst 1, 1) := by decide +kernel
theorem dX5_gone_39 : decode cX5_gone 39 = .ok (.istore 4, 2) := by decide +kernel
theorem dX5_gone_41 : decode cX5_gone 41 = .ok (.iload 4, 2) := by decide +kernel
theorem dX5_gone_43 : decode cX5_gone 43 = .ok (.iload_n 3, 1) := by decide +kernel
theorem dX5_gone_44 : decode cX5_gone 44 = .ok (.if_icmp .gt 57, 3) := by decide +kernel
theorem dX5_gone_47 : decode cX5_gone 47 = .ok (.aload_n 0, 1) := by decide +kernel
theorem dX5_gone_48 : decode cX5_gone 48 = .ok (.getfield 26, 3) := by decide +kernel
theorem dX5_gone_51 : decode cX5_gone 51 = .ok (.aload_n 0, 1) := by decide +kernel
theorem dX5_gone_52 : decode cX5_gone 52 = .ok (.getfield 44, 3) := by decide +kernel
theorem dX5_gone_55 : decode cX5_gone 55 = .ok (.aload_n 0, 1) := by decide +kernel
theorem dX5_gone_56 : decode cX5_gone 56 = .ok (.getfield 33, 3) := by decide +kernel
theorem dX5_gone_59 : decode cX5_gone 59 = .ok (.invokevirtual 150, 3) := by decide +kernel
theorem dX5_gone_62 : decode cX5_gone 62 = .ok (.pop, 1) := by decide +kernel
theorem dX5_gone_63 : decode cX5_gone 63 = .ok (.iload_n 2, 1) := by decide +kernel
theorem dX5_gone_64 : decode cX5_gone 64 = .ok (.ifCond .ne 17, 3) := by decide +kernel
theorem dX5_gone_67 : decode cX5_gone 67 = .ok (.aload_n 0, 1) := by decide +kernel
theorem dX5_gone_68 : decode cX5_gone 68 = .ok (.getfield 44, 3) := by decide +kernel
theorem dX5_gone_71 : decode cX5_gone 71 = .ok (.iload_n 1, 1) := by decide +kernel
theorem dX5_gone_72 : decode cX5_gone 72 = .ok (.invokevirtual 161, 3) := by decide +kernel
theorem dX5_gone_75 : decode cX5_gone 75 = .ok (.ifCond .ne 20, 3) := by decide +kernel
theorem dX5_gone_78 : decode cX5_gone 78 = .ok (.goto 14, 3) := by decide +kernel
theorem dX5_gone_81 : decode cX5_gone 81 = .ok (.aload_n 0, 1) := by decide +kernel
theorem dX5_gone_82 : decode cX5_gone 82 = .ok (.getfield 44, 3) := by decide +kernel
theorem dX5_gone_85 : decode cX5_gone 85 = .ok (.iload_n 1, 1) := by decide +kernel
theorem dX5_gone_86 : decode cX5_gone 86 = .ok (.invokevirtual 164, 3) := by decide +kernel
theorem dX5_gone_89 : decode cX5_gone 89 = .ok (.ifCond .ne 6, 3) := by decide +kernel
theorem dX5_gone_92 : decode cX5_gone 92 = .ok (.iload 4, 2) := by decide +kernel
theorem dX5_gone_94 : decode cX5_gone 94 = .ok (.ireturn, 1) := by decide +kernel
theorem dX5_gone_95 : decode cX5_gone 95 = .ok (.iinc 4 1, 3) := by decide +kernel
theorem dX5_gone_98 : decode cX5_gone 98 = .ok (.goto (-57), 3) := by decide +kernel
theorem dX5_gone_101 : decode cX5_gone 101 = .ok (.bipush (-4), 2) := by decide +kernel
theorem dX5_gone_103 : decode cX5_gone 103 = .ok (.ireturn, 1) := by decide +kernel
set_option maxRecDepth 20000 in
theorem ggX5_stopped_X4_has : GoodIn wsX5_stopped wsX4_has := goodIn_r _ [9, 10, 118, 119, 120, 121, 122, 123, 124, 125, 126, 127, 128, 129, 130, 131, 132, 133, 134] (by decide +kernel) (by decide +kernel)
set_option maxRecDepth 20000 in
theorem gX5_stopped_X4_has : GoodIn wsX5_stopped (wsV RX5 90 RX4 yX4_has wsX4_has) := goodIn_app (goodIn_of _ (by decide +kernel)) ggX5_stopped_X4_has
set_option maxRecDepth 20000 in
theorem ggX5_stopped_X5_isSpanOfYears : GoodIn wsX5_stopped wsX5_isSpanOfYears := goodIn_r _ [14] (by decide +kernel) (by decide +kernel)
set_option maxRecDepth 20000 in
theorem gX5_stopped_X5_isSpanOfYears : GoodIn wsX5_stopped (va_wsS RX5 158 yX5_isSpanOfYears wsX5_isSpanOfYears) := goodIn_app (goodIn_of _ (by decide +kernel)) ggX5_stopped_X5_isSpanOfYears
set_option maxRecDepth 20000 in
theorem ggX5_stopped_X4_mints : GoodIn wsX5_stopped wsX4_mints := goodIn_r _ [18, 19, 118, 119, 120, 121, 122, 123, 124, 125, 126, 127, 128, 129, 130, 131, 132, 133, 134] (by decide +kernel) (by decide +kernel)
set_option maxRecDepth 20000 in
theorem gX5_stopped_X4_mints : GoodIn wsX5_stopped (wsV RX5 115 RX4 yX4_mints wsX4_mints) := goodIn_app (goodIn_of _ (by decide +kernel)) ggX5_stopped_X4_mints
set_option maxRecDepth 20000 in
theorem ggX5_stopped_X4_copyFrom : GoodIn wsX5_stopped wsX4_copyFrom := goodIn_r _ [23, 24, 25, 26, 27, 28, 29, 30, 31, 32, 33, 34, 35, 36, 10, 19, 37, 38, 39, 40, 41, 42, 118, 119, 120, 121, 122, 123, 124, 125, 126, 127, 128, 129, 130, 131, 132, 133, 134] (by decide +kernel) (by decide +kernel)
set_option maxRecDepth 20000 in
theorem gX5_stopped_X4_copyFrom : GoodIn wsX5_stopped (wsV RX5 73 RX4 yX4_copyFrom wsX4_copyFrom) := goodIn_app (goodIn_of _ (by decide +kernel)) ggX5_stopped_X4_copyFrom
set_option maxRecDepth 20000 in
theorem ggX5_stopped_X1_passYear : GoodIn wsX5_stopped wsX1_passYear := goodIn_r _ [47, 48, 49, 50, 26, 27, 28, 51, 52, 53, 54, 55, 56, 57, 58, 59, 60, 61, 62, 63, 64, 65, 66, 67, 68, 69, 70, 71, 72, 8, 73, 38, 74, 41, 40, 39, 75, 76, 77, 78, 79, 80, 81, 82, 46, 83, 84, 85, 86, 87, 34, 24, 33, 88, 16, 17, 18, 19, 89, 90, 91, 92, 37, 93, 94, 95, 96, 35, 97, 98, 99, 100, 36, 101, 102, 103, 104, 105, 106, 107, 108, 109, 32, 118, 119, 120, 121, 122, 123, 124, 125, 126, 127, 128, 129, 130, 131, 132, 133, 134, 135, 136, 137, 138, 139] (by decide +kernel) (by decide +kernel)
set_option maxRecDepth 20000 in
theorem gX5_stopped_X1_passYear : GoodIn wsX5_stopped (wsV RX5 150 RX1 yX1_passYear wsX1_passYear) := goodIn_app (goodIn_of _ (by decide +kernel)) ggX5_stopped_X1_passYear
theorem dX5_stopped_0 : decode cX5_stopped 0 = .ok (.aload_n 0, 1) := by decide +kernel
theorem dX5_stopped_1 : decode cX5_stopped 1 = .ok (.getfield 40, 3) := by decide +kernel
theorem dX5_stopped_4 : decode cX5_stopped 4 = .ok (.iload_n 1, 1) := by decide +kernel
theorem dX5_stopped_5 : decode cX5_stopped 5 = .ok (.invokevirtual 90, 3) := by decide +kernel
theorem dX5_stopped_8 : decode cX5_stopped 8 = .ok (.ifCond .eq 10, 3) := by decide +kernel
theorem dX5_stopped_11 : decode cX5_stopped 11 = .ok (.iload_n 2, 1) := by decide +kernel
theorem dX5_stopped_12 : decode cX5_stopped 12 = .ok (.invokestatic 158, 3) := by decide +kernel
theorem dX5_stopped_15 : decode cX5_stopped 15 = .ok (.ifCond .ne 5, 3) := by decide +kernel
theorem dX5_stopped_18 : decode cX5_stopped 18 = .ok (.iconst (-1), 1) := by decide +kernel
theorem dX5_stopped_19 : decode cX5_stopped 19 = .ok (.ireturn, 1) := by decide +kernel
theorem dX5_stopped_20 : decode cX5_stopped 20 = .ok (.aload_n 0, 1) := by decide +kernel
theorem dX5_stopped_21 : decode cX5_stopped 21 = .ok (.getfield 40, 3) := by decide +kernel
theorem dX5_stopped_24 : decode cX5_stopped 24 = .ok (.iload_n 1, 1) := by decide +kernel
theorem dX5_stopped_25 : decode cX5_stopped 25 = .ok (.invokevirtual 115, 3) := by decide +kernel
theorem dX5_stopped_28 : decode cX5_stopped 28 = .ok (.ifCond .ne 6, 3) := by decide +kernel
theorem dX5_stopped_31 : decode cX5_stopped 31 = .ok (.bipush (-2), 2) := by decide +kernel
theorem dX5_stopped_33 : decode cX5_stopped 33 = .ok (.ireturn, 1) := by decide +kernel
theorem dX5_stopped_34 : decode cX5_stopped 34 = .ok (.aload_n 0, 1) := by decide +kernel
theorem dX5_stopped_35 : decode cX5_stopped 35 = .ok (.getfield 44, 3) := by decide +kernel
theorem dX5_stopped_38 : decode cX5_stopped 38 = .ok (.aload_n 0, 1) := by decide +kernel
theorem dX5_stopped_39 : decode cX5_stopped 39 = .ok (.getfield 40, 3) := by decide +kernel
theorem dX5_stopped_42 : decode cX5_stopped 42 = .ok (.invokevirtual 73, 3) := by decide +kernel
theorem dX5_stopped_45 : decode cX5_stopped 45 = .ok (.iconst 1, 1) := by decide +kernel
theorem dX5_stopped_46 : decode cX5_stopped 46 = .ok (.istore_n 3, 1) := by decide +kernel
theorem dX5_stopped_47 : decode cX5_stopped 47 = .ok (.iload_n 3, 1) := by decide +kernel
theorem dX5_stopped_48 : decode cX5_stopped 48 = .ok (.iload_n 2, 1) := by decide +kernel
theorem dX5_stopped_49 : decode cX5_stopped 49 = .ok (.if_icmp .gt 38, 3) := by decide +kernel
theorem dX5_stopped_52 : decode cX5_stopped 52 = .ok (.aload_n 0, 1) := by decide +kernel
theorem dX5_stopped_53 : decode cX5_stopped 53 = .ok (.getfield 26, 3) := by decide +kernel
theorem dX5_stopped_56 : decode cX5_stopped 56 = .ok (.aload_n 0, 1) := by decide +kernel
theorem dX5_stopped_57 : decode cX5_stopped 57 = .ok (.getfield 44, 3) := by decide +kernel
theorem dX5_stopped_60 : decode cX5_stopped 60 = .ok (.aload_n 0, 1) := by decide +kernel
theorem dX5_stopped_61 : decode cX5_stopped 61 = .ok (.getfield 33, 3) := by decide +kernel
theorem dX5_stopped_64 : decode cX5_stopped 64 = .ok (.invokevirtual 150, 3) := by decide +kernel
theorem dX5_stopped_67 : decode cX5_stopped 67 = .ok (.pop, 1) := by decide +kernel
theorem dX5_stopped_68 : decode cX5_stopped 68 = .ok (.aload_n 0, 1) := by decide +kernel
theorem dX5_stopped_69 : decode cX5_stopped 69 = .ok (.getfield 44, 3) := by decide +kernel
theorem dX5_stopped_72 : decode cX5_stopped 72 = .ok (.iload_n 1, 1) := by decide +kernel
theorem dX5_stopped_73 : decode cX5_stopped 73 = .ok (.invokevirtual 115, 3) := by decide +kernel
theorem dX5_stopped_76 : decode cX5_stopped 76 = .ok (.ifCond .ne 5, 3) := by decide +kernel
theorem dX5_stopped_79 : decode cX5_stopped 79 = .ok (.iload_n 3, 1) := by decide +kernel
theorem dX5_stopped_80 : decode cX5_stopped 80 = .ok (.ireturn, 1) := by decide +kernel
theorem dX5_stopped_81 : decode cX5_stopped 81 = .ok (.iinc 3 1, 3) := by decide +kernel
theorem dX5_stopped_84 : decode cX5_stopped 84 = .ok (.goto (-37), 3) := by decide +kernel
theorem dX5_stopped_87 : decode cX5_stopped 87 = .ok (.bipush (-4), 2) := by decide +kernel
theorem dX5_stopped_89 : decode cX5_stopped 89 = .ok (.ireturn, 1) := by decide +kernel
set_option maxRecDepth 20000 in
theorem ggX5_free_X5_isSpanOfYears : GoodIn wsX5_free wsX5_isSpanOfYears := goodIn_r _ [8] (by decide +kernel) (by decide +kernel)
set_option maxRecDepth 20000 in
theorem gX5_free_X5_isSpanOfYears : GoodIn wsX5_free (va_wsS RX5 158 yX5_isSpanOfYears wsX5_isSpanOfYears) := goodIn_app (goodIn_of _ (by decide +kernel)) ggX5_free_X5_isSpanOfYears
set_option maxRecDepth 20000 in
theorem ggX5_free_X4_copyFrom : GoodIn wsX5_free wsX4_copyFrom := goodIn_r _ [13, 14, 15, 16, 17, 18, 19, 20, 21, 22, 23, 24, 25, 26, 27, 28, 29, 30, 31, 32, 33, 34, 117, 118, 119, 120, 121, 122, 123, 124, 125, 126, 127, 128, 129, 130, 131, 132, 133] (by decide +kernel) (by decide +kernel)
set_option maxRecDepth 20000 in
theorem gX5_free_X4_copyFrom : GoodIn wsX5_free (wsV RX5 73 RX4 yX4_copyFrom wsX4_copyFrom) := goodIn_app (goodIn_of _ (by decide +kernel)) ggX5_free_X4_copyFrom
set_option maxRecDepth 20000 in
theorem ggX5_free_X1_passYear : GoodIn wsX5_free wsX1_passYear := goodIn_r _ [39, 40, 41, 42, 16, 17, 18, 43, 44, 45, 46, 47, 48, 49, 50, 51, 52, 53, 54, 55, 56, 57, 58, 59, 60, 61, 62, 63, 64, 12, 65, 30, 66, 33, 32, 31, 67, 68, 69, 70, 71, 72, 73, 74, 38, 75, 76, 77, 78, 79, 24, 14, 23, 80, 81, 82, 83, 28, 84, 85, 86, 87, 29, 88, 89, 90, 91, 25, 92, 93, 94, 95, 26, 96, 97, 98, 99, 100, 101, 102, 103, 104, 22, 117, 118, 119, 120, 121, 122, 123, 124, 125, 126, 127, 128, 129, 130, 131, 132, 133, 134, 135, 136, 137, 138] (by decide +kernel) (by decide +kernel)
set_option maxRecDepth 20000 in
theorem gX5_free_X1_passYear : GoodIn wsX5_free (wsV RX5 150 RX1 yX1_passYear wsX1_passYear) := goodIn_app (goodIn_of _ (by decide +kernel)) ggX5_free_X1_passYear
set_option maxRecDepth 20000 in
theorem ggX5_free_X4_holders : GoodIn wsX5_free wsX4_holders := goodIn_r _ [108, 33, 23, 24, 80, 81, 82, 12, 83, 28, 88, 89, 90, 91, 25, 92, 93, 94, 95, 26, 14, 117, 118, 119, 120, 121, 122, 123, 124, 125, 126, 127, 128, 129, 130, 131, 132, 133] (by decide +kernel) (by decide +kernel)
set_option maxRecDepth 20000 in
theorem gX5_free_X4_holders : GoodIn wsX5_free (wsV RX5 146 RX4 yX4_holders wsX4_holders) := goodIn_app (goodIn_of _ (by decide +kernel)) ggX5_free_X4_holders
theorem dX5_free_0 : decode cX5_free 0 = .ok (.iload_n 1, 1) := by decide +kernel
theorem dX5_free_1 : decode cX5_free 1 = .ok (.invokestatic 158, 3) := by decide +kernel
theorem dX5_free_4 : decode cX5_free 4 = .ok (.ifCond .ne 5, 3) := by decide +kernel
theorem dX5_free_7 : decode cX5_free 7 = .ok (.iconst (-1), 1) := by decide +kernel
theorem dX5_free_8 : decode cX5_free 8 = .ok (.ireturn, 1) := by decide +kernel
theorem dX5_free_9 : decode cX5_free 9 = .ok (.aload_n 0, 1) := by decide +kernel
theorem dX5_free_10 : decode cX5_free 10 = .ok (.getfield 44, 3) := by decide +kernel
theorem dX5_free_13 : decode cX5_free 13 = .ok (.aload_n 0, 1) := by decide +kernel
theorem dX5_free_14 : decode cX5_free 14 = .ok (.getfield 40, 3) := by decide +kernel
theorem dX5_free_17 : decode cX5_free 17 = .ok (.invokevirtual 73, 3) := by decide +kernel
theorem dX5_free_20 : decode cX5_free 20 = .ok (.iconst 1, 1) := by decide +kernel
theorem dX5_free_21 : decode cX5_free 21 = .ok (.istore_n 2, 1) := by decide +kernel
theorem dX5_free_22 : decode cX5_free 22 = .ok (.iload_n 2, 1) := by decide +kernel
theorem dX5_free_23 : decode cX5_free 23 = .ok (.iload_n 1, 1) := by decide +kernel
theorem dX5_free_24 : decode cX5_free 24 = .ok (.if_icmp .gt 37, 3) := by decide +kernel
theorem dX5_free_27 : decode cX5_free 27 = .ok (.aload_n 0, 1) := by decide +kernel
theorem dX5_free_28 : decode cX5_free 28 = .ok (.getfield 26, 3) := by decide +kernel
theorem dX5_free_31 : decode cX5_free 31 = .ok (.aload_n 0, 1) := by decide +kernel
theorem dX5_free_32 : decode cX5_free 32 = .ok (.getfield 44, 3) := by decide +kernel
theorem dX5_free_35 : decode cX5_free 35 = .ok (.aload_n 0, 1) := by decide +kernel
theorem dX5_free_36 : decode cX5_free 36 = .ok (.getfield 33, 3) := by decide +kernel
theorem dX5_free_39 : decode cX5_free 39 = .ok (.invokevirtual 150, 3) := by decide +kernel
theorem dX5_free_42 : decode cX5_free 42 = .ok (.pop, 1) := by decide +kernel
theorem dX5_free_43 : decode cX5_free 43 = .ok (.aload_n 0, 1) := by decide +kernel
theorem dX5_free_44 : decode cX5_free 44 = .ok (.getfield 44, 3) := by decide +kernel
theorem dX5_free_47 : decode cX5_free 47 = .ok (.invokevirtual 146, 3) := by decide +kernel
theorem dX5_free_50 : decode cX5_free 50 = .ok (.ifCond .ne 5, 3) := by decide +kernel
theorem dX5_free_53 : decode cX5_free 53 = .ok (.iload_n 2, 1) := by decide +kernel
theorem dX5_free_54 : decode cX5_free 54 = .ok (.ireturn, 1) := by decide +kernel
theorem dX5_free_55 : decode cX5_free 55 = .ok (.iinc 2 1, 3) := by decide +kernel
theorem dX5_free_58 : decode cX5_free 58 = .ok (.goto (-36), 3) := by decide +kernel
theorem dX5_free_61 : decode cX5_free 61 = .ok (.bipush (-4), 2) := by decide +kernel
theorem dX5_free_63 : decode cX5_free 63 = .ok (.ireturn, 1) := by decide +kernel
set_option maxRecDepth 20000 in
theorem ggX5_ahead_X5_isSpanOfYears : GoodIn wsX5_ahead wsX5_isSpanOfYears := goodIn_r _ [9] (by decide +kernel) (by decide +kernel)
set_option maxRecDepth 20000 in
theorem gX5_ahead_X5_isSpanOfYears : GoodIn wsX5_ahead (va_wsS RX5 158 yX5_isSpanOfYears wsX5_isSpanOfYears) := goodIn_app (goodIn_of _ (by decide +kernel)) ggX5_ahead_X5_isSpanOfYears
set_option maxRecDepth 20000 in
theorem ggX5_ahead_X4_copyFrom : GoodIn wsX5_ahead wsX4_copyFrom := goodIn_r _ [14, 15, 16, 17, 18, 19, 20, 21, 22, 23, 24, 25, 26, 27, 28, 29, 30, 31, 32, 33, 34, 35, 114, 115, 116, 117, 118, 119, 120, 121, 122, 123, 124, 125, 126, 127, 128, 129, 130] (by decide +kernel) (by decide +kernel)
set_option maxRecDepth 20000 in
theorem gX5_ahead_X4_copyFrom : GoodIn wsX5_ahead (wsV RX5 73 RX4 yX4_copyFrom wsX4_copyFrom) := goodIn_app (goodIn_of _ (by decide +kernel)) ggX5_ahead_X4_copyFrom
set_option maxRecDepth 20000 in
theorem ggX5_ahead_X1_passYear : GoodIn wsX5_ahead wsX1_passYear := goodIn_r _ [40, 41, 42, 43, 17, 18, 19, 44, 45, 46, 47, 48, 49, 50, 51, 52, 53, 54, 55, 56, 57, 58, 59, 60, 61, 62, 63, 64, 65, 13, 66, 31, 67, 34, 33, 32, 68, 69, 70, 71, 72, 73, 74, 75, 39, 76, 77, 78, 79, 80, 25, 15, 24, 81, 82, 83, 84, 29, 85, 86, 87, 88, 30, 89, 90, 91, 92, 26, 93, 94, 95, 96, 27, 97, 98, 99, 100, 101, 102, 103, 104, 105, 23, 114, 115, 116, 117, 118, 119, 120, 121, 122, 123, 124, 125, 126, 127, 128, 129, 130, 131, 132, 133, 134, 135] (by decide +kernel) (by decide +kernel)
set_option maxRecDepth 20000 in
theorem gX5_ahead_X1_passYear : GoodIn wsX5_ahead (wsV RX5 150 RX1 yX1_passYear wsX1_passYear) := goodIn_app (goodIn_of _ (by decide +kernel)) ggX5_ahead_X1_passYear
theorem dX5_ahead_0 : decode cX5_ahead 0 = .ok (.iload_n 1, 1) := by decide +kernel
theorem dX5_ahead_1 : decode cX5_ahead 1 = .ok (.invokestatic 158, 3) := by decide +kernel
theorem dX5_ahead_4 : decode cX5_ahead 4 = .ok (.ifCond .ne 5, 3) := by decide +kernel
theorem dX5_ahead_7 : decode cX5_ahead 7 = .ok (.iconst (-1), 1) := by decide +kernel
theorem dX5_ahead_8 : decode cX5_ahead 8 = .ok (.ireturn, 1) := by decide +kernel
theorem dX5_ahead_9 : decode cX5_ahead 9 = .ok (.aload_n 0, 1) := by decide +kernel
theorem dX5_ahead_10 : decode cX5_ahead 10 = .ok (.getfield 44, 3) := by decide +kernel
theorem dX5_ahead_13 : decode cX5_ahead 13 = .ok (.aload_n 0, 1) := by decide +kernel
theorem dX5_ahead_14 : decode cX5_ahead 14 = .ok (.getfield 40, 3) := by decide +kernel
theorem dX5_ahead_17 : decode cX5_ahead 17 = .ok (.invokevirtual 73, 3) := by decide +kernel
theorem dX5_ahead_20 : decode cX5_ahead 20 = .ok (.iconst 1, 1) := by decide +kernel
theorem dX5_ahead_21 : decode cX5_ahead 21 = .ok (.istore_n 2, 1) := by decide +kernel
theorem dX5_ahead_22 : decode cX5_ahead 22 = .ok (.iload_n 2, 1) := by decide +kernel
theorem dX5_ahead_23 : decode cX5_ahead 23 = .ok (.iload_n 1, 1) := by decide +kernel
theorem dX5_ahead_24 : decode cX5_ahead 24 = .ok (.if_icmp .gt 25, 3) := by decide +kernel
theorem dX5_ahead_27 : decode cX5_ahead 27 = .ok (.aload_n 0, 1) := by decide +kernel
theorem dX5_ahead_28 : decode cX5_ahead 28 = .ok (.getfield 26, 3) := by decide +kernel
theorem dX5_ahead_31 : decode cX5_ahead 31 = .ok (.aload_n 0, 1) := by decide +kernel
theorem dX5_ahead_32 : decode cX5_ahead 32 = .ok (.getfield 44, 3) := by decide +kernel
theorem dX5_ahead_35 : decode cX5_ahead 35 = .ok (.aload_n 0, 1) := by decide +kernel
theorem dX5_ahead_36 : decode cX5_ahead 36 = .ok (.getfield 33, 3) := by decide +kernel
theorem dX5_ahead_39 : decode cX5_ahead 39 = .ok (.invokevirtual 150, 3) := by decide +kernel
theorem dX5_ahead_42 : decode cX5_ahead 42 = .ok (.pop, 1) := by decide +kernel
theorem dX5_ahead_43 : decode cX5_ahead 43 = .ok (.iinc 2 1, 3) := by decide +kernel
theorem dX5_ahead_46 : decode cX5_ahead 46 = .ok (.goto (-24), 3) := by decide +kernel
theorem dX5_ahead_49 : decode cX5_ahead 49 = .ok (.aload_n 0, 1) := by decide +kernel
theorem dX5_ahead_50 : decode cX5_ahead 50 = .ok (.getfield 44, 3) := by decide +kernel
theorem dX5_ahead_53 : decode cX5_ahead 53 = .ok (.getfield 128, 3) := by decide +kernel
theorem dX5_ahead_56 : decode cX5_ahead 56 = .ok (.ireturn, 1) := by decide +kernel
set_option maxRecDepth 20000 in
theorem ggX5_debt_X4_has : GoodIn wsX5_debt wsX4_has := goodIn_r _ [13, 14, 32, 33, 34, 35, 36, 37, 38, 39, 40, 41, 42, 43, 44, 45, 46, 47, 48] (by decide +kernel) (by decide +kernel)
set_option maxRecDepth 20000 in
theorem gX5_debt_X4_has : GoodIn wsX5_debt (wsV RX5 90 RX4 yX4_has wsX4_has) := goodIn_app (goodIn_of _ (by decide +kernel)) ggX5_debt_X4_has
set_option maxRecDepth 20000 in
theorem ggX5_debt_X5_isZeroOrOne : GoodIn wsX5_debt wsX5_isZeroOrOne := goodIn_r _ [18] (by decide +kernel) (by decide +kernel)
set_option maxRecDepth 20000 in
theorem gX5_debt_X5_isZeroOrOne : GoodIn wsX5_debt (va_wsS RX5 137 yX5_isZeroOrOne wsX5_isZeroOrOne) := goodIn_app (goodIn_of _ (by decide +kernel)) ggX5_debt_X5_isZeroOrOne
set_option maxRecDepth 20000 in
theorem ggX5_debt_X4_mints : GoodIn wsX5_debt wsX4_mints := goodIn_r _ [22, 23, 32, 33, 34, 35, 36, 37, 38, 39, 40, 41, 42, 43, 44, 45, 46, 47, 48] (by decide +kernel) (by decide +kernel)
set_option maxRecDepth 20000 in
theorem gX5_debt_X4_mints : GoodIn wsX5_debt (wsV RX5 115 RX4 yX4_mints wsX4_mints) := goodIn_app (goodIn_of _ (by decide +kernel)) ggX5_debt_X4_mints
theorem dX5_debt_0 : decode cX5_debt 0 = .ok (.aload_n 0, 1) := by decide +kernel
theorem dX5_debt_1 : decode cX5_debt 1 = .ok (.getfield 40, 3) := by decide +kernel
theorem dX5_debt_4 : decode cX5_debt 4 = .ok (.iload_n 1, 1) := by decide +kernel
theorem dX5_debt_5 : decode cX5_debt 5 = .ok (.invokevirtual 90, 3) := by decide +kernel
theorem dX5_debt_8 : decode cX5_debt 8 = .ok (.ifCond .eq 21, 3) := by decide +kernel
theorem dX5_debt_11 : decode cX5_debt 11 = .ok (.iload_n 2, 1) := by decide +kernel
theorem dX5_debt_12 : decode cX5_debt 12 = .ok (.iconst 1, 1) := by decide +kernel
theorem dX5_debt_13 : decode cX5_debt 13 = .ok (.if_icmp .lt 16, 3) := by decide +kernel
theorem dX5_debt_16 : decode cX5_debt 16 = .ok (.iload_n 2, 1) := by decide +kernel
theorem dX5_debt_17 : decode cX5_debt 17 = .ok (.ldc 167, 2) := by decide +kernel
theorem dX5_debt_19 : decode cX5_debt 19 = .ok (.if_icmp .gt 10, 3) := by decide +kernel
theorem dX5_debt_22 : decode cX5_debt 22 = .ok (.iload_n 3, 1) := by decide +kernel
theorem dX5_debt_23 : decode cX5_debt 23 = .ok (.invokestatic 137, 3) := by decide +kernel
theorem dX5_debt_26 : decode cX5_debt 26 = .ok (.ifCond .ne 5, 3) := by decide +kernel
theorem dX5_debt_29 : decode cX5_debt 29 = .ok (.iconst (-1), 1) := by decide +kernel
theorem dX5_debt_30 : decode cX5_debt 30 = .ok (.ireturn, 1) := by decide +kernel
theorem dX5_debt_31 : decode cX5_debt 31 = .ok (.aload_n 0, 1) := by decide +kernel
theorem dX5_debt_32 : decode cX5_debt 32 = .ok (.getfield 40, 3) := by decide +kernel
theorem dX5_debt_35 : decode cX5_debt 35 = .ok (.iload_n 1, 1) := by decide +kernel
theorem dX5_debt_36 : decode cX5_debt 36 = .ok (.invokevirtual 115, 3) := by decide +kernel
theorem dX5_debt_39 : decode cX5_debt 39 = .ok (.ifCond .ne 6, 3) := by decide +kernel
theorem dX5_debt_42 : decode cX5_debt 42 = .ok (.bipush (-2), 2) := by decide +kernel
theorem dX5_debt_44 : decode cX5_debt 44 = .ok (.ireturn, 1) := by decide +kernel
theorem dX5_debt_45 : decode cX5_debt 45 = .ok (.aload_n 0, 1) := by decide +kernel
theorem dX5_debt_46 : decode cX5_debt 46 = .ok (.getfield 40, 3) := by decide +kernel
theorem dX5_debt_49 : decode cX5_debt 49 = .ok (.getfield 128, 3) := by decide +kernel
theorem dX5_debt_52 : decode cX5_debt 52 = .ok (.aload_n 0, 1) := by decide +kernel
theorem dX5_debt_53 : decode cX5_debt 53 = .ok (.getfield 40, 3) := by decide +kernel
theorem dX5_debt_56 : decode cX5_debt 56 = .ok (.getfield 95, 3) := by decide +kernel
theorem dX5_debt_59 : decode cX5_debt 59 = .ok (.iload_n 1, 1) := by decide +kernel
theorem dX5_debt_60 : decode cX5_debt 60 = .ok (.iaload, 1) := by decide +kernel
theorem dX5_debt_61 : decode cX5_debt 61 = .ok (.if_icmp .ge 7, 3) := by decide +kernel
theorem dX5_debt_64 : decode cX5_debt 64 = .ok (.iconst 1, 1) := by decide +kernel
theorem dX5_debt_65 : decode cX5_debt 65 = .ok (.goto 4, 3) := by decide +kernel
theorem dX5_debt_68 : decode cX5_debt 68 = .ok (.iconst 0, 1) := by decide +kernel
theorem dX5_debt_69 : decode cX5_debt 69 = .ok (.istore 4, 2) := by decide +kernel
theorem dX5_debt_71 : decode cX5_debt 71 = .ok (.iload_n 3, 1) := by decide +kernel
theorem dX5_debt_72 : decode cX5_debt 72 = .ok (.iconst 1, 1) := by decide +kernel
theorem dX5_debt_73 : decode cX5_debt 73 = .ok (.if_icmp .ne 14, 3) := by decide +kernel
theorem dX5_debt_76 : decode cX5_debt 76 = .ok (.iload 4, 2) := by decide +kernel
theorem dX5_debt_78 : decode cX5_debt 78 = .ok (.ifCond .eq 7, 3) := by decide +kernel
theorem dX5_debt_81 : decode cX5_debt 81 = .ok (.iconst 1, 1) := by decide +kernel
theorem dX5_debt_82 : decode cX5_debt 82 = .ok (.goto 4, 3) := by decide +kernel
theorem dX5_debt_85 : decode cX5_debt 85 = .ok (.iconst 0, 1) := by decide +kernel
theorem dX5_debt_86 : decode cX5_debt 86 = .ok (.ireturn, 1) := by decide +kernel
theorem dX5_debt_87 : decode cX5_debt 87 = .ok (.iload 4, 2) := by decide +kernel
theorem dX5_debt_89 : decode cX5_debt 89 = .ok (.ifCond .eq 33, 3) := by decide +kernel
theorem dX5_debt_92 : decode cX5_debt 92 = .ok (.iload_n 2, 1) := by decide +kernel
theorem dX5_debt_93 : decode cX5_debt 93 = .ok (.i2l, 1) := by decide +kernel
theorem dX5_debt_94 : decode cX5_debt 94 = .ok (.aload_n 0, 1) := by decide +kernel
theorem dX5_debt_95 : decode cX5_debt 95 = .ok (.getfield 40, 3) := by decide +kernel
theorem dX5_debt_98 : decode cX5_debt 98 = .ok (.getfield 128, 3) := by decide +kernel
theorem dX5_debt_101 : decode cX5_debt 101 = .ok (.i2l, 1) := by decide +kernel
theorem dX5_debt_102 : decode cX5_debt 102 = .ok (.lmul, 1) := by decide +kernel
theorem dX5_debt_103 : decode cX5_debt 103 = .ok (.iconst 1, 1) := by decide +kernel
theorem dX5_debt_104 : decode cX5_debt 104 = .ok (.aload_n 0, 1) := by decide +kernel
theorem dX5_debt_105 : decode cX5_debt 105 = .ok (.getfield 40, 3) := by decide +kernel
theorem dX5_debt_108 : decode cX5_debt 108 = .ok (.getfield 95, 3) := by decide +kernel
theorem dX5_debt_111 : decode cX5_debt 111 = .ok (.iload_n 1, 1) := by decide +kernel
theorem dX5_debt_112 : decode cX5_debt 112 = .ok (.iaload, 1) := by decide +kernel
theorem dX5_debt_113 : decode cX5_debt 113 = .ok (.invokestatic 168, 3) := by decide +kernel
theorem dX5_debt_116 : decode cX5_debt 116 = .ok (.i2l, 1) := by decide +kernel
theorem dX5_debt_117 : decode cX5_debt 117 = .ok (.ldiv, 1) := by decide +kernel
theorem dX5_debt_118 : decode cX5_debt 118 = .ok (.l2i, 1) := by decide +kernel
theorem dX5_debt_119 : decode cX5_debt 119 = .ok (.goto 4, 3) := by decide +kernel
theorem dX5_debt_122 : decode cX5_debt 122 = .ok (.iload_n 2, 1) := by decide +kernel
theorem dX5_debt_123 : decode cX5_debt 123 = .ok (.ireturn, 1) := by decide +kernel
set_option maxRecDepth 20000 in
theorem ggX5_pact_X5_isLaw : GoodIn wsX5_pact wsX5_isLaw := goodIn_r _ [8, 9] (by decide +kernel) (by decide +kernel)
set_option maxRecDepth 20000 in
theorem gX5_pact_X5_isLaw : GoodIn wsX5_pact (va_wsS RX5 177 yX5_isLaw wsX5_isLaw) := goodIn_app (goodIn_of _ (by decide +kernel)) ggX5_pact_X5_isLaw
set_option maxRecDepth 20000 in
theorem ggX5_pact_X5_isZeroOrOne : GoodIn wsX5_pact wsX5_isZeroOrOne := goodIn_r _ [12] (by decide +kernel) (by decide +kernel)
set_option maxRecDepth 20000 in
theorem gX5_pact_X5_isZeroOrOne : GoodIn wsX5_pact (va_wsS RX5 137 yX5_isZeroOrOne wsX5_isZeroOrOne) := goodIn_app (goodIn_of _ (by decide +kernel)) ggX5_pact_X5_isZeroOrOne
set_option maxRecDepth 20000 in
theorem ggX5_pact_X5_tryPact : GoodIn wsX5_pact wsX5_tryPact := goodIn_r _ [16, 3, 1, 17, 18, 19, 20, 21, 22, 23, 24, 25, 26, 27, 28, 29, 30, 31, 32, 33, 34, 35, 36, 37, 38, 39, 40, 41, 42, 43, 44, 45, 46, 47, 48, 49, 50, 51, 52, 53, 54, 55, 56, 57, 58, 59, 60, 61, 62, 63, 64, 65, 66, 67, 68, 69, 70, 71, 72, 73, 74, 75, 76, 77, 78, 79, 80, 81, 82, 83, 84, 85, 86, 87, 88, 89, 90, 91, 92, 93, 94, 95, 96, 97, 98, 99, 100, 101, 102, 103, 104, 105, 106, 107, 108, 109, 110, 111, 112, 113, 114, 115, 116, 117, 118, 119, 128, 129, 130, 131, 132, 133, 134, 135, 136, 137, 138, 139, 140, 141, 142, 143, 144, 145, 146, 147, 148, 149, 150, 151, 152, 153, 154] (by decide +kernel) (by decide +kernel)
set_option maxRecDepth 20000 in
theorem gX5_pact_X5_tryPact : GoodIn wsX5_pact (wsV RX5 180 RX5 yX5_tryPact wsX5_tryPact) := goodIn_app (goodIn_of _ (by decide +kernel)) ggX5_pact_X5_tryPact
set_option maxRecDepth 20000 in
theorem ggX5_pact_X5_allHold : GoodIn wsX5_pact wsX5_allHold := goodIn_r _ [123, 3, 124, 125, 126, 21, 127, 42, 32, 33, 84, 85, 86, 87, 37, 92, 93, 94, 95, 34, 96, 97, 98, 99, 35, 23, 128, 129, 130, 131, 132, 133, 134, 135, 136, 137, 138, 139, 140, 141, 142, 143, 144, 145, 146, 147, 148, 149, 150, 151, 152] (by decide +kernel) (by decide +kernel)
set_option maxRecDepth 20000 in
theorem gX5_pact_X5_allHold : GoodIn wsX5_pact (wsV RX5 183 RX5 yX5_allHold wsX5_allHold) := goodIn_app (goodIn_of _ (by decide +kernel)) ggX5_pact_X5_allHold
theorem dX5_pact_0 : decode cX5_pact 0 = .ok (.iload_n 1, 1) := by decide +kernel
theorem dX5_pact_1 : decode cX5_pact 1 = .ok (.ifCond .eq 21, 3) := by decide +kernel
theorem dX5_pact_4 : decode cX5_pact 4 = .ok (.iload_n 1, 1) := by decide +kernel
theorem dX5_pact_5 : decode cX5_pact 5 = .ok (.aload_n 0, 1) := by decide +kernel
theorem dX5_pact_6 : decode cX5_pact 6 = .ok (.getfield 40, 3) := by decide +kernel
theorem dX5_pact_9 : decode cX5_pact 9 = .ok (.getfield 174, 3) := by decide +kernel
theorem dX5_pact_12 : decode cX5_pact 12 = .ok (.iconst (-1), 1) := by decide +kernel
theorem dX5_pact_13 : decode cX5_pact 13 = .ok (.ixor, 1) := by decide +kernel
theorem dX5_pact_14 : decode cX5_pact 14 = .ok (.iand, 1) := by decide +kernel
theorem dX5_pact_15 : decode cX5_pact 15 = .ok (.ifCond .ne 7, 3) := by decide +kernel
theorem dX5_pact_18 : decode cX5_pact 18 = .ok (.iconst 1, 1) := by decide +kernel
theorem dX5_pact_19 : decode cX5_pact 19 = .ok (.goto 4, 3) := by decide +kernel
theorem dX5_pact_22 : decode cX5_pact 22 = .ok (.iconst 0, 1) := by decide +kernel
theorem dX5_pact_23 : decode cX5_pact 23 = .ok (.istore 4, 2) := by decide +kernel
theorem dX5_pact_25 : decode cX5_pact 25 = .ok (.iload 4, 2) := by decide +kernel
theorem dX5_pact_27 : decode cX5_pact 27 = .ok (.ifCond .eq 17, 3) := by decide +kernel
theorem dX5_pact_30 : decode cX5_pact 30 = .ok (.iload_n 2, 1) := by decide +kernel
theorem dX5_pact_31 : decode cX5_pact 31 = .ok (.invokestatic 177, 3) := by decide +kernel
theorem dX5_pact_34 : decode cX5_pact 34 = .ok (.ifCond .eq 10, 3) := by decide +kernel
theorem dX5_pact_37 : decode cX5_pact 37 = .ok (.iload_n 3, 1) := by decide +kernel
theorem dX5_pact_38 : decode cX5_pact 38 = .ok (.invokestatic 137, 3) := by decide +kernel
theorem dX5_pact_41 : decode cX5_pact 41 = .ok (.ifCond .ne 5, 3) := by decide +kernel
theorem dX5_pact_44 : decode cX5_pact 44 = .ok (.iconst (-1), 1) := by decide +kernel
theorem dX5_pact_45 : decode cX5_pact 45 = .ok (.ireturn, 1) := by decide +kernel
theorem dX5_pact_46 : decode cX5_pact 46 = .ok (.aload_n 0, 1) := by decide +kernel
theorem dX5_pact_47 : decode cX5_pact 47 = .ok (.iload_n 1, 1) := by decide +kernel
theorem dX5_pact_48 : decode cX5_pact 48 = .ok (.iload_n 2, 1) := by decide +kernel
theorem dX5_pact_49 : decode cX5_pact 49 = .ok (.invokevirtual 180, 3) := by decide +kernel
theorem dX5_pact_52 : decode cX5_pact 52 = .ok (.bipush (-5), 2) := by decide +kernel
theorem dX5_pact_54 : decode cX5_pact 54 = .ok (.if_icmp .ne 6, 3) := by decide +kernel
theorem dX5_pact_57 : decode cX5_pact 57 = .ok (.bipush (-5), 2) := by decide +kernel
theorem dX5_pact_59 : decode cX5_pact 59 = .ok (.ireturn, 1) := by decide +kernel
theorem dX5_pact_60 : decode cX5_pact 60 = .ok (.iload_n 3, 1) := by decide +kernel
theorem dX5_pact_61 : decode cX5_pact 61 = .ok (.iconst 1, 1) := by decide +kernel
theorem dX5_pact_62 : decode cX5_pact 62 = .ok (.if_icmp .ne 11, 3) := by decide +kernel
theorem dX5_pact_65 : decode cX5_pact 65 = .ok (.aload_n 0, 1) := by decide +kernel
theorem dX5_pact_66 : decode cX5_pact 66 = .ok (.getfield 44, 3) := by decide +kernel
theorem dX5_pact_69 : decode cX5_pact 69 = .ok (.getfield 128, 3) := by decide +kernel
theorem dX5_pact_72 : decode cX5_pact 72 = .ok (.ireturn, 1) := by decide +kernel
theorem dX5_pact_73 : decode cX5_pact 73 = .ok (.aload_n 0, 1) := by decide +kernel
theorem dX5_pact_74 : decode cX5_pact 74 = .ok (.iload_n 1, 1) := by decide +kernel
theorem dX5_pact_75 : decode cX5_pact 75 = .ok (.invokevirtual 183, 3) := by decide +kernel
theorem dX5_pact_78 : decode cX5_pact 78 = .ok (.ifCond .eq 7, 3) := by decide +kernel
theorem dX5_pact_81 : decode cX5_pact 81 = .ok (.iconst 1, 1) := by decide +kernel
theorem dX5_pact_82 : decode cX5_pact 82 = .ok (.goto 4, 3) := by decide +kernel
theorem dX5_pact_85 : decode cX5_pact 85 = .ok (.iconst 0, 1) := by decide +kernel
theorem dX5_pact_86 : decode cX5_pact 86 = .ok (.ireturn, 1) := by decide +kernel
set_option maxRecDepth 20000 in
theorem ggX5_fewest_X5_isLaw : GoodIn wsX5_fewest wsX5_isLaw := goodIn_r _ [6, 7] (by decide +kernel) (by decide +kernel)
set_option maxRecDepth 20000 in
theorem gX5_fewest_X5_isLaw : GoodIn wsX5_fewest (va_wsS RX5 177 yX5_isLaw wsX5_isLaw) := goodIn_app (goodIn_of _ (by decide +kernel)) ggX5_fewest_X5_isLaw
set_option maxRecDepth 20000 in
theorem ggX5_fewest_J6_bitCount_0f7a4 : GoodIn wsX5_fewest wsJ6_bitCount_0f7a4 := goodIn_r _ [11, 12, 13, 14] (by decide +kernel) (by decide +kernel)
set_option maxRecDepth 20000 in
theorem gX5_fewest_J6_bitCount_0f7a4 : GoodIn wsX5_fewest (va_wsS RX5 84 yJ6_bitCount_0f7a4 wsJ6_bitCount_0f7a4) := goodIn_app (goodIn_of _ (by decide +kernel)) ggX5_fewest_J6_bitCount_0f7a4
set_option maxRecDepth 20000 in
theorem ggX5_fewest_X5_tryPact : GoodIn wsX5_fewest wsX5_tryPact := goodIn_r _ [18, 19, 1, 20, 21, 22, 23, 24, 25, 26, 27, 28, 29, 30, 31, 32, 33, 34, 35, 36, 37, 38, 39, 40, 41, 42, 43, 44, 45, 46, 47, 48, 49, 50, 51, 52, 53, 54, 55, 56, 57, 58, 59, 60, 61, 62, 63, 64, 65, 66, 67, 68, 69, 70, 71, 72, 73, 74, 75, 76, 77, 78, 79, 80, 81, 82, 83, 84, 85, 86, 87, 88, 89, 90, 91, 92, 93, 94, 95, 96, 97, 98, 99, 100, 101, 102, 103, 104, 105, 106, 107, 108, 109, 110, 111, 112, 113, 114, 115, 116, 9, 10, 11, 12, 13, 14, 125, 126, 127, 128, 129, 130, 131, 132, 133, 134, 135, 136, 137, 138, 139, 140, 141, 142, 143, 144, 145, 146, 147, 148, 149, 150, 151] (by decide +kernel) (by decide +kernel)
set_option maxRecDepth 20000 in
theorem gX5_fewest_X5_tryPact : GoodIn wsX5_fewest (wsV RX5 180 RX5 yX5_tryPact wsX5_tryPact) := goodIn_app (goodIn_of _ (by decide +kernel)) ggX5_fewest_X5_tryPact
set_option maxRecDepth 20000 in
theorem ggX5_fewest_X5_allHold : GoodIn wsX5_fewest wsX5_allHold := goodIn_r _ [120, 19, 121, 122, 123, 24, 124, 45, 35, 36, 87, 88, 89, 90, 40, 95, 96, 97, 98, 37, 99, 100, 101, 102, 38, 26, 125, 126, 127, 128, 129, 130, 131, 132, 133, 134, 135, 136, 137, 138, 139, 140, 141, 142, 143, 144, 145, 146, 147, 148, 149] (by decide +kernel) (by decide +kernel)
set_option maxRecDepth 20000 in
theorem gX5_fewest_X5_allHold : GoodIn wsX5_fewest (wsV RX5 183 RX5 yX5_allHold wsX5_allHold) := goodIn_app (goodIn_of _ (by decide +kernel)) ggX5_fewest_X5_allHold
theorem dX5_fewest_0 : decode cX5_fewest 0 = .ok (.iload_n 1, 1) := by decide +kernel
theorem dX5_fewest_1 : decode cX5_fewest 1 = .ok (.invokestatic 177, 3) := by decide +kernel
theorem dX5_fewest_4 : decode cX5_fewest 4 = .ok (.ifCond .ne 5, 3) := by decide +kernel
theorem dX5_fewest_7 : decode cX5_fewest 7 = .ok (.iconst (-1), 1) := by decide +kernel
theorem dX5_fewest_8 : decode cX5_fewest 8 = .ok (.ireturn, 1) := by decide +kernel
theorem dX5_fewest_9 : decode cX5_fewest 9 = .ok (.iconst 1, 1) := by decide +kernel
theorem dX5_fewest_10 : decode cX5_fewest 10 = .ok (.istore_n 2, 1) := by decide +kernel
theorem dX5_fewest_11 : decode cX5_fewest 11 = .ok (.iload_n 2, 1) := by decide +kernel
theorem dX5_fewest_12 : decode cX5_fewest 12 = .ok (.bipush 8, 2) := by decide +kernel
theorem dX5_fewest_14 : decode cX5_fewest 14 = .ok (.if_icmp .gt 79, 3) := by decide +kernel
theorem dX5_fewest_17 : decode cX5_fewest 17 = .ok (.iconst 1, 1) := by decide +kernel
theorem dX5_fewest_18 : decode cX5_fewest 18 = .ok (.istore_n 3, 1) := by decide +kernel
theorem dX5_fewest_19 : decode cX5_fewest 19 = .ok (.iload_n 3, 1) := by decide +kernel
theorem dX5_fewest_20 : decode cX5_fewest 20 = .ok (.sipush 256, 3) := by decide +kernel
theorem dX5_fewest_23 : decode cX5_fewest 23 = .ok (.if_icmp .ge 64, 3) := by decide +kernel
theorem dX5_fewest_26 : decode cX5_fewest 26 = .ok (.iload_n 3, 1) := by decide +kernel
theorem dX5_fewest_27 : decode cX5_fewest 27 = .ok (.invokestatic 84, 3) := by decide +kernel
theorem dX5_fewest_30 : decode cX5_fewest 30 = .ok (.iload_n 2, 1) := by decide +kernel
theorem dX5_fewest_31 : decode cX5_fewest 31 = .ok (.if_icmp .ne 21, 3) := by decide +kernel
theorem dX5_fewest_34 : decode cX5_fewest 34 = .ok (.iload_n 3, 1) := by decide +kernel
theorem dX5_fewest_35 : decode cX5_fewest 35 = .ok (.aload_n 0, 1) := by decide +kernel
theorem dX5_fewest_36 : decode cX5_fewest 36 = .ok (.getfield 40, 3) := by decide +kernel
theorem dX5_fewest_39 : decode cX5_fewest 39 = .ok (.getfield 174, 3) := by decide +kernel
theorem dX5_fewest_42 : decode cX5_fewest 42 = .ok (.iconst (-1), 1) := by decide +kernel
theorem dX5_fewest_43 : decode cX5_fewest 43 = .ok (.ixor, 1) := by decide +kernel
theorem dX5_fewest_44 : decode cX5_fewest 44 = .ok (.iand, 1) := by decide +kernel
theorem dX5_fewest_45 : decode cX5_fewest 45 = .ok (.ifCond .ne 7, 3) := by decide +kernel
theorem dX5_fewest_48 : decode cX5_fewest 48 = .ok (.iconst 1, 1) := by decide +kernel
theorem dX5_fewest_49 : decode cX5_fewest 49 = .ok (.goto 4, 3) := by decide +kernel
theorem dX5_fewest_52 : decode cX5_fewest 52 = .ok (.iconst 0, 1) := by decide +kernel
theorem dX5_fewest_53 : decode cX5_fewest 53 = .ok (.istore 4, 2) := by decide +kernel
theorem dX5_fewest_55 : decode cX5_fewest 55 = .ok (.iload 4, 2) := by decide +kernel
theorem dX5_fewest_57 : decode cX5_fewest 57 = .ok (.ifCond .eq 24, 3) := by decide +kernel
theorem dX5_fewest_60 : decode cX5_fewest 60 = .ok (.aload_n 0, 1) := by decide +kernel
theorem dX5_fewest_61 : decode cX5_fewest 61 = .ok (.iload_n 3, 1) := by decide +kernel
theorem dX5_fewest_62 : decode cX5_fewest 62 = .ok (.iload_n 1, 1) := by decide +kernel
theorem dX5_fewest_63 : decode cX5_fewest 63 = .ok (.invokevirtual 180, 3) := by decide +kernel
theorem dX5_fewest_66 : decode cX5_fewest 66 = .ok (.bipush (-5), 2) := by decide +kernel
theorem dX5_fewest_68 : decode cX5_fewest 68 = .ok (.if_icmp .eq 13, 3) := by decide +kernel
theorem dX5_fewest_71 : decode cX5_fewest 71 = .ok (.aload_n 0, 1) := by decide +kernel
theorem dX5_fewest_72 : decode cX5_fewest 72 = .ok (.iload_n 3, 1) := by decide +kernel
theorem dX5_fewest_73 : decode cX5_fewest 73 = .ok (.invokevirtual 183, 3) := by decide +kernel
theorem dX5_fewest_76 : decode cX5_fewest 76 = .ok (.ifCond .eq 5, 3) := by decide +kernel
theorem dX5_fewest_79 : decode cX5_fewest 79 = .ok (.iload_n 3, 1) := by decide +kernel
theorem dX5_fewest_80 : decode cX5_fewest 80 = .ok (.ireturn, 1) := by decide +kernel
theorem dX5_fewest_81 : decode cX5_fewest 81 = .ok (.iinc 3 1, 3) := by decide +kernel
theorem dX5_fewest_84 : decode cX5_fewest 84 = .ok (.goto (-65), 3) := by decide +kernel
theorem dX5_fewest_87 : decode cX5_fewest 87 = .ok (.iinc 2 1, 3) := by decide +kernel
theorem dX5_fewest_90 : decode cX5_fewest 90 = .ok (.goto (-79), 3) := by decide +kernel
theorem dX5_fewest_93 : decode cX5_fewest 93 = .ok (.bipush (-4), 2) := by decide +kernel
theorem dX5_fewest_95 : decode cX5_fewest 95 = .ok (.ireturn, 1) := by decide +kernel
set_option maxRecDepth 20000 in
theorem ggX5_bought_X4_has : GoodIn wsX5_bought wsX4_has := goodIn_r _ [10, 11, 120, 121, 122, 123, 124, 125, 126, 127, 128, 129, 130, 131, 132, 133, 134, 135, 136] (by decide +kernel) (by decide +kernel)
set_option maxRecDepth 20000 in
theorem gX5_bought_X4_has : GoodIn wsX5_bought (wsV RX5 90 RX4 yX4_has wsX4_has) := goodIn_app (goodIn_of _ (by decide +kernel)) ggX5_bought_X4_has
set_option maxRecDepth 20000 in
theorem ggX5_bought_X5_tryPurchase : GoodIn wsX5_bought wsX5_tryPurchase := goodIn_r _ [16, 3, 1, 2, 17, 18, 19, 20, 9, 21, 22, 23, 24, 25, 26, 27, 28, 29, 30, 31, 32, 33, 34, 11, 35, 36, 37, 38, 39, 40, 41, 42, 43, 44, 45, 46, 47, 48, 49, 50, 51, 52, 53, 54, 55, 56, 57, 58, 59, 60, 61, 62, 63, 64, 65, 66, 67, 68, 69, 70, 71, 72, 73, 74, 75, 76, 77, 78, 79, 80, 81, 82, 83, 84, 85, 86, 87, 88, 89, 90, 91, 92, 93, 94, 95, 96, 97, 98, 99, 100, 101, 102, 103, 104, 105, 106, 107, 108, 109, 110, 111, 112, 113, 114, 115, 116, 117, 118, 119, 120, 121, 122, 123, 124, 125, 126, 127, 128, 129, 130, 131, 132, 133, 134, 135, 136, 137, 138] (by decide +kernel) (by decide +kernel)
set_option maxRecDepth 20000 in
theorem gX5_bought_X5_tryPurchase : GoodIn wsX5_bought (wsV RX5 186 RX5 yX5_tryPurchase wsX5_tryPurchase) := goodIn_app (goodIn_of _ (by decide +kernel)) ggX5_bought_X5_tryPurchase
theorem dX5_bought_0 : decode cX5_bought 0 = .ok (.iload_n 1, 1) := by decide +kernel
theorem dX5_bought_1 : decode cX5_bought 1 = .ok (.ifCond .lt 32, 3) := by decide +kernel
theorem dX5_bought_4 : decode cX5_bought 4 = .ok (.iload_n 1, 1) := by decide +kernel
theorem dX5_bought_5 : decode cX5_bought 5 = .ok (.i2l, 1) := by decide +kernel
theorem dX5_bought_6 : decode cX5_bought 6 = .ok (.aload_n 0, 1) := by decide +kernel
theorem dX5_bought_7 : decode cX5_bought 7 = .ok (.getfield 40, 3) := by decide +kernel
theorem dX5_bought_10 : decode cX5_bought 10 = .ok (.getfield 121, 3) := by decide +kernel
theorem dX5_bought_13 : decode cX5_bought 13 = .ok (.lcmp, 1) := by decide +kernel
theorem dX5_bought_14 : decode cX5_bought 14 = .ok (.ifCond .gt 19, 3) := by decide +kernel
theorem dX5_bought_17 : decode cX5_bought 17 = .ok (.iload_n 2, 1) := by decide +kernel
theorem dX5_bought_18 : decode cX5_bought 18 = .ok (.iconst (-1), 1) := by decide +kernel
theorem dX5_bought_19 : decode cX5_bought 19 = .ok (.if_icmp .eq 16, 3) := by decide +kernel
theorem dX5_bought_22 : decode cX5_bought 22 = .ok (.aload_n 0, 1) := by decide +kernel
theorem dX5_bought_23 : decode cX5_bought 23 = .ok (.getfield 40, 3) := by decide +kernel
theorem dX5_bought_26 : decode cX5_bought 26 = .ok (.iload_n 2, 1) := by decide +kernel
theorem dX5_bought_27 : decode cX5_bought 27 = .ok (.invokevirtual 90, 3) := by decide +kernel
theorem dX5_bought_30 : decode cX5_bought 30 = .ok (.ifCond .ne 5, 3) := by decide +kernel
theorem dX5_bought_33 : decode cX5_bought 33 = .ok (.iconst (-1), 1) := by decide +kernel
theorem dX5_bought_34 : decode cX5_bought 34 = .ok (.ireturn, 1) := by decide +kernel
theorem dX5_bought_35 : decode cX5_bought 35 = .ok (.aload_n 0, 1) := by decide +kernel
theorem dX5_bought_36 : decode cX5_bought 36 = .ok (.iload_n 1, 1) := by decide +kernel
theorem dX5_bought_37 : decode cX5_bought 37 = .ok (.invokevirtual 186, 3) := by decide +kernel
theorem dX5_bought_40 : decode cX5_bought 40 = .ok (.bipush (-5), 2) := by decide +kernel
theorem dX5_bought_42 : decode cX5_bought 42 = .ok (.if_icmp .ne 6, 3) := by decide +kernel
theorem dX5_bought_45 : decode cX5_bought 45 = .ok (.bipush (-5), 2) := by decide +kernel
theorem dX5_bought_47 : decode cX5_bought 47 = .ok (.ireturn, 1) := by decide +kernel
theorem dX5_bought_48 : decode cX5_bought 48 = .ok (.iload_n 2, 1) := by decide +kernel
theorem dX5_bought_49 : decode cX5_bought 49 = .ok (.iconst (-1), 1) := by decide +kernel
theorem dX5_bought_50 : decode cX5_bought 50 = .ok (.if_icmp .ne 13, 3) := by decide +kernel
theorem dX5_bought_53 : decode cX5_bought 53 = .ok (.aload_n 0, 1) := by decide +kernel
theorem dX5_bought_54 : decode cX5_bought 54 = .ok (.getfield 44, 3) := by decide +kernel
theorem dX5_bought_57 : decode cX5_bought 57 = .ok (.getfield 128, 3) := by decide +kernel
theorem dX5_bought_60 : decode cX5_bought 60 = .ok (.goto 13, 3) := by decide +kernel
theorem dX5_bought_63 : decode cX5_bought 63 = .ok (.aload_n 0, 1) := by decide +kernel
theorem dX5_bought_64 : decode cX5_bought 64 = .ok (.getfield 44, 3) := by decide +kernel
theorem dX5_bought_67 : decode cX5_bought 67 = .ok (.getfield 105, 3) := by decide +kernel
theorem dX5_bought_70 : decode cX5_bought 70 = .ok (.iload_n 2, 1) := by decide +kernel
theorem dX5_bought_71 : decode cX5_bought 71 = .ok (.laload, 1) := by decide +kernel
theorem dX5_bought_72 : decode cX5_bought 72 = .ok (.l2i, 1) := by decide +kernel
theorem dX5_bought_73 : decode cX5_bought 73 = .ok (.ireturn, 1) := by decide +kernel
set_option maxRecDepth 20000 in
theorem ggX5_corner_X4_has : GoodIn wsX5_corner wsX4_has := goodIn_r _ [12, 13, 123, 124, 125, 126, 127, 128, 129, 130, 131, 132, 133, 134, 135, 136, 137, 138, 139] (by decide +kernel) (by decide +kernel)
set_option maxRecDepth 20000 in
theorem gX5_corner_X4_has : GoodIn wsX5_corner (wsV RX5 90 RX4 yX4_has wsX4_has) := goodIn_app (goodIn_of _ (by decide +kernel)) ggX5_corner_X4_has
set_option maxRecDepth 20000 in
theorem ggX5_corner_X4_mints : GoodIn wsX5_corner wsX4_mints := goodIn_r _ [17, 18, 123, 124, 125, 126, 127, 128, 129, 130, 131, 132, 133, 134, 135, 136, 137, 138, 139] (by decide +kernel) (by decide +kernel)
set_option maxRecDepth 20000 in
theorem gX5_corner_X4_mints : GoodIn wsX5_corner (wsV RX5 115 RX4 yX4_mints wsX4_mints) := goodIn_app (goodIn_of _ (by decide +kernel)) ggX5_corner_X4_mints
set_option maxRecDepth 20000 in
theorem ggX5_corner_X5_tryPurchase : GoodIn wsX5_corner wsX5_tryPurchase := goodIn_r _ [23, 7, 1, 2, 24, 25, 26, 27, 11, 28, 29, 30, 31, 32, 33, 34, 35, 36, 37, 38, 39, 40, 41, 13, 18, 42, 43, 44, 45, 46, 47, 48, 49, 50, 51, 52, 53, 54, 55, 56, 5, 57, 58, 59, 60, 61, 62, 63, 64, 65, 66, 67, 68, 69, 70, 71, 72, 73, 74, 75, 76, 77, 78, 79, 80, 81, 82, 83, 84, 85, 15, 16, 17, 86, 87, 88, 89, 90, 91, 92, 93, 94, 95, 96, 97, 98, 99, 100, 101, 102, 103, 104, 105, 106, 107, 108, 109, 110, 111, 112, 113, 115, 116, 117, 118, 119, 120, 121, 122, 123, 124, 125, 126, 127, 128, 129, 130, 131, 132, 133, 134, 135, 136, 137, 138, 139, 140, 141] (by decide +kernel) (by decide +kernel)
set_option maxRecDepth 20000 in
theorem gX5_corner_X5_tryPurchase : GoodIn wsX5_corner (wsV RX5 186 RX5 yX5_tryPurchase wsX5_tryPurchase) := goodIn_app (goodIn_of _ (by decide +kernel)) ggX5_corner_X5_tryPurchase
set_option maxRecDepth 20000 in
theorem ggX5_corner_X4_hasGold : GoodIn wsX5_corner wsX4_hasGold := goodIn_r _ [93, 40, 123, 124, 125, 126, 127, 128, 129, 130, 131, 132, 133, 134, 135, 136, 137, 138, 139] (by decide +kernel) (by decide +kernel)
set_option maxRecDepth 20000 in
theorem gX5_corner_X4_hasGold : GoodIn wsX5_corner (wsV RX5 161 RX4 yX4_hasGold wsX4_hasGold) := goodIn_app (goodIn_of _ (by decide +kernel)) ggX5_corner_X4_hasGold
theorem dX5_corner_0 : decode cX5_corner 0 = .ok (.aload_n 0, 1) := by decide +kernel
theorem dX5_corner_1 : decode cX5_corner 1 = .ok (.getfield 40, 3) := by decide +kernel
theorem dX5_corner_4 : decode cX5_corner 4 = .ok (.iload_n 1, 1) := by decide +kernel
theorem dX5_corner_5 : decode cX5_corner 5 = .ok (.invokevirtual 90, 3) := by decide +kernel
theorem dX5_corner_8 : decode cX5_corner 8 = .ok (.ifCond .ne 5, 3) := by decide +kernel
theorem dX5_corner_11 : decode cX5_corner 11 = .ok (.iconst (-1), 1) := by decide +kernel
theorem dX5_corner_12 : decode cX5_corner 12 = .ok (.ireturn, 1) := by decide +kernel
theorem dX5_corner_13 : decode cX5_corner 13 = .ok (.aload_n 0, 1) := by decide +kernel
theorem dX5_corner_14 : decode cX5_corner 14 = .ok (.getfield 40, 3) := by decide +kernel
theorem dX5_corner_17 : decode cX5_corner 17 = .ok (.iload_n 1, 1) := by decide +kernel
theorem dX5_corner_18 : decode cX5_corner 18 = .ok (.invokevirtual 115, 3) := by decide +kernel
theorem dX5_corner_21 : decode cX5_corner 21 = .ok (.ifCond .ne 6, 3) := by decide +kernel
theorem dX5_corner_24 : decode cX5_corner 24 = .ok (.bipush (-2), 2) := by decide +kernel
theorem dX5_corner_26 : decode cX5_corner 26 = .ok (.ireturn, 1) := by decide +kernel
theorem dX5_corner_27 : decode cX5_corner 27 = .ok (.aload_n 0, 1) := by decide +kernel
theorem dX5_corner_28 : decode cX5_corner 28 = .ok (.getfield 40, 3) := by decide +kernel
theorem dX5_corner_31 : decode cX5_corner 31 = .ok (.getfield 121, 3) := by decide +kernel
theorem dX5_corner_34 : decode cX5_corner 34 = .ok (.l2i, 1) := by decide +kernel
theorem dX5_corner_35 : decode cX5_corner 35 = .ok (.istore_n 2, 1) := by decide +kernel
theorem dX5_corner_36 : decode cX5_corner 36 = .ok (.iconst 0, 1) := by decide +kernel
theorem dX5_corner_37 : decode cX5_corner 37 = .ok (.istore_n 3, 1) := by decide +kernel
theorem dX5_corner_38 : decode cX5_corner 38 = .ok (.iload_n 3, 1) := by decide +kernel
theorem dX5_corner_39 : decode cX5_corner 39 = .ok (.bipush 32, 2) := by decide +kernel
theorem dX5_corner_41 : decode cX5_corner 41 = .ok (.if_icmp .ge 66, 3) := by decide +kernel
theorem dX5_corner_44 : decode cX5_corner 44 = .ok (.iload_n 3, 1) := by decide +kernel
theorem dX5_corner_45 : decode cX5_corner 45 = .ok (.ifCond .ne 7, 3) := by decide +kernel
theorem dX5_corner_48 : decode cX5_corner 48 = .ok (.iconst 0, 1) := by decide +kernel
theorem dX5_corner_49 : decode cX5_corner 49 = .ok (.goto 8, 3) := by decide +kernel
theorem dX5_corner_52 : decode cX5_corner 52 = .ok (.iconst 1, 1) := by decide +kernel
theorem dX5_corner_53 : decode cX5_corner 53 = .ok (.iload_n 3, 1) := by decide +kernel
theorem dX5_corner_54 : decode cX5_corner 54 = .ok (.iconst 1, 1) := by decide +kernel
theorem dX5_corner_55 : decode cX5_corner 55 = .ok (.isub, 1) := by decide +kernel
theorem dX5_corner_56 : decode cX5_corner 56 = .ok (.ishl, 1) := by decide +kernel
theorem dX5_corner_57 : decode cX5_corner 57 = .ok (.istore 4, 2) := by decide +kernel
theorem dX5_corner_59 : decode cX5_corner 59 = .ok (.iload 4, 2) := by decide +kernel
theorem dX5_corner_61 : decode cX5_corner 61 = .ok (.iload_n 2, 1) := by decide +kernel
theorem dX5_corner_62 : decode cX5_corner 62 = .ok (.invokestatic 189, 3) := by decide +kernel
theorem dX5_corner_65 : decode cX5_corner 65 = .ok (.istore 5, 2) := by decide +kernel
theorem dX5_corner_67 : decode cX5_corner 67 = .ok (.aload_n 0, 1) := by decide +kernel
theorem dX5_corner_68 : decode cX5_corner 68 = .ok (.iload 5, 2) := by decide +kernel
theorem dX5_corner_70 : decode cX5_corner 70 = .ok (.invokevirtual 186, 3) := by decide +kernel
theorem dX5_corner_73 : decode cX5_corner 73 = .ok (.bipush (-5), 2) := by decide +kernel
theorem dX5_corner_75 : decode cX5_corner 75 = .ok (.if_icmp .eq 17, 3) := by decide +kernel
theorem dX5_corner_78 : decode cX5_corner 78 = .ok (.aload_n 0, 1) := by decide +kernel
theorem dX5_corner_79 : decode cX5_corner 79 = .ok (.getfield 44, 3) := by decide +kernel
theorem dX5_corner_82 : decode cX5_corner 82 = .ok (.iload_n 1, 1) := by decide +kernel
theorem dX5_corner_83 : decode cX5_corner 83 = .ok (.invokevirtual 161, 3) := by decide +kernel
theorem dX5_corner_86 : decode cX5_corner 86 = .ok (.ifCond .ne 6, 3) := by decide +kernel
theorem dX5_corner_89 : decode cX5_corner 89 = .ok (.iload 5, 2) := by decide +kernel
theorem dX5_corner_91 : decode cX5_corner 91 = .ok (.ireturn, 1) := by decide +kernel
theorem dX5_corner_92 : decode cX5_corner 92 = .ok (.iload 5, 2) := by decide +kernel
theorem dX5_corner_94 : decode cX5_corner 94 = .ok (.iload_n 2, 1) := by decide +kernel
theorem dX5_corner_95 : decode cX5_corner 95 = .ok (.if_icmp .ne 6, 3) := by decide +kernel
theorem dX5_corner_98 : decode cX5_corner 98 = .ok (.bipush (-4), 2) := by decide +kernel
theorem dX5_corner_100 : decode cX5_corner 100 = .ok (.ireturn, 1) := by decide +kernel
theorem dX5_corner_101 : decode cX5_corner 101 = .ok (.iinc 3 1, 3) := by decide +kernel
theorem dX5_corner_104 : decode cX5_corner 104 = .ok (.goto (-66), 3) := by decide +kernel
theorem dX5_corner_107 : decode cX5_corner 107 = .ok (.bipush (-4), 2) := by decide +kernel
theorem dX5_corner_109 : decode cX5_corner 109 = .ok (.ireturn, 1) := by decide +kernel
set_option maxRecDepth 20000 in
theorem ggX5_move_X4_has : GoodIn wsX5_move wsX4_has := goodIn_r _ [7, 8, 40, 41, 42, 43, 44, 45, 46, 47, 48, 49, 50, 51, 52, 53, 54, 55, 56] (by decide +kernel) (by decide +kernel)
set_option maxRecDepth 20000 in
theorem gX5_move_X4_has : GoodIn wsX5_move (wsV RX5 90 RX4 yX4_has wsX4_has) := goodIn_app (goodIn_of _ (by decide +kernel)) ggX5_move_X4_has
set_option maxRecDepth 20000 in
theorem ggX5_move_X5_isLaw : GoodIn wsX5_move wsX5_isLaw := goodIn_r _ [12, 13] (by decide +kernel) (by decide +kernel)
set_option maxRecDepth 20000 in
theorem gX5_move_X5_isLaw : GoodIn wsX5_move (va_wsS RX5 177 yX5_isLaw wsX5_isLaw) := goodIn_app (goodIn_of _ (by decide +kernel)) ggX5_move_X5_isLaw
set_option maxRecDepth 20000 in
theorem ggX5_move_X4_setLaw : GoodIn wsX5_move wsX4_setLaw := goodIn_r _ [17, 18, 19, 20, 21, 22, 23, 24, 25, 26, 27, 28, 29, 30, 31, 40, 41, 42, 43, 44, 45, 46, 47, 48, 49, 50, 51, 52, 53, 54, 55, 56] (by decide +kernel) (by decide +kernel)
set_option maxRecDepth 20000 in
theorem gX5_move_X4_setLaw : GoodIn wsX5_move (wsV RX5 192 RX4 yX4_setLaw wsX4_setLaw) := goodIn_app (goodIn_of _ (by decide +kernel)) ggX5_move_X4_setLaw
theorem dX5_move_0 : decode cX5_move 0 = .ok (.aload_n 0, 1) := by decide +kernel
theorem dX5_move_1 : decode cX5_move 1 = .ok (.getfield 40, 3) := by decide +kernel
theorem dX5_move_4 : decode cX5_move 4 = .ok (.iload_n 1, 1) := by decide +kernel
theorem dX5_move_5 : decode cX5_move 5 = .ok (.invokevirtual 90, 3) := by decide +kernel
theorem dX5_move_8 : decode cX5_move 8 = .ok (.ifCond .eq 10, 3) := by decide +kernel
theorem dX5_move_11 : decode cX5_move 11 = .ok (.iload_n 2, 1) := by decide +kernel
theorem dX5_move_12 : decode cX5_move 12 = .ok (.invokestatic 177, 3) := by decide +kernel
theorem dX5_move_15 : decode cX5_move 15 = .ok (.ifCond .ne 5, 3) := by decide +kernel
theorem dX5_move_18 : decode cX5_move 18 = .ok (.iconst (-1), 1) := by decide +kernel
theorem dX5_move_19 : decode cX5_move 19 = .ok (.ireturn, 1) := by decide +kernel
theorem dX5_move_20 : decode cX5_move 20 = .ok (.aload_n 0, 1) := by decide +kernel
theorem dX5_move_21 : decode cX5_move 21 = .ok (.getfield 40, 3) := by decide +kernel
theorem dX5_move_24 : decode cX5_move 24 = .ok (.getfield 95, 3) := by decide +kernel
theorem dX5_move_27 : decode cX5_move 27 = .ok (.iload_n 1, 1) := by decide +kernel
theorem dX5_move_28 : decode cX5_move 28 = .ok (.iaload, 1) := by decide +kernel
theorem dX5_move_29 : decode cX5_move 29 = .ok (.istore_n 3, 1) := by decide +kernel
theorem dX5_move_30 : decode cX5_move 30 = .ok (.aload_n 0, 1) := by decide +kernel
theorem dX5_move_31 : decode cX5_move 31 = .ok (.getfield 40, 3) := by decide +kernel
theorem dX5_move_34 : decode cX5_move 34 = .ok (.iload_n 1, 1) := by decide +kernel
theorem dX5_move_35 : decode cX5_move 35 = .ok (.iload_n 2, 1) := by decide +kernel
theorem dX5_move_36 : decode cX5_move 36 = .ok (.invokevirtual 192, 3) := by decide +kernel
theorem dX5_move_39 : decode cX5_move 39 = .ok (.iload_n 3, 1) := by decide +kernel
theorem dX5_move_40 : decode cX5_move 40 = .ok (.ireturn, 1) := by decide +kernel
set_option maxRecDepth 20000 in
theorem ggX5_melted_X4_has : GoodIn wsX5_melted wsX4_has := goodIn_r _ [8, 9, 18, 19, 20, 21, 22, 23, 24, 25, 26, 27, 28, 29, 30, 31, 32, 33, 34] (by decide +kernel) (by decide +kernel)
set_option maxRecDepth 20000 in
theorem gX5_melted_X4_has : GoodIn wsX5_melted (wsV RX5 90 RX4 yX4_has wsX4_has) := goodIn_app (goodIn_of _ (by decide +kernel)) ggX5_melted_X4_has
theorem dX5_melted_0 : decode cX5_melted 0 = .ok (.iconst 0, 1) := by decide +kernel
theorem dX5_melted_1 : decode cX5_melted 1 = .ok (.istore_n 1, 1) := by decide +kernel
theorem dX5_melted_2 : decode cX5_melted 2 = .ok (.iconst 0, 1) := by decide +kernel
theorem dX5_melted_3 : decode cX5_melted 3 = .ok (.istore_n 2, 1) := by decide +kernel
theorem dX5_melted_4 : decode cX5_melted 4 = .ok (.iload_n 2, 1) := by decide +kernel
theorem dX5_melted_5 : decode cX5_melted 5 = .ok (.bipush 8, 2) := by decide +kernel
theorem dX5_melted_7 : decode cX5_melted 7 = .ok (.if_icmp .ge 45, 3) := by decide +kernel
theorem dX5_melted_10 : decode cX5_melted 10 = .ok (.aload_n 0, 1) := by decide +kernel
theorem dX5_melted_11 : decode cX5_melted 11 = .ok (.getfield 40, 3) := by decide +kernel
theorem dX5_melted_14 : decode cX5_melted 14 = .ok (.iload_n 2, 1) := by decide +kernel
theorem dX5_melted_15 : decode cX5_melted 15 = .ok (.invokevirtual 90, 3) := by decide +kernel
theorem dX5_melted_18 : decode cX5_melted 18 = .ok (.ifCond .eq 28, 3) := by decide +kernel
theorem dX5_melted_21 : decode cX5_melted 21 = .ok (.aload_n 0, 1) := by decide +kernel
theorem dX5_melted_22 : decode cX5_melted 22 = .ok (.getfield 40, 3) := by decide +kernel
theorem dX5_melted_25 : decode cX5_melted 25 = .ok (.getfield 128, 3) := by decide +kernel
theorem dX5_melted_28 : decode cX5_melted 28 = .ok (.aload_n 0, 1) := by decide +kernel
theorem dX5_melted_29 : decode cX5_melted 29 = .ok (.getfield 40, 3) := by decide +kernel
theorem dX5_melted_32 : decode cX5_melted 32 = .ok (.getfield 95, 3) := by decide +kernel
theorem dX5_melted_35 : decode cX5_melted 35 = .ok (.iload_n 2, 1) := by decide +kernel
theorem dX5_melted_36 : decode cX5_melted 36 = .ok (.iaload, 1) := by decide +kernel
theorem dX5_melted_37 : decode cX5_melted 37 = .ok (.if_icmp .le 9, 3) := by decide +kernel
theorem dX5_melted_40 : decode cX5_melted 40 = .ok (.iload_n 1, 1) := by decide +kernel
theorem dX5_melted_41 : decode cX5_melted 41 = .ok (.iconst 1, 1) := by decide +kernel
theorem dX5_melted_42 : decode cX5_melted 42 = .ok (.iload_n 2, 1) := by decide +kernel
theorem dX5_melted_43 : decode cX5_melted 43 = .ok (.ishl, 1) := by decide +kernel
theorem dX5_melted_44 : decode cX5_melted 44 = .ok (.ior, 1) := by decide +kernel
theorem dX5_melted_45 : decode cX5_melted 45 = .ok (.istore_n 1, 1) := by decide +kernel
theorem dX5_melted_46 : decode cX5_melted 46 = .ok (.iinc 2 1, 3) := by decide +kernel
theorem dX5_melted_49 : decode cX5_melted 49 = .ok (.goto (-45), 3) := by decide +kernel
theorem dX5_melted_52 : decode cX5_melted 52 = .ok (.iload_n 1, 1) := by decide +kernel
theorem dX5_melted_53 : decode cX5_melted 53 = .ok (.ireturn, 1) := by decide +kernel
set_option maxRecDepth 20000 in
theorem ggX5_keep_X4_copyFrom : GoodIn wsX5_keep wsX4_copyFrom := goodIn_r _ [8, 9, 10, 11, 12, 13, 14, 15, 16, 17, 18, 19, 20, 21, 22, 23, 24, 25, 26, 27, 28, 29, 38, 39, 40, 41, 42, 43, 44, 45, 46, 47, 48, 49, 50, 51, 52, 53, 54] (by decide +kernel) (by decide +kernel)
set_option maxRecDepth 20000 in
theorem gX5_keep_X4_copyFrom : GoodIn wsX5_keep (wsV RX5 73 RX4 yX4_copyFrom wsX4_copyFrom) := goodIn_app (goodIn_of _ (by decide +kernel)) ggX5_keep_X4_copyFrom
theorem dX5_keep_0 : decode cX5_keep 0 = .ok (.aload_n 0, 1) := by decide +kernel
theorem dX5_keep_1 : decode cX5_keep 1 = .ok (.getfield 51, 3) := by decide +kernel
theorem dX5_keep_4 : decode cX5_keep 4 = .ok (.iconst 2, 1) := by decide +kernel
theorem dX5_keep_5 : decode cX5_keep 5 = .ok (.if_icmp .lt 6, 3) := by decide +kernel
theorem dX5_keep_8 : decode cX5_keep 8 = .ok (.bipush (-3), 2) := by decide +kernel
theorem dX5_keep_10 : decode cX5_keep 10 = .ok (.ireturn, 1) := by decide +kernel
theorem dX5_keep_11 : decode cX5_keep 11 = .ok (.aload_n 0, 1) := by decide +kernel
theorem dX5_keep_12 : decode cX5_keep 12 = .ok (.getfield 47, 3) := by decide +kernel
theorem dX5_keep_15 : decode cX5_keep 15 = .ok (.aload_n 0, 1) := by decide +kernel
theorem dX5_keep_16 : decode cX5_keep 16 = .ok (.getfield 51, 3) := by decide +kernel
theorem dX5_keep_19 : decode cX5_keep 19 = .ok (.aaload, 1) := by decide +kernel
theorem dX5_keep_20 : decode cX5_keep 20 = .ok (.aload_n 0, 1) := by decide +kernel
theorem dX5_keep_21 : decode cX5_keep 21 = .ok (.getfield 40, 3) := by decide +kernel
theorem dX5_keep_24 : decode cX5_keep 24 = .ok (.invokevirtual 73, 3) := by decide +kernel
theorem dX5_keep_27 : decode cX5_keep 27 = .ok (.aload_n 0, 1) := by decide +kernel
theorem dX5_keep_28 : decode cX5_keep 28 = .ok (.dup, 1) := by decide +kernel
theorem dX5_keep_29 : decode cX5_keep 29 = .ok (.getfield 51, 3) := by decide +kernel
theorem dX5_keep_32 : decode cX5_keep 32 = .ok (.iconst 1, 1) := by decide +kernel
theorem dX5_keep_33 : decode cX5_keep 33 = .ok (.iadd, 1) := by decide +kernel
theorem dX5_keep_34 : decode cX5_keep 34 = .ok (.putfield 51, 3) := by decide +kernel
theorem dX5_keep_37 : decode cX5_keep 37 = .ok (.aload_n 0, 1) := by decide +kernel
theorem dX5_keep_38 : decode cX5_keep 38 = .ok (.getfield 51, 3) := by decide +kernel
theorem dX5_keep_41 : decode cX5_keep 41 = .ok (.ireturn, 1) := by decide +kernel
set_option maxRecDepth 20000 in
theorem ggX5_back_X4_copyFrom : GoodIn wsX5_back wsX4_copyFrom := goodIn_r _ [8, 9, 10, 11, 12, 13, 14, 15, 16, 17, 18, 19, 20, 21, 22, 23, 24, 25, 26, 27, 28, 29, 38, 39, 40, 41, 42, 43, 44, 45, 46, 47, 48, 49, 50, 51, 52, 53, 54] (by decide +kernel) (by decide +kernel)
set_option maxRecDepth 20000 in
theorem gX5_back_X4_copyFrom : GoodIn wsX5_back (wsV RX5 73 RX4 yX4_copyFrom wsX4_copyFrom) := goodIn_app (goodIn_of _ (by decide +kernel)) ggX5_back_X4_copyFrom
theorem dX5_back_0 : decode cX5_back 0 = .ok (.aload_n 0, 1) := by decide +kernel
theorem dX5_back_1 : decode cX5_back 1 = .ok (.getfield 51, 3) := by decide +kernel
theorem dX5_back_4 : decode cX5_back 4 = .ok (.ifCond .gt 6, 3) := by decide +kernel
theorem dX5_back_7 : decode cX5_back 7 = .ok (.bipush (-2), 2) := by decide +kernel
theorem dX5_back_9 : decode cX5_back 9 = .ok (.ireturn, 1) := by decide +kernel
theorem dX5_back_10 : decode cX5_back 10 = .ok (.aload_n 0, 1) := by decide +kernel
theorem dX5_back_11 : decode cX5_back 11 = .ok (.dup, 1) := by decide +kernel
theorem dX5_back_12 : decode cX5_back 12 = .ok (.getfield 51, 3) := by decide +kernel
theorem dX5_back_15 : decode cX5_back 15 = .ok (.iconst 1, 1) := by decide +kernel
theorem dX5_back_16 : decode cX5_back 16 = .ok (.isub, 1) := by decide +kernel
theorem dX5_back_17 : decode cX5_back 17 = .ok (.putfield 51, 3) := by decide +kernel
theorem dX5_back_20 : decode cX5_back 20 = .ok (.aload_n 0, 1) := by decide +kernel
theorem dX5_back_21 : decode cX5_back 21 = .ok (.getfield 40, 3) := by decide +kernel
theorem dX5_back_24 : decode cX5_back 24 = .ok (.aload_n 0, 1) := by decide +kernel
theorem dX5_back_25 : decode cX5_back 25 = .ok (.getfield 47, 3) := by decide +kernel
theorem dX5_back_28 : decode cX5_back 28 = .ok (.aload_n 0, 1) := by decide +kernel
theorem dX5_back_29 : decode cX5_back 29 = .ok (.getfield 51, 3) := by decide +kernel
theorem dX5_back_32 : decode cX5_back 32 = .ok (.aaload, 1) := by decide +kernel
theorem dX5_back_33 : decode cX5_back 33 = .ok (.invokevirtual 73, 3) := by decide +kernel
theorem dX5_back_36 : decode cX5_back 36 = .ok (.aload_n 0, 1) := by decide +kernel
theorem dX5_back_37 : decode cX5_back 37 = .ok (.getfield 51, 3) := by decide +kernel
theorem dX5_back_40 : decode cX5_back 40 = .ok (.ireturn, 1) := by decide +kernel
set_option maxRecDepth 20000 in
theorem ggX5_count_J6_bitCount_0f7a4 : GoodIn wsX5_count wsJ6_bitCount_0f7a4 := goodIn_r _ [10, 11, 12, 13] (by decide +kernel) (by decide +kernel)
set_option maxRecDepth 20000 in
theorem gX5_count_J6_bitCount_0f7a4 : GoodIn wsX5_count (va_wsS RX5 84 yJ6_bitCount_0f7a4 wsJ6_bitCount_0f7a4) := goodIn_app (goodIn_of _ (by decide +kernel)) ggX5_count_J6_bitCount_0f7a4
set_option maxRecDepth 20000 in
theorem ggX5_count_X4_goldInAll : GoodIn wsX5_count wsX4_goldInAll := goodIn_r _ [18, 19, 20, 21, 22, 23, 17, 24, 25, 34, 35, 36, 37, 38, 39, 40, 41, 42, 43, 44, 45, 46, 47, 48, 49, 50] (by decide +kernel) (by decide +kernel)
set_option maxRecDepth 20000 in
theorem gX5_count_X4_goldInAll : GoodIn wsX5_count (wsV RX5 196 RX4 yX4_goldInAll wsX4_goldInAll) := goodIn_app (goodIn_of _ (by decide +kernel)) ggX5_count_X4_goldInAll
theorem dX5_count_0 : decode cX5_count 0 = .ok (.iload_n 1, 1) := by decide +kernel
theorem dX5_count_1 : decode cX5_count 1 = .ok (.tableswitch 79 0 4 #[35, 46, 54, 65, 74], 35) := by decide +kernel
theorem dX5_count_36 : decode cX5_count 36 = .ok (.aload_n 0, 1) := by decide +kernel
theorem dX5_count_37 : decode cX5_count 37 = .ok (.getfield 40, 3) := by decide +kernel
theorem dX5_count_40 : decode cX5_count 40 = .ok (.getfield 81, 3) := by decide +kernel
theorem dX5_count_43 : decode cX5_count 43 = .ok (.invokestatic 84, 3) := by decide +kernel
theorem dX5_count_46 : decode cX5_count 46 = .ok (.ireturn, 1) := by decide +kernel
theorem dX5_count_47 : decode cX5_count 47 = .ok (.aload_n 0, 1) := by decide +kernel
theorem dX5_count_48 : decode cX5_count 48 = .ok (.getfield 10, 3) := by decide +kernel
theorem dX5_count_51 : decode cX5_count 51 = .ok (.getfield 63, 3) := by decide +kernel
theorem dX5_count_54 : decode cX5_count 54 = .ok (.ireturn, 1) := by decide +kernel
theorem dX5_count_55 : decode cX5_count 55 = .ok (.aload_n 0, 1) := by decide +kernel
theorem dX5_count_56 : decode cX5_count 56 = .ok (.getfield 40, 3) := by decide +kernel
theorem dX5_count_59 : decode cX5_count 59 = .ok (.getfield 174, 3) := by decide +kernel
theorem dX5_count_62 : decode cX5_count 62 = .ok (.invokestatic 84, 3) := by decide +kernel
theorem dX5_count_65 : decode cX5_count 65 = .ok (.ireturn, 1) := by decide +kernel
theorem dX5_count_66 : decode cX5_count 66 = .ok (.aload_n 0, 1) := by decide +kernel
theorem dX5_count_67 : decode cX5_count 67 = .ok (.getfield 40, 3) := by decide +kernel
theorem dX5_count_70 : decode cX5_count 70 = .ok (.invokevirtual 196, 3) := by decide +kernel
theorem dX5_count_73 : decode cX5_count 73 = .ok (.l2i, 1) := by decide +kernel
theorem dX5_count_74 : decode cX5_count 74 = .ok (.ireturn, 1) := by decide +kernel
theorem dX5_count_75 : decode cX5_count 75 = .ok (.aload_n 0, 1) := by decide +kernel
theorem dX5_count_76 : decode cX5_count 76 = .ok (.getfield 51, 3) := by decide +kernel
theorem dX5_count_79 : decode cX5_count 79 = .ok (.ireturn, 1) := by decide +kernel
theorem dX5_count_80 : decode cX5_count 80 = .ok (.iconst (-1), 1) := by decide +kernel
theorem dX5_count_81 : decode cX5_count 81 = .ok (.ireturn, 1) := by decide +kernel
set_option maxRecDepth 20000 in
theorem ggX5_tryPact_X4_copyFrom : GoodIn wsX5_tryPact wsX4_copyFrom := goodIn_r _ [8, 9, 10, 11, 12, 13, 14, 15, 16, 17, 18, 19, 20, 21, 22, 23, 24, 25, 26, 27, 28, 29, 114, 115, 116, 117, 118, 119, 120, 121, 122, 123, 124, 125, 126, 127, 128, 129, 130] (by decide +kernel) (by decide +kernel)
set_option maxRecDepth 20000 in
theorem gX5_tryPact_X4_copyFrom : GoodIn wsX5_tryPact (wsV RX5 73 RX4 yX4_copyFrom wsX4_copyFrom) := goodIn_app (goodIn_of _ (by decide +kernel)) ggX5_tryPact_X4_copyFrom
set_option maxRecDepth 20000 in
theorem ggX5_tryPact_X4_setLaw : GoodIn wsX5_tryPact wsX4_setLaw := goodIn_r _ [33, 9, 15, 34, 14, 35, 36, 37, 38, 18, 19, 39, 40, 41, 42, 114, 115, 116, 117, 118, 119, 120, 121, 122, 123, 124, 125, 126, 127, 128, 129, 130] (by decide +kernel) (by decide +kernel)
set_option maxRecDepth 20000 in
theorem gX5_tryPact_X4_setLaw : GoodIn wsX5_tryPact (wsV RX5 192 RX4 yX4_setLaw wsX4_setLaw) := goodIn_app (goodIn_of _ (by decide +kernel)) ggX5_tryPact_X4_setLaw
set_option maxRecDepth 20000 in
theorem ggX5_tryPact_X1_settle : GoodIn wsX5_tryPact wsX1_settle := goodIn_r _ [47, 48, 49, 50, 51, 52, 53, 54, 55, 56, 57, 46, 58, 59, 60, 61, 11, 12, 13, 62, 63, 64, 65, 66, 67, 68, 7, 69, 28, 19, 26, 9, 18, 25, 70, 71, 72, 73, 23, 74, 75, 76, 77, 24, 78, 79, 80, 81, 20, 82, 83, 84, 85, 21, 86, 87, 88, 89, 90, 91, 92, 93, 94, 27, 34, 39, 40, 41, 37, 42, 95, 96, 97, 98, 99, 100, 101, 102, 103, 104, 105, 131, 132, 114, 115, 116, 117, 118, 119, 120, 121, 122, 123, 124, 125, 126, 127, 128, 129, 130] (by decide +kernel) (by decide +kernel)
set_option maxRecDepth 20000 in
theorem gX5_tryPact_X1_settle : GoodIn wsX5_tryPact (wsV RX5 154 RX1 yX1_settle wsX1_settle) := goodIn_app (goodIn_of _ (by decide +kernel)) ggX5_tryPact_X1_settle
theorem dX5_tryPact_0 : decode cX5_tryPact 0 = .ok (.aload_n 0, 1) := by decide +kernel
theorem dX5_tryPact_1 : decode cX5_tryPact 1 = .ok (.getfield 44, 3) := by decide +kernel
theorem dX5_tryPact_4 : decode cX5_tryPact 4 = .ok (.aload_n 0, 1) := by decide +kernel
theorem dX5_tryPact_5 : decode cX5_tryPact 5 = .ok (.getfield 40, 3) := by decide +kernel
theorem dX5_tryPact_8 : decode cX5_tryPact 8 = .ok (.invokevirtual 73, 3) := by decide +kernel
theorem dX5_tryPact_11 : decode cX5_tryPact 11 = .ok (.iconst 0, 1) := by decide +kernel
theorem dX5_tryPact_12 : decode cX5_tryPact 12 = .ok (.istore_n 3, 1) := by decide +kernel
theorem dX5_tryPact_13 : decode cX5_tryPact 13 = .ok (.iload_n 3, 1) := by decide +kernel
theorem dX5_tryPact_14 : decode cX5_tryPact 14 = .ok (.bipush 8, 2) := by decide +kernel
theorem dX5_tryPact_16 : decode cX5_tryPact 16 = .ok (.if_icmp .ge 27, 3) := by decide +kernel
theorem dX5_tryPact_19 : decode cX5_tryPact 19 = .ok (.iload_n 1, 1) := by decide +kernel
theorem dX5_tryPact_20 : decode cX5_tryPact 20 = .ok (.iload_n 3, 1) := by decide +kernel
theorem dX5_tryPact_21 : decode cX5_tryPact 21 = .ok (.ishr, 1) := by decide +kernel
theorem dX5_tryPact_22 : decode cX5_tryPact 22 = .ok (.iconst 1, 1) := by decide +kernel
theorem dX5_tryPact_23 : decode cX5_tryPact 23 = .ok (.iand, 1) := by decide +kernel
theorem dX5_tryPact_24 : decode cX5_tryPact 24 = .ok (.iconst 1, 1) := by decide +kernel
theorem dX5_tryPact_25 : decode cX5_tryPact 25 = .ok (.if_icmp .ne 12, 3) := by decide +kernel
theorem dX5_tryPact_28 : decode cX5_tryPact 28 = .ok (.aload_n 0, 1) := by decide +kernel
theorem dX5_tryPact_29 : decode cX5_tryPact 29 = .ok (.getfield 44, 3) := by decide +kernel
theorem dX5_tryPact_32 : decode cX5_tryPact 32 = .ok (.iload_n 3, 1) := by decide +kernel
theorem dX5_tryPact_33 : decode cX5_tryPact 33 = .ok (.iload_n 2, 1) := by decide +kernel
theorem dX5_tryPact_34 : decode cX5_tryPact 34 = .ok (.invokevirtual 192, 3) := by decide +kernel
theorem dX5_tryPact_37 : decode cX5_tryPact 37 = .ok (.iinc 3 1, 3) := by decide +kernel
theorem dX5_tryPact_40 : decode cX5_tryPact 40 = .ok (.goto (-27), 3) := by decide +kernel
theorem dX5_tryPact_43 : decode cX5_tryPact 43 = .ok (.aload_n 0, 1) := by decide +kernel
theorem dX5_tryPact_44 : decode cX5_tryPact 44 = .ok (.getfield 26, 3) := by decide +kernel
theorem dX5_tryPact_47 : decode cX5_tryPact 47 = .ok (.aload_n 0, 1) := by decide +kernel
theorem dX5_tryPact_48 : decode cX5_tryPact 48 = .ok (.getfield 44, 3) := by decide +kernel
theorem dX5_tryPact_51 : decode cX5_tryPact 51 = .ok (.invokevirtual 154, 3) := by decide +kernel
theorem dX5_tryPact_54 : decode cX5_tryPact 54 = .ok (.ireturn, 1) := by decide +kernel
set_option maxRecDepth 20000 in
theorem ggX5_allHold_X4_holders : GoodIn wsX5_allHold wsX4_holders := goodIn_r _ [6, 7, 8, 9, 10, 11, 12, 5, 13, 14, 15, 16, 17, 18, 19, 20, 21, 22, 23, 24, 25, 34, 35, 36, 37, 38, 39, 40, 41, 42, 43, 44, 45, 46, 47, 48, 49, 50] (by decide +kernel) (by decide +kernel)
set_option maxRecDepth 20000 in
theorem gX5_allHold_X4_holders : GoodIn wsX5_allHold (wsV RX5 146 RX4 yX4_holders wsX4_holders) := goodIn_app (goodIn_of _ (by decide +kernel)) ggX5_allHold_X4_holders
theorem dX5_allHold_0 : decode cX5_allHold 0 = .ok (.iload_n 1, 1) := by decide +kernel
theorem dX5_allHold_1 : decode cX5_allHold 1 = .ok (.aload_n 0, 1) := by decide +kernel
theorem dX5_allHold_2 : decode cX5_allHold 2 = .ok (.getfield 44, 3) := by decide +kernel
theorem dX5_allHold_5 : decode cX5_allHold 5 = .ok (.invokevirtual 146, 3) := by decide +kernel
theorem dX5_allHold_8 : decode cX5_allHold 8 = .ok (.iconst (-1), 1) := by decide +kernel
theorem dX5_allHold_9 : decode cX5_allHold 9 = .ok (.ixor, 1) := by decide +kernel
theorem dX5_allHold_10 : decode cX5_allHold 10 = .ok (.iand, 1) := by decide +kernel
theorem dX5_allHold_11 : decode cX5_allHold 11 = .ok (.ifCond .ne 7, 3) := by decide +kernel
theorem dX5_allHold_14 : decode cX5_allHold 14 = .ok (.iconst 1, 1) := by decide +kernel
theorem dX5_allHold_15 : decode cX5_allHold 15 = .ok (.goto 4, 3) := by decide +kernel
theorem dX5_allHold_18 : decode cX5_allHold 18 = .ok (.iconst 0, 1) := by decide +kernel
theorem dX5_allHold_19 : decode cX5_allHold 19 = .ok (.ireturn, 1) := by decide +kernel
set_option maxRecDepth 20000 in
theorem ggX5_tryPurchase_X4_copyFrom : GoodIn wsX5_tryPurchase wsX4_copyFrom := goodIn_r _ [9, 10, 11, 12, 13, 14, 15, 16, 17, 18, 19, 20, 21, 22, 23, 24, 25, 26, 27, 28, 29, 30, 109, 110, 111, 112, 113, 114, 115, 116, 117, 118, 119, 120, 121, 122, 123, 124, 125] (by decide +kernel) (by decide +kernel)
set_option maxRecDepth 20000 in
theorem gX5_tryPurchase_X4_copyFrom : GoodIn wsX5_tryPurchase (wsV RX5 73 RX4 yX4_copyFrom wsX4_copyFrom) := goodIn_app (goodIn_of _ (by decide +kernel)) ggX5_tryPurchase_X4_copyFrom
set_option maxRecDepth 20000 in
theorem ggX5_tryPurchase_X4_weigh : GoodIn wsX5_tryPurchase wsX4_weigh := goodIn_r _ [34, 26, 35, 29, 28, 27, 36, 37, 38, 39, 40, 41, 109, 110, 111, 112, 113, 114, 115, 116, 117, 118, 119, 120, 121, 122, 123, 124, 125] (by decide +kernel) (by decide +kernel)
set_option maxRecDepth 20000 in
theorem gX5_tryPurchase_X4_weigh : GoodIn wsX5_tryPurchase (wsV RX5 200 RX4 yX4_weigh wsX4_weigh) := goodIn_app (goodIn_of _ (by decide +kernel)) ggX5_tryPurchase_X4_weigh
set_option maxRecDepth 20000 in
theorem ggX5_tryPurchase_X1_settle : GoodIn wsX5_tryPurchase wsX1_settle := goodIn_r _ [46, 47, 48, 49, 50, 51, 52, 53, 54, 55, 56, 45, 57, 58, 59, 60, 12, 13, 14, 61, 62, 63, 64, 65, 66, 67, 8, 68, 29, 20, 27, 10, 19, 26, 69, 70, 71, 72, 24, 73, 74, 75, 76, 25, 77, 78, 79, 80, 21, 81, 82, 83, 84, 22, 85, 86, 87, 88, 89, 32, 33, 34, 35, 28, 36, 37, 38, 39, 40, 41, 90, 91, 92, 93, 94, 95, 96, 97, 98, 99, 100, 126, 127, 109, 110, 111, 112, 113, 114, 115, 116, 117, 118, 119, 120, 121, 122, 123, 124, 125] (by decide +kernel) (by decide +kernel)
set_option maxRecDepth 20000 in
theorem gX5_tryPurchase_X1_settle : GoodIn wsX5_tryPurchase (wsV RX5 154 RX1 yX1_settle wsX1_settle) := goodIn_app (goodIn_of _ (by decide +kernel)) ggX5_tryPurchase_X1_settle
theorem dX5_tryPurchase_0 : decode cX5_tryPurchase 0 = .ok (.aload_n 0, 1) := by decide +kernel
theorem dX5_tryPurchase_1 : decode cX5_tryPurchase 1 = .ok (.getfield 44, 3) := by decide +kernel
theorem dX5_tryPurchase_4 : decode cX5_tryPurchase 4 = .ok (.aload_n 0, 1) := by decide +kernel
theorem dX5_tryPurchase_5 : decode cX5_tryPurchase 5 = .ok (.getfield 40, 3) := by decide +kernel
theorem dX5_tryPurchase_8 : decode cX5_tryPurchase 8 = .ok (.invokevirtual 73, 3) := by decide +kernel
theorem dX5_tryPurchase_11 : decode cX5_tryPurchase 11 = .ok (.aload_n 0, 1) := by decide +kernel
theorem dX5_tryPurchase_12 : decode cX5_tryPurchase 12 = .ok (.getfield 44, 3) := by decide +kernel
theorem dX5_tryPurchase_15 : decode cX5_tryPurchase 15 = .ok (.dup, 1) := by decide +kernel
theorem dX5_tryPurchase_16 : decode cX5_tryPurchase 16 = .ok (.getfield 121, 3) := by decide +kernel
theorem dX5_tryPurchase_19 : decode cX5_tryPurchase 19 = .ok (.iload_n 1, 1) := by decide +kernel
theorem dX5_tryPurchase_20 : decode cX5_tryPurchase 20 = .ok (.i2l, 1) := by decide +kernel
theorem dX5_tryPurchase_21 : decode cX5_tryPurchase 21 = .ok (.lsub, 1) := by decide +kernel
theorem dX5_tryPurchase_22 : decode cX5_tryPurchase 22 = .ok (.putfield 121, 3) := by decide +kernel
theorem dX5_tryPurchase_25 : decode cX5_tryPurchase 25 = .ok (.aload_n 0, 1) := by decide +kernel
theorem dX5_tryPurchase_26 : decode cX5_tryPurchase 26 = .ok (.getfield 44, 3) := by decide +kernel
theorem dX5_tryPurchase_29 : decode cX5_tryPurchase 29 = .ok (.invokevirtual 200, 3) := by decide +kernel
theorem dX5_tryPurchase_32 : decode cX5_tryPurchase 32 = .ok (.aload_n 0, 1) := by decide +kernel
theorem dX5_tryPurchase_33 : decode cX5_tryPurchase 33 = .ok (.getfield 26, 3) := by decide +kernel
theorem dX5_tryPurchase_36 : decode cX5_tryPurchase 36 = .ok (.aload_n 0, 1) := by decide +kernel
theorem dX5_tryPurchase_37 : decode cX5_tryPurchase 37 = .ok (.getfield 44, 3) := by decide +kernel
theorem dX5_tryPurchase_40 : decode cX5_tryPurchase 40 = .ok (.invokevirtual 154, 3) := by decide +kernel
theorem dX5_tryPurchase_43 : decode cX5_tryPurchase 43 = .ok (.ireturn, 1) := by decide +kernel
theorem dX5_isZeroOrOne_0 : decode cX5_isZeroOrOne 0 = .ok (.iload_n 0, 1) := by decide +kernel
theorem dX5_isZeroOrOne_1 : decode cX5_isZeroOrOne 1 = .ok (.ifCond .eq 8, 3) := by decide +kernel
theorem dX5_isZeroOrOne_4 : decode cX5_isZeroOrOne 4 = .ok (.iload_n 0, 1) := by decide +kernel
theorem dX5_isZeroOrOne_5 : decode cX5_isZeroOrOne 5 = .ok (.iconst 1, 1) := by decide +kernel
theorem dX5_isZeroOrOne_6 : decode cX5_isZeroOrOne 6 = .ok (.if_icmp .ne 7, 3) := by decide +kernel
theorem dX5_isZeroOrOne_9 : decode cX5_isZeroOrOne 9 = .ok (.iconst 1, 1) := by decide +kernel
theorem dX5_isZeroOrOne_10 : decode cX5_isZeroOrOne 10 = .ok (.goto 4, 3) := by decide +kernel
theorem dX5_isZeroOrOne_13 : decode cX5_isZeroOrOne 13 = .ok (.iconst 0, 1) := by decide +kernel
theorem dX5_isZeroOrOne_14 : decode cX5_isZeroOrOne 14 = .ok (.ireturn, 1) := by decide +kernel
theorem dX5_isSpanOfYears_0 : decode cX5_isSpanOfYears 0 = .ok (.iload_n 0, 1) := by decide +kernel
theorem dX5_isSpanOfYears_1 : decode cX5_isSpanOfYears 1 = .ok (.iconst 1, 1) := by decide +kernel
theorem dX5_isSpanOfYears_2 : decode cX5_isSpanOfYears 2 = .ok (.if_icmp .lt 13, 3) := by decide +kernel
theorem dX5_isSpanOfYears_5 : decode cX5_isSpanOfYears 5 = .ok (.iload_n 0, 1) := by decide +kernel
theorem dX5_isSpanOfYears_6 : decode cX5_isSpanOfYears 6 = .ok (.bipush 100, 2) := by decide +kernel
theorem dX5_isSpanOfYears_8 : decode cX5_isSpanOfYears 8 = .ok (.if_icmp .gt 7, 3) := by decide +kernel
theorem dX5_isSpanOfYears_11 : decode cX5_isSpanOfYears 11 = .ok (.iconst 1, 1) := by decide +kernel
theorem dX5_isSpanOfYears_12 : decode cX5_isSpanOfYears 12 = .ok (.goto 4, 3) := by decide +kernel
theorem dX5_isSpanOfYears_15 : decode cX5_isSpanOfYears 15 = .ok (.iconst 0, 1) := by decide +kernel
theorem dX5_isSpanOfYears_16 : decode cX5_isSpanOfYears 16 = .ok (.ireturn, 1) := by decide +kernel
theorem dX5_isLaw_0 : decode cX5_isLaw 0 = .ok (.iload_n 0, 1) := by decide +kernel
theorem dX5_isLaw_1 : decode cX5_isLaw 1 = .ok (.sipush 1000, 3) := by decide +kernel
theorem dX5_isLaw_4 : decode cX5_isLaw 4 = .ok (.if_icmp .lt 13, 3) := by decide +kernel
theorem dX5_isLaw_7 : decode cX5_isLaw 7 = .ok (.iload_n 0, 1) := by decide +kernel
theorem dX5_isLaw_8 : decode cX5_isLaw 8 = .ok (.ldc 203, 2) := by decide +kernel
theorem dX5_isLaw_10 : decode cX5_isLaw 10 = .ok (.if_icmp .gt 7, 3) := by decide +kernel
theorem dX5_isLaw_13 : decode cX5_isLaw 13 = .ok (.iconst 1, 1) := by decide +kernel
theorem dX5_isLaw_14 : decode cX5_isLaw 14 = .ok (.goto 4, 3) := by decide +kernel
theorem dX5_isLaw_17 : decode cX5_isLaw 17 = .ok (.iconst 0, 1) := by decide +kernel
theorem dX5_isLaw_18 : decode cX5_isLaw 18 = .ok (.ireturn, 1) := by decide +kernel
set_option maxRecDepth 20000 in
theorem ggX6_init_X6_noWorld : GoodIn wsX6_init wsX6_noWorld := goodIn_r _ [18, 7, 19, 8, 9, 10, 20, 21, 22, 23, 24, 25, 26, 27, 28, 29, 30] (by decide +kernel) (by decide +kernel)
set_option maxRecDepth 20000 in
theorem gX6_init_X6_noWorld : GoodIn wsX6_init (wsV RX6 35 RX6 yX6_noWorld wsX6_noWorld) := goodIn_app (goodIn_of _ (by decide +kernel)) ggX6_init_X6_noWorld
theorem dX6_init_0 : decode cX6_init 0 = .ok (.aload_n 0, 1) := by decide +kernel
theorem dX6_init_1 : decode cX6_init 1 = .ok (.invokespecial 1, 3) := by decide +kernel
theorem dX6_init_4 : decode cX6_init 4 = .ok (.aload_n 0, 1) := by decide +kernel
theorem dX6_init_5 : decode cX6_init 5 = .ok (.sipush 400, 3) := by decide +kernel
theorem dX6_init_8 : decode cX6_init 8 = .ok (.newarray .int, 2) := by decide +kernel
theorem dX6_init_10 : decode cX6_init 10 = .ok (.putfield 7, 3) := by decide +kernel
theorem dX6_init_13 : decode cX6_init 13 = .ok (.aload_n 0, 1) := by decide +kernel
theorem dX6_init_14 : decode cX6_init 14 = .ok (.sipush 360, 3) := by decide +kernel
theorem dX6_init_17 : decode cX6_init 17 = .ok (.newarray .long, 2) := by decide +kernel
theorem dX6_init_19 : decode cX6_init 19 = .ok (.putfield 13, 3) := by decide +kernel
theorem dX6_init_22 : decode cX6_init 22 = .ok (.aload_n 0, 1) := by decide +kernel
theorem dX6_init_23 : decode cX6_init 23 = .ok (.bipush 15, 2) := by decide +kernel
theorem dX6_init_25 : decode cX6_init 25 = .ok (.newarray .long, 2) := by decide +kernel
theorem dX6_init_27 : decode cX6_init 27 = .ok (.putfield 17, 3) := by decide +kernel
theorem dX6_init_30 : decode cX6_init 30 = .ok (.aload_n 0, 1) := by decide +kernel
theorem dX6_init_31 : decode cX6_init 31 = .ok (.iconst 2, 1) := by decide +kernel
theorem dX6_init_32 : decode cX6_init 32 = .ok (.newarray .int, 2) := by decide +kernel
theorem dX6_init_34 : decode cX6_init 34 = .ok (.putfield 20, 3) := by decide +kernel
theorem dX6_init_37 : decode cX6_init 37 = .ok (.aload_n 0, 1) := by decide +kernel
theorem dX6_init_38 : decode cX6_init 38 = .ok (.iconst 2, 1) := by decide +kernel
theorem dX6_init_39 : decode cX6_init 39 = .ok (.newarray .int, 2) := by decide +kernel
theorem dX6_init_41 : decode cX6_init 41 = .ok (.putfield 23, 3) := by decide +kernel
theorem dX6_init_44 : decode cX6_init 44 = .ok (.aload_n 0, 1) := by decide +kernel
theorem dX6_init_45 : decode cX6_init 45 = .ok (.sipush 360, 3) := by decide +kernel
theorem dX6_init_48 : decode cX6_init 48 = .ok (.newarray .int, 2) := by decide +kernel
theorem dX6_init_50 : decode cX6_init 50 = .ok (.putfield 26, 3) := by decide +kernel
theorem dX6_init_53 : decode cX6_init 53 = .ok (.aload_n 0, 1) := by decide +kernel
theorem dX6_init_54 : decode cX6_init 54 = .ok (.bipush 7, 2) := by decide +kernel
theorem dX6_init_56 : decode cX6_init 56 = .ok (.newarray .int, 2) := by decide +kernel
theorem dX6_init_58 : decode cX6_init 58 = .ok (.putfield 29, 3) := by decide +kernel
theorem dX6_init_61 : decode cX6_init 61 = .ok (.aload_n 0, 1) := by decide +kernel
theorem dX6_init_62 : decode cX6_init 62 = .ok (.bipush 8, 2) := by decide +kernel
theorem dX6_init_64 : decode cX6_init 64 = .ok (.newarray .int, 2) := by decide +kernel
theorem dX6_init_66 : decode cX6_init 66 = .ok (.putfield 32, 3) := by decide +kernel
theorem dX6_init_69 : decode cX6_init 69 = .ok (.aload_n 0, 1) := by decide +kernel
theorem dX6_init_70 : decode cX6_init 70 = .ok (.iconst 0, 1) := by decide +kernel
theorem dX6_init_71 : decode cX6_init 71 = .ok (.iconst 0, 1) := by decide +kernel
theorem dX6_init_72 : decode cX6_init 72 = .ok (.invokevirtual 35, 3) := by decide +kernel
theorem dX6_init_75 : decode cX6_init 75 = .ok (.return_, 1) := by decide +kernel
theorem dX6_in_0 : decode cX6_in 0 = .ok (.lload_n 0, 1) := by decide +kernel
theorem dX6_in_1 : decode cX6_in 1 = .ok (.lload_n 2, 1) := by decide +kernel
theorem dX6_in_2 : decode cX6_in 2 = .ok (.lcmp, 1) := by decide +kernel
theorem dX6_in_3 : decode cX6_in 3 = .ok (.ifCond .lt 14, 3) := by decide +kernel
theorem dX6_in_6 : decode cX6_in 6 = .ok (.lload_n 0, 1) := by decide +kernel
theorem dX6_in_7 : decode cX6_in 7 = .ok (.lload 4, 2) := by decide +kernel
theorem dX6_in_9 : decode cX6_in 9 = .ok (.lcmp, 1) := by decide +kernel
theorem dX6_in_10 : decode cX6_in 10 = .ok (.ifCond .gt 7, 3) := by decide +kernel
theorem dX6_in_13 : decode cX6_in 13 = .ok (.iconst 1, 1) := by decide +kernel
theorem dX6_in_14 : decode cX6_in 14 = .ok (.goto 4, 3) := by decide +kernel
theorem dX6_in_17 : decode cX6_in 17 = .ok (.iconst 0, 1) := by decide +kernel
theorem dX6_in_18 : decode cX6_in 18 = .ok (.ireturn, 1) := by decide +kernel
theorem dX6_has_0 : decode cX6_has 0 = .ok (.iload_n 0, 1) := by decide +kernel
end
section
theorem dX6_has_1 : decode cX6_has 1 = .ok (.iload_n 1, 1) := by decide +kernel
theorem dX6_has_2 : decode cX6_has 2 = .ok (.ishr, 1) := by decide +kernel
theorem dX6_has_3 : decode cX6_has 3 = .ok (.iconst 1, 1) := by decide +kernel
theorem dX6_has_4 : decode cX6_has 4 = .ok (.iand, 1) := by decide +kernel
theorem dX6_has_5 : decode cX6_has 5 = .ok (.iconst 1, 1) := by decide +kernel
theorem dX6_has_6 : decode cX6_has 6 = .ok (.if_icmp .ne 7, 3) := by decide +kernel
theorem dX6_has_9 : decode cX6_has 9 = .ok (.iconst 1, 1) := by decide +kernel
theorem dX6_has_10 : decode cX6_has 10 = .ok (.goto 4, 3) := by decide +kernel
theorem dX6_has_13 : decode cX6_has 13 = .ok (.iconst 0, 1) := by decide +kernel
theorem dX6_has_14 : decode cX6_has 14 = .ok (.ireturn, 1) := by decide +kernel
theorem dX6_bits_0 : decode cX6_bits 0 = .ok (.iconst 0, 1) := by decide +kernel
theorem dX6_bits_1 : decode cX6_bits 1 = .ok (.istore_n 1, 1) := by decide +kernel
theorem dX6_bits_2 : decode cX6_bits 2 = .ok (.iload_n 0, 1) := by decide +kernel
theorem dX6_bits_3 : decode cX6_bits 3 = .ok (.istore_n 2, 1) := by decide +kernel
theorem dX6_bits_4 : decode cX6_bits 4 = .ok (.iload_n 2, 1) := by decide +kernel
theorem dX6_bits_5 : decode cX6_bits 5 = .ok (.ifCond .eq 15, 3) := by decide +kernel
theorem dX6_bits_8 : decode cX6_bits 8 = .ok (.iinc 1 1, 3) := by decide +kernel
theorem dX6_bits_11 : decode cX6_bits 11 = .ok (.iload_n 2, 1) := by decide +kernel
theorem dX6_bits_12 : decode cX6_bits 12 = .ok (.iload_n 2, 1) := by decide +kernel
theorem dX6_bits_13 : decode cX6_bits 13 = .ok (.iconst 1, 1) := by decide +kernel
theorem dX6_bits_14 : decode cX6_bits 14 = .ok (.isub, 1) := by decide +kernel
theorem dX6_bits_15 : decode cX6_bits 15 = .ok (.iand, 1) := by decide +kernel
theorem dX6_bits_16 : decode cX6_bits 16 = .ok (.istore_n 2, 1) := by decide +kernel
theorem dX6_bits_17 : decode cX6_bits 17 = .ok (.goto (-13), 3) := by decide +kernel
theorem dX6_bits_20 : decode cX6_bits 20 = .ok (.iload_n 1, 1) := by decide +kernel
theorem dX6_bits_21 : decode cX6_bits 21 = .ok (.ireturn, 1) := by decide +kernel
theorem dX6_noWorld_0 : decode cX6_noWorld 0 = .ok (.iconst 0, 1) := by decide +kernel
theorem dX6_noWorld_1 : decode cX6_noWorld 1 = .ok (.istore_n 3, 1) := by decide +kernel
theorem dX6_noWorld_2 : decode cX6_noWorld 2 = .ok (.iload_n 3, 1) := by decide +kernel
theorem dX6_noWorld_3 : decode cX6_noWorld 3 = .ok (.bipush 72, 2) := by decide +kernel
theorem dX6_noWorld_5 : decode cX6_noWorld 5 = .ok (.if_icmp .ge 36, 3) := by decide +kernel
theorem dX6_noWorld_8 : decode cX6_noWorld 8 = .ok (.aload_n 0, 1) := by decide +kernel
theorem dX6_noWorld_9 : decode cX6_noWorld 9 = .ok (.getfield 13, 3) := by decide +kernel
theorem dX6_noWorld_12 : decode cX6_noWorld 12 = .ok (.bipush 72, 2) := by decide +kernel
theorem dX6_noWorld_14 : decode cX6_noWorld 14 = .ok (.iload_n 1, 1) := by decide +kernel
theorem dX6_noWorld_15 : decode cX6_noWorld 15 = .ok (.imul, 1) := by decide +kernel
theorem dX6_noWorld_16 : decode cX6_noWorld 16 = .ok (.iload_n 3, 1) := by decide +kernel
theorem dX6_noWorld_17 : decode cX6_noWorld 17 = .ok (.iadd, 1) := by decide +kernel
theorem dX6_noWorld_18 : decode cX6_noWorld 18 = .ok (.iload_n 3, 1) := by decide +kernel
theorem dX6_noWorld_19 : decode cX6_noWorld 19 = .ok (.bipush 9, 2) := by decide +kernel
theorem dX6_noWorld_21 : decode cX6_noWorld 21 = .ok (.irem, 1) := by decide +kernel
theorem dX6_noWorld_22 : decode cX6_noWorld 22 = .ok (.bipush 8, 2) := by decide +kernel
theorem dX6_noWorld_24 : decode cX6_noWorld 24 = .ok (.if_icmp .ne 9, 3) := by decide +kernel
theorem dX6_noWorld_27 : decode cX6_noWorld 27 = .ok (.ldc2_w 39, 3) := by decide +kernel
theorem dX6_noWorld_30 : decode cX6_noWorld 30 = .ok (.goto 4, 3) := by decide +kernel
theorem dX6_noWorld_33 : decode cX6_noWorld 33 = .ok (.lconst 0, 1) := by decide +kernel
theorem dX6_noWorld_34 : decode cX6_noWorld 34 = .ok (.lastore, 1) := by decide +kernel
theorem dX6_noWorld_35 : decode cX6_noWorld 35 = .ok (.iinc 3 1, 3) := by decide +kernel
theorem dX6_noWorld_38 : decode cX6_noWorld 38 = .ok (.goto (-36), 3) := by decide +kernel
theorem dX6_noWorld_41 : decode cX6_noWorld 41 = .ok (.iconst 0, 1) := by decide +kernel
theorem dX6_noWorld_42 : decode cX6_noWorld 42 = .ok (.istore_n 3, 1) := by decide +kernel
theorem dX6_noWorld_43 : decode cX6_noWorld 43 = .ok (.iload_n 3, 1) := by decide +kernel
theorem dX6_noWorld_44 : decode cX6_noWorld 44 = .ok (.iconst 3, 1) := by decide +kernel
theorem dX6_noWorld_45 : decode cX6_noWorld 45 = .ok (.if_icmp .ge 20, 3) := by decide +kernel
theorem dX6_noWorld_48 : decode cX6_noWorld 48 = .ok (.aload_n 0, 1) := by decide +kernel
theorem dX6_noWorld_49 : decode cX6_noWorld 49 = .ok (.getfield 17, 3) := by decide +kernel
theorem dX6_noWorld_52 : decode cX6_noWorld 52 = .ok (.iconst 3, 1) := by decide +kernel
theorem dX6_noWorld_53 : decode cX6_noWorld 53 = .ok (.iload_n 1, 1) := by decide +kernel
theorem dX6_noWorld_54 : decode cX6_noWorld 54 = .ok (.imul, 1) := by decide +kernel
theorem dX6_noWorld_55 : decode cX6_noWorld 55 = .ok (.iload_n 3, 1) := by decide +kernel
theorem dX6_noWorld_56 : decode cX6_noWorld 56 = .ok (.iadd, 1) := by decide +kernel
theorem dX6_noWorld_57 : decode cX6_noWorld 57 = .ok (.lconst 0, 1) := by decide +kernel
theorem dX6_noWorld_58 : decode cX6_noWorld 58 = .ok (.lastore, 1) := by decide +kernel
theorem dX6_noWorld_59 : decode cX6_noWorld 59 = .ok (.iinc 3 1, 3) := by decide +kernel
theorem dX6_noWorld_62 : decode cX6_noWorld 62 = .ok (.goto (-19), 3) := by decide +kernel
theorem dX6_noWorld_65 : decode cX6_noWorld 65 = .ok (.aload_n 0, 1) := by decide +kernel
theorem dX6_noWorld_66 : decode cX6_noWorld 66 = .ok (.getfield 20, 3) := by decide +kernel
theorem dX6_noWorld_69 : decode cX6_noWorld 69 = .ok (.iload_n 2, 1) := by decide +kernel
theorem dX6_noWorld_70 : decode cX6_noWorld 70 = .ok (.sipush 1000, 3) := by decide +kernel
theorem dX6_noWorld_73 : decode cX6_noWorld 73 = .ok (.iastore, 1) := by decide +kernel
theorem dX6_noWorld_74 : decode cX6_noWorld 74 = .ok (.aload_n 0, 1) := by decide +kernel
theorem dX6_noWorld_75 : decode cX6_noWorld 75 = .ok (.getfield 23, 3) := by decide +kernel
theorem dX6_noWorld_78 : decode cX6_noWorld 78 = .ok (.iload_n 2, 1) := by decide +kernel
theorem dX6_noWorld_79 : decode cX6_noWorld 79 = .ok (.iconst 0, 1) := by decide +kernel
theorem dX6_noWorld_80 : decode cX6_noWorld 80 = .ok (.iastore, 1) := by decide +kernel
theorem dX6_noWorld_81 : decode cX6_noWorld 81 = .ok (.return_, 1) := by decide +kernel
set_option maxRecDepth 20000 in
theorem ggX6_write_X6_in : GoodIn wsX6_write wsX6_in := goodIn_r _ [8] (by decide +kernel) (by decide +kernel)
set_option maxRecDepth 20000 in
theorem gX6_write_X6_in : GoodIn wsX6_write (va_wsS RX6 43 yX6_in wsX6_in) := goodIn_app (goodIn_of _ (by decide +kernel)) ggX6_write_X6_in
theorem dX6_write_0 : decode cX6_write 0 = .ok (.iload_n 1, 1) := by decide +kernel
theorem dX6_write_1 : decode cX6_write 1 = .ok (.i2l, 1) := by decide +kernel
theorem dX6_write_2 : decode cX6_write 2 = .ok (.lconst 1, 1) := by decide +kernel
theorem dX6_write_3 : decode cX6_write 3 = .ok (.ldc2_w 41, 3) := by decide +kernel
theorem dX6_write_6 : decode cX6_write 6 = .ok (.invokestatic 43, 3) := by decide +kernel
theorem dX6_write_9 : decode cX6_write 9 = .ok (.ifCond .ne 5, 3) := by decide +kernel
theorem dX6_write_12 : decode cX6_write 12 = .ok (.iconst (-1), 1) := by decide +kernel
theorem dX6_write_13 : decode cX6_write 13 = .ok (.ireturn, 1) := by decide +kernel
theorem dX6_write_14 : decode cX6_write 14 = .ok (.aload_n 0, 1) := by decide +kernel
theorem dX6_write_15 : decode cX6_write 15 = .ok (.getfield 47, 3) := by decide +kernel
theorem dX6_write_18 : decode cX6_write 18 = .ok (.iload_n 1, 1) := by decide +kernel
theorem dX6_write_19 : decode cX6_write 19 = .ok (.iadd, 1) := by decide +kernel
theorem dX6_write_20 : decode cX6_write 20 = .ok (.sipush 400, 3) := by decide +kernel
theorem dX6_write_23 : decode cX6_write 23 = .ok (.if_icmp .le 6, 3) := by decide +kernel
theorem dX6_write_26 : decode cX6_write 26 = .ok (.bipush (-3), 2) := by decide +kernel
theorem dX6_write_28 : decode cX6_write 28 = .ok (.ireturn, 1) := by decide +kernel
theorem dX6_write_29 : decode cX6_write 29 = .ok (.iload_n 1, 1) := by decide +kernel
theorem dX6_write_30 : decode cX6_write 30 = .ok (.iconst 1, 1) := by decide +kernel
theorem dX6_write_31 : decode cX6_write 31 = .ok (.isub, 1) := by decide +kernel
theorem dX6_write_32 : decode cX6_write 32 = .ok (.istore 4, 2) := by decide +kernel
theorem dX6_write_34 : decode cX6_write 34 = .ok (.iload 4, 2) := by decide +kernel
theorem dX6_write_36 : decode cX6_write 36 = .ok (.ifCond .lt 40, 3) := by decide +kernel
theorem dX6_write_39 : decode cX6_write 39 = .ok (.aload_n 0, 1) := by decide +kernel
theorem dX6_write_40 : decode cX6_write 40 = .ok (.getfield 7, 3) := by decide +kernel
theorem dX6_write_43 : decode cX6_write 43 = .ok (.aload_n 0, 1) := by decide +kernel
theorem dX6_write_44 : decode cX6_write 44 = .ok (.getfield 47, 3) := by decide +kernel
theorem dX6_write_47 : decode cX6_write 47 = .ok (.lload_n 2, 1) := by decide +kernel
theorem dX6_write_48 : decode cX6_write 48 = .ok (.bipush 8, 2) := by decide +kernel
theorem dX6_write_50 : decode cX6_write 50 = .ok (.iload 4, 2) := by decide +kernel
theorem dX6_write_52 : decode cX6_write 52 = .ok (.imul, 1) := by decide +kernel
theorem dX6_write_53 : decode cX6_write 53 = .ok (.lshr, 1) := by decide +kernel
theorem dX6_write_54 : decode cX6_write 54 = .ok (.ldc2_w 51, 3) := by decide +kernel
theorem dX6_write_57 : decode cX6_write 57 = .ok (.land, 1) := by decide +kernel
theorem dX6_write_58 : decode cX6_write 58 = .ok (.l2i, 1) := by decide +kernel
theorem dX6_write_59 : decode cX6_write 59 = .ok (.iastore, 1) := by decide +kernel
theorem dX6_write_60 : decode cX6_write 60 = .ok (.aload_n 0, 1) := by decide +kernel
theorem dX6_write_61 : decode cX6_write 61 = .ok (.dup, 1) := by decide +kernel
theorem dX6_write_62 : decode cX6_write 62 = .ok (.getfield 47, 3) := by decide +kernel
theorem dX6_write_65 : decode cX6_write 65 = .ok (.iconst 1, 1) := by decide +kernel
theorem dX6_write_66 : decode cX6_write 66 = .ok (.iadd, 1) := by decide +kernel
theorem dX6_write_67 : decode cX6_write 67 = .ok (.putfield 47, 3) := by decide +kernel
theorem dX6_write_70 : decode cX6_write 70 = .ok (.iinc 4 (-1), 3) := by decide +kernel
theorem dX6_write_73 : decode cX6_write 73 = .ok (.goto (-39), 3) := by decide +kernel
theorem dX6_write_76 : decode cX6_write 76 = .ok (.aload_n 0, 1) := by decide +kernel
theorem dX6_write_77 : decode cX6_write 77 = .ok (.getfield 47, 3) := by decide +kernel
theorem dX6_write_80 : decode cX6_write 80 = .ok (.ireturn, 1) := by decide +kernel
theorem dX6_wipe_0 : decode cX6_wipe 0 = .ok (.aload_n 0, 1) := by decide +kernel
theorem dX6_wipe_1 : decode cX6_wipe 1 = .ok (.getfield 47, 3) := by decide +kernel
theorem dX6_wipe_4 : decode cX6_wipe 4 = .ok (.istore_n 1, 1) := by decide +kernel
theorem dX6_wipe_5 : decode cX6_wipe 5 = .ok (.aload_n 0, 1) := by decide +kernel
theorem dX6_wipe_6 : decode cX6_wipe 6 = .ok (.iconst 0, 1) := by decide +kernel
theorem dX6_wipe_7 : decode cX6_wipe 7 = .ok (.putfield 47, 3) := by decide +kernel
theorem dX6_wipe_10 : decode cX6_wipe 10 = .ok (.iload_n 1, 1) := by decide +kernel
theorem dX6_wipe_11 : decode cX6_wipe 11 = .ok (.ireturn, 1) := by decide +kernel
theorem dX6_byteAt_0 : decode cX6_byteAt 0 = .ok (.iload_n 1, 1) := by decide +kernel
theorem dX6_byteAt_1 : decode cX6_byteAt 1 = .ok (.aload_n 0, 1) := by decide +kernel
theorem dX6_byteAt_2 : decode cX6_byteAt 2 = .ok (.getfield 47, 3) := by decide +kernel
theorem dX6_byteAt_5 : decode cX6_byteAt 5 = .ok (.if_icmp .ge 12, 3) := by decide +kernel
theorem dX6_byteAt_8 : decode cX6_byteAt 8 = .ok (.aload_n 0, 1) := by decide +kernel
theorem dX6_byteAt_9 : decode cX6_byteAt 9 = .ok (.getfield 7, 3) := by decide +kernel
theorem dX6_byteAt_12 : decode cX6_byteAt 12 = .ok (.iload_n 1, 1) := by decide +kernel
theorem dX6_byteAt_13 : decode cX6_byteAt 13 = .ok (.iaload, 1) := by decide +kernel
theorem dX6_byteAt_14 : decode cX6_byteAt 14 = .ok (.goto 4, 3) := by decide +kernel
theorem dX6_byteAt_17 : decode cX6_byteAt 17 = .ok (.iconst 0, 1) := by decide +kernel
theorem dX6_byteAt_18 : decode cX6_byteAt 18 = .ok (.ireturn, 1) := by decide +kernel
set_option maxRecDepth 20000 in
theorem ggX6_figures_X6_byteAt : GoodIn wsX6_figures wsX6_byteAt := goodIn_r _ [10, 11, 12, 16, 17, 18, 19, 20, 21, 22, 23, 24, 25, 26] (by decide +kernel) (by decide +kernel)
set_option maxRecDepth 20000 in
theorem gX6_figures_X6_byteAt : GoodIn wsX6_figures (wsV RX6 56 RX6 yX6_byteAt wsX6_byteAt) := goodIn_app (goodIn_of _ (by decide +kernel)) ggX6_figures_X6_byteAt
set_option maxRecDepth 20000 in
theorem ggX6_figures_X6_in : GoodIn wsX6_figures wsX6_in := goodIn_r _ [15] (by decide +kernel) (by decide +kernel)
set_option maxRecDepth 20000 in
theorem gX6_figures_X6_in : GoodIn wsX6_figures (va_wsS RX6 43 yX6_in wsX6_in) := goodIn_app (goodIn_of _ (by decide +kernel)) ggX6_figures_X6_in
theorem dX6_figures_0 : decode cX6_figures 0 = .ok (.iconst 0, 1) := by decide +kernel
theorem dX6_figures_1 : decode cX6_figures 1 = .ok (.istore_n 2, 1) := by decide +kernel
theorem dX6_figures_2 : decode cX6_figures 2 = .ok (.iload_n 2, 1) := by decide +kernel
theorem dX6_figures_3 : decode cX6_figures 3 = .ok (.iload_n 1, 1) := by decide +kernel
theorem dX6_figures_4 : decode cX6_figures 4 = .ok (.if_icmp .ge 133, 3) := by decide +kernel
theorem dX6_figures_7 : decode cX6_figures 7 = .ok (.iconst 0, 1) := by decide +kernel
theorem dX6_figures_8 : decode cX6_figures 8 = .ok (.istore_n 3, 1) := by decide +kernel
theorem dX6_figures_9 : decode cX6_figures 9 = .ok (.iconst 0, 1) := by decide +kernel
theorem dX6_figures_10 : decode cX6_figures 10 = .ok (.istore 4, 2) := by decide +kernel
theorem dX6_figures_12 : decode cX6_figures 12 = .ok (.aload_n 0, 1) := by decide +kernel
theorem dX6_figures_13 : decode cX6_figures 13 = .ok (.aload_n 0, 1) := by decide +kernel
theorem dX6_figures_14 : decode cX6_figures 14 = .ok (.getfield 53, 3) := by decide +kernel
theorem dX6_figures_17 : decode cX6_figures 17 = .ok (.invokevirtual 56, 3) := by decide +kernel
theorem dX6_figures_20 : decode cX6_figures 20 = .ok (.i2l, 1) := by decide +kernel
theorem dX6_figures_21 : decode cX6_figures 21 = .ok (.ldc2_w 60, 3) := by decide +kernel
theorem dX6_figures_24 : decode cX6_figures 24 = .ok (.ldc2_w 62, 3) := by decide +kernel
theorem dX6_figures_27 : decode cX6_figures 27 = .ok (.invokestatic 43, 3) := by decide +kernel
theorem dX6_figures_30 : decode cX6_figures 30 = .ok (.ifCond .eq 44, 3) := by decide +kernel
theorem dX6_figures_33 : decode cX6_figures 33 = .ok (.iload_n 3, 1) := by decide +kernel
theorem dX6_figures_34 : decode cX6_figures 34 = .ok (.bipush 6, 2) := by decide +kernel
theorem dX6_figures_36 : decode cX6_figures 36 = .ok (.if_icmp .ge 38, 3) := by decide +kernel
theorem dX6_figures_39 : decode cX6_figures 39 = .ok (.bipush 10, 2) := by decide +kernel
theorem dX6_figures_41 : decode cX6_figures 41 = .ok (.iload 4, 2) := by decide +kernel
theorem dX6_figures_43 : decode cX6_figures 43 = .ok (.imul, 1) := by decide +kernel
theorem dX6_figures_44 : decode cX6_figures 44 = .ok (.aload_n 0, 1) := by decide +kernel
theorem dX6_figures_45 : decode cX6_figures 45 = .ok (.aload_n 0, 1) := by decide +kernel
theorem dX6_figures_46 : decode cX6_figures 46 = .ok (.getfield 53, 3) := by decide +kernel
theorem dX6_figures_49 : decode cX6_figures 49 = .ok (.invokevirtual 56, 3) := by decide +kernel
theorem dX6_figures_52 : decode cX6_figures 52 = .ok (.iadd, 1) := by decide +kernel
theorem dX6_figures_53 : decode cX6_figures 53 = .ok (.bipush 48, 2) := by decide +kernel
theorem dX6_figures_55 : decode cX6_figures 55 = .ok (.isub, 1) := by decide +kernel
theorem dX6_figures_56 : decode cX6_figures 56 = .ok (.istore 4, 2) := by decide +kernel
theorem dX6_figures_58 : decode cX6_figures 58 = .ok (.iinc 3 1, 3) := by decide +kernel
theorem dX6_figures_61 : decode cX6_figures 61 = .ok (.aload_n 0, 1) := by decide +kernel
theorem dX6_figures_62 : decode cX6_figures 62 = .ok (.dup, 1) := by decide +kernel
theorem dX6_figures_63 : decode cX6_figures 63 = .ok (.getfield 53, 3) := by decide +kernel
theorem dX6_figures_66 : decode cX6_figures 66 = .ok (.iconst 1, 1) := by decide +kernel
theorem dX6_figures_67 : decode cX6_figures 67 = .ok (.iadd, 1) := by decide +kernel
theorem dX6_figures_68 : decode cX6_figures 68 = .ok (.putfield 53, 3) := by decide +kernel
theorem dX6_figures_71 : decode cX6_figures 71 = .ok (.goto (-59), 3) := by decide +kernel
theorem dX6_figures_74 : decode cX6_figures 74 = .ok (.iload_n 3, 1) := by decide +kernel
theorem dX6_figures_75 : decode cX6_figures 75 = .ok (.i2l, 1) := by decide +kernel
theorem dX6_figures_76 : decode cX6_figures 76 = .ok (.lconst 1, 1) := by decide +kernel
theorem dX6_figures_77 : decode cX6_figures 77 = .ok (.ldc2_w 64, 3) := by decide +kernel
theorem dX6_figures_80 : decode cX6_figures 80 = .ok (.invokestatic 43, 3) := by decide +kernel
theorem dX6_figures_83 : decode cX6_figures 83 = .ok (.ifCond .eq 28, 3) := by decide +kernel
theorem dX6_figures_86 : decode cX6_figures 86 = .ok (.aload_n 0, 1) := by decide +kernel
theorem dX6_figures_87 : decode cX6_figures 87 = .ok (.aload_n 0, 1) := by decide +kernel
theorem dX6_figures_88 : decode cX6_figures 88 = .ok (.getfield 53, 3) := by decide +kernel
theorem dX6_figures_91 : decode cX6_figures 91 = .ok (.invokevirtual 56, 3) := by decide +kernel
theorem dX6_figures_94 : decode cX6_figures 94 = .ok (.iload_n 2, 1) := by decide +kernel
theorem dX6_figures_95 : decode cX6_figures 95 = .ok (.iload_n 1, 1) := by decide +kernel
theorem dX6_figures_96 : decode cX6_figures 96 = .ok (.iconst 1, 1) := by decide +kernel
theorem dX6_figures_97 : decode cX6_figures 97 = .ok (.isub, 1) := by decide +kernel
theorem dX6_figures_98 : decode cX6_figures 98 = .ok (.if_icmp .ge 8, 3) := by decide +kernel
theorem dX6_figures_101 : decode cX6_figures 101 = .ok (.bipush 44, 2) := by decide +kernel
theorem dX6_figures_103 : decode cX6_figures 103 = .ok (.goto 5, 3) := by decide +kernel
theorem dX6_figures_106 : decode cX6_figures 106 = .ok (.bipush 59, 2) := by decide +kernel
theorem dX6_figures_108 : decode cX6_figures 108 = .ok (.if_icmp .eq 5, 3) := by decide +kernel
theorem dX6_figures_111 : decode cX6_figures 111 = .ok (.iconst 0, 1) := by decide +kernel
theorem dX6_figures_112 : decode cX6_figures 112 = .ok (.ireturn, 1) := by decide +kernel
theorem dX6_figures_113 : decode cX6_figures 113 = .ok (.aload_n 0, 1) := by decide +kernel
theorem dX6_figures_114 : decode cX6_figures 114 = .ok (.getfield 29, 3) := by decide +kernel
theorem dX6_figures_117 : decode cX6_figures 117 = .ok (.iload_n 2, 1) := by decide +kernel
theorem dX6_figures_118 : decode cX6_figures 118 = .ok (.iload 4, 2) := by decide +kernel
theorem dX6_figures_120 : decode cX6_figures 120 = .ok (.iastore, 1) := by decide +kernel
theorem dX6_figures_121 : decode cX6_figures 121 = .ok (.aload_n 0, 1) := by decide +kernel
theorem dX6_figures_122 : decode cX6_figures 122 = .ok (.dup, 1) := by decide +kernel
theorem dX6_figures_123 : decode cX6_figures 123 = .ok (.getfield 53, 3) := by decide +kernel
theorem dX6_figures_126 : decode cX6_figures 126 = .ok (.iconst 1, 1) := by decide +kernel
theorem dX6_figures_127 : decode cX6_figures 127 = .ok (.iadd, 1) := by decide +kernel
theorem dX6_figures_128 : decode cX6_figures 128 = .ok (.putfield 53, 3) := by decide +kernel
theorem dX6_figures_131 : decode cX6_figures 131 = .ok (.iinc 2 1, 3) := by decide +kernel
theorem dX6_figures_134 : decode cX6_figures 134 = .ok (.goto (-132), 3) := by decide +kernel
theorem dX6_figures_137 : decode cX6_figures 137 = .ok (.iconst 1, 1) := by decide +kernel
theorem dX6_figures_138 : decode cX6_figures 138 = .ok (.ireturn, 1) := by decide +kernel
theorem dX6_isRead_0 : decode cX6_isRead 0 = .ok (.iload_n 1, 1) := by decide +kernel
theorem dX6_isRead_1 : decode cX6_isRead 1 = .ok (.bipush 7, 2) := by decide +kernel
theorem dX6_isRead_3 : decode cX6_isRead 3 = .ok (.if_icmp .gt 25, 3) := by decide +kernel
theorem dX6_isRead_6 : decode cX6_isRead 6 = .ok (.aload_n 0, 1) := by decide +kernel
theorem dX6_isRead_7 : decode cX6_isRead 7 = .ok (.getfield 13, 3) := by decide +kernel
theorem dX6_isRead_10 : decode cX6_isRead 10 = .ok (.sipush 288, 3) := by decide +kernel
theorem dX6_isRead_13 : decode cX6_isRead 13 = .ok (.bipush 9, 2) := by decide +kernel
theorem dX6_isRead_15 : decode cX6_isRead 15 = .ok (.iload_n 1, 1) := by decide +kernel
theorem dX6_isRead_16 : decode cX6_isRead 16 = .ok (.imul, 1) := by decide +kernel
theorem dX6_isRead_17 : decode cX6_isRead 17 = .ok (.iadd, 1) := by decide +kernel
theorem dX6_isRead_18 : decode cX6_isRead 18 = .ok (.laload, 1) := by decide +kernel
theorem dX6_isRead_19 : decode cX6_isRead 19 = .ok (.lconst 0, 1) := by decide +kernel
theorem dX6_isRead_20 : decode cX6_isRead 20 = .ok (.lcmp, 1) := by decide +kernel
theorem dX6_isRead_21 : decode cX6_isRead 21 = .ok (.ifCond .le 7, 3) := by decide +kernel
theorem dX6_isRead_24 : decode cX6_isRead 24 = .ok (.iconst 1, 1) := by decide +kernel
theorem dX6_isRead_25 : decode cX6_isRead 25 = .ok (.goto 4, 3) := by decide +kernel
theorem dX6_isRead_28 : decode cX6_isRead 28 = .ok (.iconst 0, 1) := by decide +kernel
theorem dX6_isRead_29 : decode cX6_isRead 29 = .ok (.ireturn, 1) := by decide +kernel
set_option maxRecDepth 20000 in
theorem ggX6_realmItem_X6_figures : GoodIn wsX6_realmItem wsX6_figures := goodIn_r _ [8, 9, 10, 11, 12, 1, 13, 14, 15, 7, 16, 17, 18, 19, 20, 21, 26, 27, 28, 29, 30, 31, 32, 33, 34, 35, 36] (by decide +kernel) (by decide +kernel)
set_option maxRecDepth 20000 in
theorem gX6_realmItem_X6_figures : GoodIn wsX6_realmItem (wsV RX6 66 RX6 yX6_figures wsX6_figures) := goodIn_app (goodIn_of _ (by decide +kernel)) ggX6_realmItem_X6_figures
set_option maxRecDepth 20000 in
theorem ggX6_realmItem_X6_isRead : GoodIn wsX6_realmItem wsX6_isRead := goodIn_r _ [25, 2, 26, 27, 28, 29, 30, 31, 32, 33, 34, 35, 36] (by decide +kernel) (by decide +kernel)
set_option maxRecDepth 20000 in
theorem gX6_realmItem_X6_isRead : GoodIn wsX6_realmItem (wsV RX6 70 RX6 yX6_isRead wsX6_isRead) := goodIn_app (goodIn_of _ (by decide +kernel)) ggX6_realmItem_X6_isRead
theorem dX6_realmItem_0 : decode cX6_realmItem 0 = .ok (.aload_n 0, 1) := by decide +kernel
theorem dX6_realmItem_1 : decode cX6_realmItem 1 = .ok (.bipush 7, 2) := by decide +kernel
theorem dX6_realmItem_3 : decode cX6_realmItem 3 = .ok (.invokevirtual 66, 3) := by decide +kernel
theorem dX6_realmItem_6 : decode cX6_realmItem 6 = .ok (.ifCond .eq 67, 3) := by decide +kernel
theorem dX6_realmItem_9 : decode cX6_realmItem 9 = .ok (.aload_n 0, 1) := by decide +kernel
theorem dX6_realmItem_10 : decode cX6_realmItem 10 = .ok (.getfield 29, 3) := by decide +kernel
theorem dX6_realmItem_13 : decode cX6_realmItem 13 = .ok (.iconst 0, 1) := by decide +kernel
theorem dX6_realmItem_14 : decode cX6_realmItem 14 = .ok (.iaload, 1) := by decide +kernel
theorem dX6_realmItem_15 : decode cX6_realmItem 15 = .ok (.bipush 7, 2) := by decide +kernel
theorem dX6_realmItem_17 : decode cX6_realmItem 17 = .ok (.if_icmp .gt 56, 3) := by decide +kernel
theorem dX6_realmItem_20 : decode cX6_realmItem 20 = .ok (.aload_n 0, 1) := by decide +kernel
theorem dX6_realmItem_21 : decode cX6_realmItem 21 = .ok (.aload_n 0, 1) := by decide +kernel
theorem dX6_realmItem_22 : decode cX6_realmItem 22 = .ok (.getfield 29, 3) := by decide +kernel
theorem dX6_realmItem_25 : decode cX6_realmItem 25 = .ok (.iconst 0, 1) := by decide +kernel
theorem dX6_realmItem_26 : decode cX6_realmItem 26 = .ok (.iaload, 1) := by decide +kernel
theorem dX6_realmItem_27 : decode cX6_realmItem 27 = .ok (.invokevirtual 70, 3) := by decide +kernel
theorem dX6_realmItem_30 : decode cX6_realmItem 30 = .ok (.ifCond .ne 43, 3) := by decide +kernel
theorem dX6_realmItem_33 : decode cX6_realmItem 33 = .ok (.aload_n 0, 1) := by decide +kernel
theorem dX6_realmItem_34 : decode cX6_realmItem 34 = .ok (.getfield 29, 3) := by decide +kernel
theorem dX6_realmItem_37 : decode cX6_realmItem 37 = .ok (.iconst 1, 1) := by decide +kernel
theorem dX6_realmItem_38 : decode cX6_realmItem 38 = .ok (.iaload, 1) := by decide +kernel
theorem dX6_realmItem_39 : decode cX6_realmItem 39 = .ok (.sipush 1000, 3) := by decide +kernel
theorem dX6_realmItem_42 : decode cX6_realmItem 42 = .ok (.if_icmp .lt 31, 3) := by decide +kernel
theorem dX6_realmItem_45 : decode cX6_realmItem 45 = .ok (.aload_n 0, 1) := by decide +kernel
theorem dX6_realmItem_46 : decode cX6_realmItem 46 = .ok (.getfield 29, 3) := by decide +kernel
theorem dX6_realmItem_49 : decode cX6_realmItem 49 = .ok (.iconst 2, 1) := by decide +kernel
theorem dX6_realmItem_50 : decode cX6_realmItem 50 = .ok (.iaload, 1) := by decide +kernel
theorem dX6_realmItem_51 : decode cX6_realmItem 51 = .ok (.sipush 999, 3) := by decide +kernel
theorem dX6_realmItem_54 : decode cX6_realmItem 54 = .ok (.if_icmp .gt 19, 3) := by decide +kernel
theorem dX6_realmItem_57 : decode cX6_realmItem 57 = .ok (.aload_n 0, 1) := by decide +kernel
theorem dX6_realmItem_58 : decode cX6_realmItem 58 = .ok (.getfield 29, 3) := by decide +kernel
theorem dX6_realmItem_61 : decode cX6_realmItem 61 = .ok (.iconst 3, 1) := by decide +kernel
theorem dX6_realmItem_62 : decode cX6_realmItem 62 = .ok (.iaload, 1) := by decide +kernel
theorem dX6_realmItem_63 : decode cX6_realmItem 63 = .ok (.sipush 200, 3) := by decide +kernel
theorem dX6_realmItem_66 : decode cX6_realmItem 66 = .ok (.if_icmp .gt 7, 3) := by decide +kernel
theorem dX6_realmItem_69 : decode cX6_realmItem 69 = .ok (.iconst 1, 1) := by decide +kernel
theorem dX6_realmItem_70 : decode cX6_realmItem 70 = .ok (.goto 4, 3) := by decide +kernel
theorem dX6_realmItem_73 : decode cX6_realmItem 73 = .ok (.iconst 0, 1) := by decide +kernel
theorem dX6_realmItem_74 : decode cX6_realmItem 74 = .ok (.istore_n 1, 1) := by decide +kernel
theorem dX6_realmItem_75 : decode cX6_realmItem 75 = .ok (.iload_n 1, 1) := by decide +kernel
theorem dX6_realmItem_76 : decode cX6_realmItem 76 = .ok (.ifCond .eq 40, 3) := by decide +kernel
theorem dX6_realmItem_79 : decode cX6_realmItem 79 = .ok (.aload_n 0, 1) := by decide +kernel
theorem dX6_realmItem_80 : decode cX6_realmItem 80 = .ok (.getfield 29, 3) := by decide +kernel
theorem dX6_realmItem_83 : decode cX6_realmItem 83 = .ok (.iconst 4, 1) := by decide +kernel
theorem dX6_realmItem_84 : decode cX6_realmItem 84 = .ok (.iaload, 1) := by decide +kernel
theorem dX6_realmItem_85 : decode cX6_realmItem 85 = .ok (.sipush 9999, 3) := by decide +kernel
theorem dX6_realmItem_88 : decode cX6_realmItem 88 = .ok (.if_icmp .gt 28, 3) := by decide +kernel
theorem dX6_realmItem_91 : decode cX6_realmItem 91 = .ok (.aload_n 0, 1) := by decide +kernel
theorem dX6_realmItem_92 : decode cX6_realmItem 92 = .ok (.getfield 29, 3) := by decide +kernel
theorem dX6_realmItem_95 : decode cX6_realmItem 95 = .ok (.iconst 5, 1) := by decide +kernel
theorem dX6_realmItem_96 : decode cX6_realmItem 96 = .ok (.iaload, 1) := by decide +kernel
theorem dX6_realmItem_97 : decode cX6_realmItem 97 = .ok (.sipush 9999, 3) := by decide +kernel
theorem dX6_realmItem_100 : decode cX6_realmItem 100 = .ok (.if_icmp .gt 16, 3) := by decide +kernel
theorem dX6_realmItem_103 : decode cX6_realmItem 103 = .ok (.aload_n 0, 1) := by decide +kernel
theorem dX6_realmItem_104 : decode cX6_realmItem 104 = .ok (.getfield 29, 3) := by decide +kernel
theorem dX6_realmItem_107 : decode cX6_realmItem 107 = .ok (.bipush 6, 2) := by decide +kernel
theorem dX6_realmItem_109 : decode cX6_realmItem 109 = .ok (.iaload, 1) := by decide +kernel
theorem dX6_realmItem_110 : decode cX6_realmItem 110 = .ok (.sipush 999, 3) := by decide +kernel
theorem dX6_realmItem_113 : decode cX6_realmItem 113 = .ok (.if_icmp .le 5, 3) := by decide +kernel
theorem dX6_realmItem_116 : decode cX6_realmItem 116 = .ok (.iconst 0, 1) := by decide +kernel
theorem dX6_realmItem_117 : decode cX6_realmItem 117 = .ok (.ireturn, 1) := by decide +kernel
theorem dX6_realmItem_118 : decode cX6_realmItem 118 = .ok (.sipush 288, 3) := by decide +kernel
theorem dX6_realmItem_121 : decode cX6_realmItem 121 = .ok (.bipush 9, 2) := by decide +kernel
theorem dX6_realmItem_123 : decode cX6_realmItem 123 = .ok (.aload_n 0, 1) := by decide +kernel
theorem dX6_realmItem_124 : decode cX6_realmItem 124 = .ok (.getfield 29, 3) := by decide +kernel
theorem dX6_realmItem_127 : decode cX6_realmItem 127 = .ok (.iconst 0, 1) := by decide +kernel
theorem dX6_realmItem_128 : decode cX6_realmItem 128 = .ok (.iaload, 1) := by decide +kernel
theorem dX6_realmItem_129 : decode cX6_realmItem 129 = .ok (.imul, 1) := by decide +kernel
theorem dX6_realmItem_130 : decode cX6_realmItem 130 = .ok (.iadd, 1) := by decide +kernel
theorem dX6_realmItem_131 : decode cX6_realmItem 131 = .ok (.istore_n 2, 1) := by decide +kernel
theorem dX6_realmItem_132 : decode cX6_realmItem 132 = .ok (.iconst 0, 1) := by decide +kernel
theorem dX6_realmItem_133 : decode cX6_realmItem 133 = .ok (.istore_n 3, 1) := by decide +kernel
theorem dX6_realmItem_134 : decode cX6_realmItem 134 = .ok (.iload_n 3, 1) := by decide +kernel
theorem dX6_realmItem_135 : decode cX6_realmItem 135 = .ok (.iconst 4, 1) := by decide +kernel
theorem dX6_realmItem_136 : decode cX6_realmItem 136 = .ok (.if_icmp .ge 26, 3) := by decide +kernel
theorem dX6_realmItem_139 : decode cX6_realmItem 139 = .ok (.aload_n 0, 1) := by decide +kernel
theorem dX6_realmItem_140 : decode cX6_realmItem 140 = .ok (.getfield 13, 3) := by decide +kernel
theorem dX6_realmItem_143 : decode cX6_realmItem 143 = .ok (.iload_n 2, 1) := by decide +kernel
theorem dX6_realmItem_144 : decode cX6_realmItem 144 = .ok (.iload_n 3, 1) := by decide +kernel
theorem dX6_realmItem_145 : decode cX6_realmItem 145 = .ok (.iadd, 1) := by decide +kernel
theorem dX6_realmItem_146 : decode cX6_realmItem 146 = .ok (.aload_n 0, 1) := by decide +kernel
theorem dX6_realmItem_147 : decode cX6_realmItem 147 = .ok (.getfield 29, 3) := by decide +kernel
theorem dX6_realmItem_150 : decode cX6_realmItem 150 = .ok (.iload_n 3, 1) := by decide +kernel
theorem dX6_realmItem_151 : decode cX6_realmItem 151 = .ok (.iconst 1, 1) := by decide +kernel
theorem dX6_realmItem_152 : decode cX6_realmItem 152 = .ok (.iadd, 1) := by decide +kernel
theorem dX6_realmItem_153 : decode cX6_realmItem 153 = .ok (.iaload, 1) := by decide +kernel
theorem dX6_realmItem_154 : decode cX6_realmItem 154 = .ok (.i2l, 1) := by decide +kernel
theorem dX6_realmItem_155 : decode cX6_realmItem 155 = .ok (.lastore, 1) := by decide +kernel
theorem dX6_realmItem_156 : decode cX6_realmItem 156 = .ok (.iinc 3 1, 3) := by decide +kernel
theorem dX6_realmItem_159 : decode cX6_realmItem 159 = .ok (.goto (-25), 3) := by decide +kernel
theorem dX6_realmItem_162 : decode cX6_realmItem 162 = .ok (.aload_n 0, 1) := by decide +kernel
theorem dX6_realmItem_163 : decode cX6_realmItem 163 = .ok (.getfield 13, 3) := by decide +kernel
theorem dX6_realmItem_166 : decode cX6_realmItem 166 = .ok (.iload_n 2, 1) := by decide +kernel
theorem dX6_realmItem_167 : decode cX6_realmItem 167 = .ok (.iconst 4, 1) := by decide +kernel
theorem dX6_realmItem_168 : decode cX6_realmItem 168 = .ok (.iadd, 1) := by decide +kernel
theorem dX6_realmItem_169 : decode cX6_realmItem 169 = .ok (.ldc2_w 73, 3) := by decide +kernel
theorem dX6_realmItem_172 : decode cX6_realmItem 172 = .ok (.aload_n 0, 1) := by decide +kernel
theorem dX6_realmItem_173 : decode cX6_realmItem 173 = .ok (.getfield 29, 3) := by decide +kernel
theorem dX6_realmItem_176 : decode cX6_realmItem 176 = .ok (.iconst 5, 1) := by decide +kernel
theorem dX6_realmItem_177 : decode cX6_realmItem 177 = .ok (.iaload, 1) := by decide +kernel
theorem dX6_realmItem_178 : decode cX6_realmItem 178 = .ok (.i2l, 1) := by decide +kernel
theorem dX6_realmItem_179 : decode cX6_realmItem 179 = .ok (.lmul, 1) := by decide +kernel
theorem dX6_realmItem_180 : decode cX6_realmItem 180 = .ok (.lastore, 1) := by decide +kernel
theorem dX6_realmItem_181 : decode cX6_realmItem 181 = .ok (.aload_n 0, 1) := by decide +kernel
theorem dX6_realmItem_182 : decode cX6_realmItem 182 = .ok (.getfield 13, 3) := by decide +kernel
theorem dX6_realmItem_185 : decode cX6_realmItem 185 = .ok (.iload_n 2, 1) := by decide +kernel
theorem dX6_realmItem_186 : decode cX6_realmItem 186 = .ok (.iconst 5, 1) := by decide +kernel
theorem dX6_realmItem_187 : decode cX6_realmItem 187 = .ok (.iadd, 1) := by decide +kernel
theorem dX6_realmItem_188 : decode cX6_realmItem 188 = .ok (.aload_n 0, 1) := by decide +kernel
theorem dX6_realmItem_189 : decode cX6_realmItem 189 = .ok (.getfield 29, 3) := by decide +kernel
theorem dX6_realmItem_192 : decode cX6_realmItem 192 = .ok (.bipush 6, 2) := by decide +kernel
theorem dX6_realmItem_194 : decode cX6_realmItem 194 = .ok (.iaload, 1) := by decide +kernel
theorem dX6_realmItem_195 : decode cX6_realmItem 195 = .ok (.i2l, 1) := by decide +kernel
theorem dX6_realmItem_196 : decode cX6_realmItem 196 = .ok (.lastore, 1) := by decide +kernel
theorem dX6_realmItem_197 : decode cX6_realmItem 197 = .ok (.aload_n 0, 1) := by decide +kernel
theorem dX6_realmItem_198 : decode cX6_realmItem 198 = .ok (.getfield 13, 3) := by decide +kernel
theorem dX6_realmItem_201 : decode cX6_realmItem 201 = .ok (.iload_n 2, 1) := by decide +kernel
theorem dX6_realmItem_202 : decode cX6_realmItem 202 = .ok (.bipush 6, 2) := by decide +kernel
theorem dX6_realmItem_204 : decode cX6_realmItem 204 = .ok (.iadd, 1) := by decide +kernel
theorem dX6_realmItem_205 : decode cX6_realmItem 205 = .ok (.lconst 1, 1) := by decide +kernel
theorem dX6_realmItem_206 : decode cX6_realmItem 206 = .ok (.lastore, 1) := by decide +kernel
theorem dX6_realmItem_207 : decode cX6_realmItem 207 = .ok (.iconst 1, 1) := by decide +kernel
theorem dX6_realmItem_208 : decode cX6_realmItem 208 = .ok (.ireturn, 1) := by decide +kernel
set_option maxRecDepth 20000 in
theorem ggX6_mineItem_X6_figures : GoodIn wsX6_mineItem wsX6_figures := goodIn_r _ [8, 9, 10, 11, 12, 1, 13, 14, 15, 7, 16, 17, 18, 19, 20, 21, 22, 23, 24, 25, 26, 27, 28, 29, 30, 31, 32] (by decide +kernel) (by decide +kernel)
set_option maxRecDepth 20000 in
theorem gX6_mineItem_X6_figures : GoodIn wsX6_mineItem (wsV RX6 66 RX6 yX6_figures wsX6_figures) := goodIn_app (goodIn_of _ (by decide +kernel)) ggX6_mineItem_X6_figures
theorem dX6_mineItem_0 : decode cX6_mineItem 0 = .ok (.aload_n 0, 1) := by decide +kernel
theorem dX6_mineItem_1 : decode cX6_mineItem 1 = .ok (.iconst 3, 1) := by decide +kernel
theorem dX6_mineItem_2 : decode cX6_mineItem 2 = .ok (.invokevirtual 66, 3) := by decide +kernel
theorem dX6_mineItem_5 : decode cX6_mineItem 5 = .ok (.ifCond .eq 38, 3) := by decide +kernel
theorem dX6_mineItem_8 : decode cX6_mineItem 8 = .ok (.aload_n 0, 1) := by decide +kernel
theorem dX6_mineItem_9 : decode cX6_mineItem 9 = .ok (.getfield 29, 3) := by decide +kernel
theorem dX6_mineItem_12 : decode cX6_mineItem 12 = .ok (.iconst 0, 1) := by decide +kernel
theorem dX6_mineItem_13 : decode cX6_mineItem 13 = .ok (.iaload, 1) := by decide +kernel
theorem dX6_mineItem_14 : decode cX6_mineItem 14 = .ok (.bipush 99, 2) := by decide +kernel
theorem dX6_mineItem_16 : decode cX6_mineItem 16 = .ok (.if_icmp .gt 27, 3) := by decide +kernel
theorem dX6_mineItem_19 : decode cX6_mineItem 19 = .ok (.aload_n 0, 1) := by decide +kernel
theorem dX6_mineItem_20 : decode cX6_mineItem 20 = .ok (.getfield 29, 3) := by decide +kernel
theorem dX6_mineItem_23 : decode cX6_mineItem 23 = .ok (.iconst 1, 1) := by decide +kernel
theorem dX6_mineItem_24 : decode cX6_mineItem 24 = .ok (.iaload, 1) := by decide +kernel
theorem dX6_mineItem_25 : decode cX6_mineItem 25 = .ok (.sipush 9999, 3) := by decide +kernel
theorem dX6_mineItem_28 : decode cX6_mineItem 28 = .ok (.if_icmp .gt 15, 3) := by decide +kernel
theorem dX6_mineItem_31 : decode cX6_mineItem 31 = .ok (.aload_n 0, 1) := by decide +kernel
theorem dX6_mineItem_32 : decode cX6_mineItem 32 = .ok (.getfield 29, 3) := by decide +kernel
theorem dX6_mineItem_35 : decode cX6_mineItem 35 = .ok (.iconst 2, 1) := by decide +kernel
theorem dX6_mineItem_36 : decode cX6_mineItem 36 = .ok (.iaload, 1) := by decide +kernel
theorem dX6_mineItem_37 : decode cX6_mineItem 37 = .ok (.sipush 9999, 3) := by decide +kernel
theorem dX6_mineItem_40 : decode cX6_mineItem 40 = .ok (.if_icmp .le 5, 3) := by decide +kernel
theorem dX6_mineItem_43 : decode cX6_mineItem 43 = .ok (.iconst 0, 1) := by decide +kernel
theorem dX6_mineItem_44 : decode cX6_mineItem 44 = .ok (.ireturn, 1) := by decide +kernel
theorem dX6_mineItem_45 : decode cX6_mineItem 45 = .ok (.sipush 180, 3) := by decide +kernel
theorem dX6_mineItem_48 : decode cX6_mineItem 48 = .ok (.iconst 3, 1) := by decide +kernel
theorem dX6_mineItem_49 : decode cX6_mineItem 49 = .ok (.aload_n 0, 1) := by decide +kernel
theorem dX6_mineItem_50 : decode cX6_mineItem 50 = .ok (.getfield 23, 3) := by decide +kernel
theorem dX6_mineItem_53 : decode cX6_mineItem 53 = .ok (.iconst 1, 1) := by decide +kernel
theorem dX6_mineItem_54 : decode cX6_mineItem 54 = .ok (.iaload, 1) := by decide +kernel
theorem dX6_mineItem_55 : decode cX6_mineItem 55 = .ok (.imul, 1) := by decide +kernel
theorem dX6_mineItem_56 : decode cX6_mineItem 56 = .ok (.iadd, 1) := by decide +kernel
theorem dX6_mineItem_57 : decode cX6_mineItem 57 = .ok (.istore_n 1, 1) := by decide +kernel
theorem dX6_mineItem_58 : decode cX6_mineItem 58 = .ok (.iconst 0, 1) := by decide +kernel
theorem dX6_mineItem_59 : decode cX6_mineItem 59 = .ok (.istore_n 2, 1) := by decide +kernel
theorem dX6_mineItem_60 : decode cX6_mineItem 60 = .ok (.iload_n 2, 1) := by decide +kernel
theorem dX6_mineItem_61 : decode cX6_mineItem 61 = .ok (.iconst 3, 1) := by decide +kernel
theorem dX6_mineItem_62 : decode cX6_mineItem 62 = .ok (.if_icmp .ge 23, 3) := by decide +kernel
theorem dX6_mineItem_65 : decode cX6_mineItem 65 = .ok (.aload_n 0, 1) := by decide +kernel
theorem dX6_mineItem_66 : decode cX6_mineItem 66 = .ok (.getfield 26, 3) := by decide +kernel
theorem dX6_mineItem_69 : decode cX6_mineItem 69 = .ok (.iload_n 1, 1) := by decide +kernel
theorem dX6_mineItem_70 : decode cX6_mineItem 70 = .ok (.iload_n 2, 1) := by decide +kernel
theorem dX6_mineItem_71 : decode cX6_mineItem 71 = .ok (.iadd, 1) := by decide +kernel
theorem dX6_mineItem_72 : decode cX6_mineItem 72 = .ok (.aload_n 0, 1) := by decide +kernel
theorem dX6_mineItem_73 : decode cX6_mineItem 73 = .ok (.getfield 29, 3) := by decide +kernel
theorem dX6_mineItem_76 : decode cX6_mineItem 76 = .ok (.iload_n 2, 1) := by decide +kernel
theorem dX6_mineItem_77 : decode cX6_mineItem 77 = .ok (.iaload, 1) := by decide +kernel
theorem dX6_mineItem_78 : decode cX6_mineItem 78 = .ok (.iastore, 1) := by decide +kernel
theorem dX6_mineItem_79 : decode cX6_mineItem 79 = .ok (.iinc 2 1, 3) := by decide +kernel
theorem dX6_mineItem_82 : decode cX6_mineItem 82 = .ok (.goto (-22), 3) := by decide +kernel
theorem dX6_mineItem_85 : decode cX6_mineItem 85 = .ok (.aload_n 0, 1) := by decide +kernel
theorem dX6_mineItem_86 : decode cX6_mineItem 86 = .ok (.getfield 23, 3) := by decide +kernel
theorem dX6_mineItem_89 : decode cX6_mineItem 89 = .ok (.iconst 1, 1) := by decide +kernel
theorem dX6_mineItem_90 : decode cX6_mineItem 90 = .ok (.dup2, 1) := by decide +kernel
theorem dX6_mineItem_91 : decode cX6_mineItem 91 = .ok (.iaload, 1) := by decide +kernel
theorem dX6_mineItem_92 : decode cX6_mineItem 92 = .ok (.iconst 1, 1) := by decide +kernel
theorem dX6_mineItem_93 : decode cX6_mineItem 93 = .ok (.iadd, 1) := by decide +kernel
theorem dX6_mineItem_94 : decode cX6_mineItem 94 = .ok (.iastore, 1) := by decide +kernel
theorem dX6_mineItem_95 : decode cX6_mineItem 95 = .ok (.iconst 1, 1) := by decide +kernel
theorem dX6_mineItem_96 : decode cX6_mineItem 96 = .ok (.ireturn, 1) := by decide +kernel
set_option maxRecDepth 20000 in
theorem ggX6_item_X6_byteAt : GoodIn wsX6_item wsX6_byteAt := goodIn_r _ [12, 13, 14, 39, 40, 41, 42, 43, 44, 45, 46, 47, 48, 49] (by decide +kernel) (by decide +kernel)
set_option maxRecDepth 20000 in
theorem gX6_item_X6_byteAt : GoodIn wsX6_item (wsV RX6 56 RX6 yX6_byteAt wsX6_byteAt) := goodIn_app (goodIn_of _ (by decide +kernel)) ggX6_item_X6_byteAt
set_option maxRecDepth 20000 in
theorem ggX6_item_X6_realmItem : GoodIn wsX6_item wsX6_realmItem := goodIn_r _ [18, 2, 3, 5, 19, 20, 21, 11, 22, 1, 23, 24, 25, 8, 9, 10, 12, 13, 14, 26, 27, 28, 29, 30, 31, 32, 39, 40, 41, 42, 43, 44, 45, 46, 47, 48, 49] (by decide +kernel) (by decide +kernel)
set_option maxRecDepth 20000 in
theorem gX6_item_X6_realmItem : GoodIn wsX6_item (wsV RX6 75 RX6 yX6_realmItem wsX6_realmItem) := goodIn_app (goodIn_of _ (by decide +kernel)) ggX6_item_X6_realmItem
set_option maxRecDepth 20000 in
theorem ggX6_item_X6_figures : GoodIn wsX6_item wsX6_figures := goodIn_r _ [22, 1, 23, 24, 25, 2, 8, 9, 10, 11, 12, 13, 14, 26, 27, 28, 39, 40, 41, 42, 43, 44, 45, 46, 47, 48, 49] (by decide +kernel) (by decide +kernel)
set_option maxRecDepth 20000 in
theorem gX6_item_X6_figures : GoodIn wsX6_item (wsV RX6 66 RX6 yX6_figures wsX6_figures) := goodIn_app (goodIn_of _ (by decide +kernel)) ggX6_item_X6_figures
set_option maxRecDepth 20000 in
theorem ggX6_item_X6_isRead : GoodIn wsX6_item wsX6_isRead := goodIn_r _ [32, 3, 39, 40, 41, 42, 43, 44, 45, 46, 47, 48, 49] (by decide +kernel) (by decide +kernel)
set_option maxRecDepth 20000 in
theorem gX6_item_X6_isRead : GoodIn wsX6_item (wsV RX6 70 RX6 yX6_isRead wsX6_isRead) := goodIn_app (goodIn_of _ (by decide +kernel)) ggX6_item_X6_isRead
set_option maxRecDepth 20000 in
theorem ggX6_item_X6_in : GoodIn wsX6_item wsX6_in := goodIn_r _ [28] (by decide +kernel) (by decide +kernel)
set_option maxRecDepth 20000 in
theorem gX6_item_X6_in : GoodIn wsX6_item (va_wsS RX6 43 yX6_in wsX6_in) := goodIn_app (goodIn_of _ (by decide +kernel)) ggX6_item_X6_in
set_option maxRecDepth 20000 in
theorem ggX6_item_X6_mineItem : GoodIn wsX6_item wsX6_mineItem := goodIn_r _ [36, 2, 37, 38, 19, 20, 21, 11, 22, 1, 23, 24, 25, 8, 9, 10, 12, 13, 14, 26, 27, 28, 39, 40, 41, 42, 43, 44, 45, 46, 47, 48, 49] (by decide +kernel) (by decide +kernel)
set_option maxRecDepth 20000 in
theorem gX6_item_X6_mineItem : GoodIn wsX6_item (wsV RX6 81 RX6 yX6_mineItem wsX6_mineItem) := goodIn_app (goodIn_of _ (by decide +kernel)) ggX6_item_X6_mineItem
theorem dX6_item_0 : decode cX6_item 0 = .ok (.aload_n 0, 1) := by decide +kernel
theorem dX6_item_1 : decode cX6_item 1 = .ok (.aload_n 0, 1) := by decide +kernel
theorem dX6_item_2 : decode cX6_item 2 = .ok (.getfield 53, 3) := by decide +kernel
theorem dX6_item_5 : decode cX6_item 5 = .ok (.invokevirtual 56, 3) := by decide +kernel
theorem dX6_item_8 : decode cX6_item 8 = .ok (.istore_n 1, 1) := by decide +kernel
theorem dX6_item_9 : decode cX6_item 9 = .ok (.aload_n 0, 1) := by decide +kernel
theorem dX6_item_10 : decode cX6_item 10 = .ok (.dup, 1) := by decide +kernel
theorem dX6_item_11 : decode cX6_item 11 = .ok (.getfield 53, 3) := by decide +kernel
theorem dX6_item_14 : decode cX6_item 14 = .ok (.iconst 1, 1) := by decide +kernel
theorem dX6_item_15 : decode cX6_item 15 = .ok (.iadd, 1) := by decide +kernel
theorem dX6_item_16 : decode cX6_item 16 = .ok (.putfield 53, 3) := by decide +kernel
theorem dX6_item_19 : decode cX6_item 19 = .ok (.iload_n 1, 1) := by decide +kernel
theorem dX6_item_20 : decode cX6_item 20 = .ok (.tableswitch 269 103 115 #[264, 269, 269, 269, 223, 73, 179, 269, 269, 269, 269, 68, 117], 68) := by decide +kernel
theorem dX6_item_88 : decode cX6_item 88 = .ok (.aload_n 0, 1) := by decide +kernel
theorem dX6_item_89 : decode cX6_item 89 = .ok (.invokevirtual 75, 3) := by decide +kernel
theorem dX6_item_92 : decode cX6_item 92 = .ok (.ireturn, 1) := by decide +kernel
theorem dX6_item_93 : decode cX6_item 93 = .ok (.aload_n 0, 1) := by decide +kernel
theorem dX6_item_94 : decode cX6_item 94 = .ok (.iconst 1, 1) := by decide +kernel
theorem dX6_item_95 : decode cX6_item 95 = .ok (.invokevirtual 66, 3) := by decide +kernel
theorem dX6_item_98 : decode cX6_item 98 = .ok (.ifCond .eq 16, 3) := by decide +kernel
theorem dX6_item_101 : decode cX6_item 101 = .ok (.aload_n 0, 1) := by decide +kernel
theorem dX6_item_102 : decode cX6_item 102 = .ok (.aload_n 0, 1) := by decide +kernel
theorem dX6_item_103 : decode cX6_item 103 = .ok (.getfield 29, 3) := by decide +kernel
theorem dX6_item_106 : decode cX6_item 106 = .ok (.iconst 0, 1) := by decide +kernel
theorem dX6_item_107 : decode cX6_item 107 = .ok (.iaload, 1) := by decide +kernel
theorem dX6_item_108 : decode cX6_item 108 = .ok (.invokevirtual 70, 3) := by decide +kernel
theorem dX6_item_111 : decode cX6_item 111 = .ok (.ifCond .ne 5, 3) := by decide +kernel
theorem dX6_item_114 : decode cX6_item 114 = .ok (.iconst 0, 1) := by decide +kernel
theorem dX6_item_115 : decode cX6_item 115 = .ok (.ireturn, 1) := by decide +kernel
theorem dX6_item_116 : decode cX6_item 116 = .ok (.aload_n 0, 1) := by decide +kernel
theorem dX6_item_117 : decode cX6_item 117 = .ok (.getfield 13, 3) := by decide +kernel
theorem dX6_item_120 : decode cX6_item 120 = .ok (.sipush 295, 3) := by decide +kernel
theorem dX6_item_123 : decode cX6_item 123 = .ok (.bipush 9, 2) := by decide +kernel
theorem dX6_item_125 : decode cX6_item 125 = .ok (.aload_n 0, 1) := by decide +kernel
theorem dX6_item_126 : decode cX6_item 126 = .ok (.getfield 29, 3) := by decide +kernel
theorem dX6_item_129 : decode cX6_item 129 = .ok (.iconst 0, 1) := by decide +kernel
theorem dX6_item_130 : decode cX6_item 130 = .ok (.iaload, 1) := by decide +kernel
theorem dX6_item_131 : decode cX6_item 131 = .ok (.imul, 1) := by decide +kernel
theorem dX6_item_132 : decode cX6_item 132 = .ok (.iadd, 1) := by decide +kernel
theorem dX6_item_133 : decode cX6_item 133 = .ok (.lconst 1, 1) := by decide +kernel
theorem dX6_item_134 : decode cX6_item 134 = .ok (.lastore, 1) := by decide +kernel
theorem dX6_item_135 : decode cX6_item 135 = .ok (.iconst 1, 1) := by decide +kernel
theorem dX6_item_136 : decode cX6_item 136 = .ok (.ireturn, 1) := by decide +kernel
theorem dX6_item_137 : decode cX6_item 137 = .ok (.aload_n 0, 1) := by decide +kernel
theorem dX6_item_138 : decode cX6_item 138 = .ok (.iconst 2, 1) := by decide +kernel
theorem dX6_item_139 : decode cX6_item 139 = .ok (.invokevirtual 66, 3) := by decide +kernel
theorem dX6_item_142 : decode cX6_item 142 = .ok (.ifCond .eq 28, 3) := by decide +kernel
theorem dX6_item_145 : decode cX6_item 145 = .ok (.aload_n 0, 1) := by decide +kernel
theorem dX6_item_146 : decode cX6_item 146 = .ok (.aload_n 0, 1) := by decide +kernel
theorem dX6_item_147 : decode cX6_item 147 = .ok (.getfield 29, 3) := by decide +kernel
theorem dX6_item_150 : decode cX6_item 150 = .ok (.iconst 0, 1) := by decide +kernel
theorem dX6_item_151 : decode cX6_item 151 = .ok (.iaload, 1) := by decide +kernel
theorem dX6_item_152 : decode cX6_item 152 = .ok (.invokevirtual 70, 3) := by decide +kernel
theorem dX6_item_155 : decode cX6_item 155 = .ok (.ifCond .eq 15, 3) := by decide +kernel
theorem dX6_item_158 : decode cX6_item 158 = .ok (.aload_n 0, 1) := by decide +kernel
theorem dX6_item_159 : decode cX6_item 159 = .ok (.getfield 29, 3) := by decide +kernel
theorem dX6_item_162 : decode cX6_item 162 = .ok (.iconst 1, 1) := by decide +kernel
theorem dX6_item_163 : decode cX6_item 163 = .ok (.iaload, 1) := by decide +kernel
theorem dX6_item_164 : decode cX6_item 164 = .ok (.sipush 9999, 3) := by decide +kernel
theorem dX6_item_167 : decode cX6_item 167 = .ok (.if_icmp .le 5, 3) := by decide +kernel
theorem dX6_item_170 : decode cX6_item 170 = .ok (.iconst 0, 1) := by decide +kernel
theorem dX6_item_171 : decode cX6_item 171 = .ok (.ireturn, 1) := by decide +kernel
theorem dX6_item_172 : decode cX6_item 172 = .ok (.aload_n 0, 1) := by decide +kernel
theorem dX6_item_173 : decode cX6_item 173 = .ok (.getfield 13, 3) := by decide +kernel
theorem dX6_item_176 : decode cX6_item 176 = .ok (.sipush 296, 3) := by decide +kernel
theorem dX6_item_179 : decode cX6_item 179 = .ok (.bipush 9, 2) := by decide +kernel
theorem dX6_item_181 : decode cX6_item 181 = .ok (.aload_n 0, 1) := by decide +kernel
theorem dX6_item_182 : decode cX6_item 182 = .ok (.getfield 29, 3) := by decide +kernel
theorem dX6_item_185 : decode cX6_item 185 = .ok (.iconst 0, 1) := by decide +kernel
theorem dX6_item_186 : decode cX6_item 186 = .ok (.iaload, 1) := by decide +kernel
theorem dX6_item_187 : decode cX6_item 187 = .ok (.imul, 1) := by decide +kernel
theorem dX6_item_188 : decode cX6_item 188 = .ok (.iadd, 1) := by decide +kernel
theorem dX6_item_189 : decode cX6_item 189 = .ok (.aload_n 0, 1) := by decide +kernel
theorem dX6_item_190 : decode cX6_item 190 = .ok (.getfield 29, 3) := by decide +kernel
theorem dX6_item_193 : decode cX6_item 193 = .ok (.iconst 1, 1) := by decide +kernel
theorem dX6_item_194 : decode cX6_item 194 = .ok (.iaload, 1) := by decide +kernel
theorem dX6_item_195 : decode cX6_item 195 = .ok (.i2l, 1) := by decide +kernel
theorem dX6_item_196 : decode cX6_item 196 = .ok (.lastore, 1) := by decide +kernel
theorem dX6_item_197 : decode cX6_item 197 = .ok (.iconst 1, 1) := by decide +kernel
theorem dX6_item_198 : decode cX6_item 198 = .ok (.ireturn, 1) := by decide +kernel
theorem dX6_item_199 : decode cX6_item 199 = .ok (.aload_n 0, 1) := by decide +kernel
theorem dX6_item_200 : decode cX6_item 200 = .ok (.iconst 2, 1) := by decide +kernel
theorem dX6_item_201 : decode cX6_item 201 = .ok (.invokevirtual 66, 3) := by decide +kernel
theorem dX6_item_204 : decode cX6_item 204 = .ok (.ifCond .ne 5, 3) := by decide +kernel
theorem dX6_item_207 : decode cX6_item 207 = .ok (.iconst 0, 1) := by decide +kernel
theorem dX6_item_208 : decode cX6_item 208 = .ok (.ireturn, 1) := by decide +kernel
theorem dX6_item_209 : decode cX6_item 209 = .ok (.aload_n 0, 1) := by decide +kernel
theorem dX6_item_210 : decode cX6_item 210 = .ok (.getfield 17, 3) := by decide +kernel
theorem dX6_item_213 : decode cX6_item 213 = .ok (.bipush 12, 2) := by decide +kernel
theorem dX6_item_215 : decode cX6_item 215 = .ok (.aload_n 0, 1) := by decide +kernel
theorem dX6_item_216 : decode cX6_item 216 = .ok (.getfield 29, 3) := by decide +kernel
theorem dX6_item_219 : decode cX6_item 219 = .ok (.iconst 0, 1) := by decide +kernel
theorem dX6_item_220 : decode cX6_item 220 = .ok (.iaload, 1) := by decide +kernel
theorem dX6_item_221 : decode cX6_item 221 = .ok (.i2l, 1) := by decide +kernel
theorem dX6_item_222 : decode cX6_item 222 = .ok (.lastore, 1) := by decide +kernel
theorem dX6_item_223 : decode cX6_item 223 = .ok (.aload_n 0, 1) := by decide +kernel
theorem dX6_item_224 : decode cX6_item 224 = .ok (.getfield 17, 3) := by decide +kernel
theorem dX6_item_227 : decode cX6_item 227 = .ok (.bipush 13, 2) := by decide +kernel
theorem dX6_item_229 : decode cX6_item 229 = .ok (.ldc2_w 73, 3) := by decide +kernel
theorem dX6_item_232 : decode cX6_item 232 = .ok (.aload_n 0, 1) := by decide +kernel
theorem dX6_item_233 : decode cX6_item 233 = .ok (.getfield 29, 3) := by decide +kernel
theorem dX6_item_236 : decode cX6_item 236 = .ok (.iconst 1, 1) := by decide +kernel
theorem dX6_item_237 : decode cX6_item 237 = .ok (.iaload, 1) := by decide +kernel
theorem dX6_item_238 : decode cX6_item 238 = .ok (.i2l, 1) := by decide +kernel
theorem dX6_item_239 : decode cX6_item 239 = .ok (.lmul, 1) := by decide +kernel
theorem dX6_item_240 : decode cX6_item 240 = .ok (.lastore, 1) := by decide +kernel
theorem dX6_item_241 : decode cX6_item 241 = .ok (.iconst 1, 1) := by decide +kernel
theorem dX6_item_242 : decode cX6_item 242 = .ok (.ireturn, 1) := by decide +kernel
theorem dX6_item_243 : decode cX6_item 243 = .ok (.aload_n 0, 1) := by decide +kernel
theorem dX6_item_244 : decode cX6_item 244 = .ok (.iconst 1, 1) := by decide +kernel
theorem dX6_item_245 : decode cX6_item 245 = .ok (.invokevirtual 66, 3) := by decide +kernel
theorem dX6_item_248 : decode cX6_item 248 = .ok (.ifCond .eq 20, 3) := by decide +kernel
theorem dX6_item_251 : decode cX6_item 251 = .ok (.aload_n 0, 1) := by decide +kernel
theorem dX6_item_252 : decode cX6_item 252 = .ok (.getfield 29, 3) := by decide +kernel
theorem dX6_item_255 : decode cX6_item 255 = .ok (.iconst 0, 1) := by decide +kernel
theorem dX6_item_256 : decode cX6_item 256 = .ok (.iaload, 1) := by decide +kernel
theorem dX6_item_257 : decode cX6_item 257 = .ok (.i2l, 1) := by decide +kernel
theorem dX6_item_258 : decode cX6_item 258 = .ok (.lconst 1, 1) := by decide +kernel
theorem dX6_item_259 : decode cX6_item 259 = .ok (.ldc2_w 79, 3) := by decide +kernel
theorem dX6_item_262 : decode cX6_item 262 = .ok (.invokestatic 43, 3) := by decide +kernel
theorem dX6_item_265 : decode cX6_item 265 = .ok (.ifCond .ne 5, 3) := by decide +kernel
theorem dX6_item_268 : decode cX6_item 268 = .ok (.iconst 0, 1) := by decide +kernel
theorem dX6_item_269 : decode cX6_item 269 = .ok (.ireturn, 1) := by decide +kernel
theorem dX6_item_270 : decode cX6_item 270 = .ok (.aload_n 0, 1) := by decide +kernel
theorem dX6_item_271 : decode cX6_item 271 = .ok (.getfield 20, 3) := by decide +kernel
theorem dX6_item_274 : decode cX6_item 274 = .ok (.iconst 1, 1) := by decide +kernel
theorem dX6_item_275 : decode cX6_item 275 = .ok (.aload_n 0, 1) := by decide +kernel
theorem dX6_item_276 : decode cX6_item 276 = .ok (.getfield 29, 3) := by decide +kernel
theorem dX6_item_279 : decode cX6_item 279 = .ok (.iconst 0, 1) := by decide +kernel
theorem dX6_item_280 : decode cX6_item 280 = .ok (.iaload, 1) := by decide +kernel
theorem dX6_item_281 : decode cX6_item 281 = .ok (.iastore, 1) := by decide +kernel
theorem dX6_item_282 : decode cX6_item 282 = .ok (.iconst 1, 1) := by decide +kernel
theorem dX6_item_283 : decode cX6_item 283 = .ok (.ireturn, 1) := by decide +kernel
theorem dX6_item_284 : decode cX6_item 284 = .ok (.aload_n 0, 1) := by decide +kernel
theorem dX6_item_285 : decode cX6_item 285 = .ok (.invokevirtual 81, 3) := by decide +kernel
theorem dX6_item_288 : decode cX6_item 288 = .ok (.ireturn, 1) := by decide +kernel
theorem dX6_item_289 : decode cX6_item 289 = .ok (.iconst 0, 1) := by decide +kernel
theorem dX6_item_290 : decode cX6_item 290 = .ok (.ireturn, 1) := by decide +kernel
set_option maxRecDepth 20000 in
theorem ggX6_readAll_X6_noWorld : GoodIn wsX6_readAll wsX6_noWorld := goodIn_r _ [7, 8, 9, 10, 11, 12, 48, 49, 50, 51, 52, 53, 54, 55, 56, 57, 58] (by decide +kernel) (by decide +kernel)
set_option maxRecDepth 20000 in
theorem gX6_readAll_X6_noWorld : GoodIn wsX6_readAll (wsV RX6 35 RX6 yX6_noWorld wsX6_noWorld) := goodIn_app (goodIn_of _ (by decide +kernel)) ggX6_readAll_X6_noWorld
set_option maxRecDepth 20000 in
theorem ggX6_readAll_X6_item : GoodIn wsX6_readAll wsX6_item := goodIn_r _ [16, 1, 17, 8, 10, 18, 19, 11, 20, 21, 22, 6, 23, 2, 24, 25, 26, 27, 28, 29, 30, 31, 32, 33, 34, 35, 36, 37, 38, 39, 40, 41, 42, 43, 44, 45, 46, 12, 47, 48, 49, 50, 51, 52, 53, 54, 55, 56, 57, 58] (by decide +kernel) (by decide +kernel)
set_option maxRecDepth 20000 in
theorem gX6_readAll_X6_item : GoodIn wsX6_readAll (wsV RX6 84 RX6 yX6_item wsX6_item) := goodIn_app (goodIn_of _ (by decide +kernel)) ggX6_readAll_X6_item
theorem dX6_readAll_0 : decode cX6_readAll 0 = .ok (.aload_n 0, 1) := by decide +kernel
theorem dX6_readAll_1 : decode cX6_readAll 1 = .ok (.iconst 4, 1) := by decide +kernel
theorem dX6_readAll_2 : decode cX6_readAll 2 = .ok (.iconst 1, 1) := by decide +kernel
theorem dX6_readAll_3 : decode cX6_readAll 3 = .ok (.invokevirtual 35, 3) := by decide +kernel
theorem dX6_readAll_6 : decode cX6_readAll 6 = .ok (.aload_n 0, 1) := by decide +kernel
theorem dX6_readAll_7 : decode cX6_readAll 7 = .ok (.iconst 0, 1) := by decide +kernel
theorem dX6_readAll_8 : decode cX6_readAll 8 = .ok (.putfield 53, 3) := by decide +kernel
theorem dX6_readAll_11 : decode cX6_readAll 11 = .ok (.aload_n 0, 1) := by decide +kernel
theorem dX6_readAll_12 : decode cX6_readAll 12 = .ok (.getfield 53, 3) := by decide +kernel
theorem dX6_readAll_15 : decode cX6_readAll 15 = .ok (.aload_n 0, 1) := by decide +kernel
theorem dX6_readAll_16 : decode cX6_readAll 16 = .ok (.getfield 47, 3) := by decide +kernel
theorem dX6_readAll_19 : decode cX6_readAll 19 = .ok (.if_icmp .ge 20, 3) := by decide +kernel
theorem dX6_readAll_22 : decode cX6_readAll 22 = .ok (.aload_n 0, 1) := by decide +kernel
theorem dX6_readAll_23 : decode cX6_readAll 23 = .ok (.getfield 53, 3) := by decide +kernel
theorem dX6_readAll_26 : decode cX6_readAll 26 = .ok (.istore_n 1, 1) := by decide +kernel
theorem dX6_readAll_27 : decode cX6_readAll 27 = .ok (.aload_n 0, 1) := by decide +kernel
theorem dX6_readAll_28 : decode cX6_readAll 28 = .ok (.invokevirtual 84, 3) := by decide +kernel
theorem dX6_readAll_31 : decode cX6_readAll 31 = .ok (.ifCond .ne 5, 3) := by decide +kernel
theorem dX6_readAll_34 : decode cX6_readAll 34 = .ok (.iload_n 1, 1) := by decide +kernel
theorem dX6_readAll_35 : decode cX6_readAll 35 = .ok (.ireturn, 1) := by decide +kernel
theorem dX6_readAll_36 : decode cX6_readAll 36 = .ok (.goto (-25), 3) := by decide +kernel
theorem dX6_readAll_39 : decode cX6_readAll 39 = .ok (.bipush (-4), 2) := by decide +kernel
theorem dX6_readAll_41 : decode cX6_readAll 41 = .ok (.ireturn, 1) := by decide +kernel
set_option maxRecDepth 20000 in
theorem ggX6_fault_X6_readAll : GoodIn wsX6_fault wsX6_readAll := goodIn_r _ [5, 6, 7, 8, 9, 10, 4, 11, 12, 13, 14, 15, 16, 17, 18, 19, 20, 21, 22, 23, 24, 25, 26, 27, 28, 29, 30, 31, 32, 33, 34, 35, 36, 37, 38, 39, 40, 41, 42, 43, 44, 45, 46, 47, 48, 49, 50, 51, 52, 53, 54, 55, 56, 57, 58, 59, 60, 61, 62] (by decide +kernel) (by decide +kernel)
set_option maxRecDepth 20000 in
theorem gX6_fault_X6_readAll : GoodIn wsX6_fault (wsV RX6 87 RX6 yX6_readAll wsX6_readAll) := goodIn_app (goodIn_of _ (by decide +kernel)) ggX6_fault_X6_readAll
theorem dX6_fault_0 : decode cX6_fault 0 = .ok (.aload_n 0, 1) := by decide +kernel
theorem dX6_fault_1 : decode cX6_fault 1 = .ok (.invokevirtual 87, 3) := by decide +kernel
theorem dX6_fault_4 : decode cX6_fault 4 = .ok (.ireturn, 1) := by decide +kernel
theorem dX6_copy_0 : decode cX6_copy 0 = .ok (.iconst 0, 1) := by decide +kernel
theorem dX6_copy_1 : decode cX6_copy 1 = .ok (.istore_n 3, 1) := by decide +kernel
theorem dX6_copy_2 : decode cX6_copy 2 = .ok (.iload_n 3, 1) := by decide +kernel
theorem dX6_copy_3 : decode cX6_copy 3 = .ok (.bipush 72, 2) := by decide +kernel
theorem dX6_copy_5 : decode cX6_copy 5 = .ok (.if_icmp .ge 31, 3) := by decide +kernel
theorem dX6_copy_8 : decode cX6_copy 8 = .ok (.aload_n 0, 1) := by decide +kernel
theorem dX6_copy_9 : decode cX6_copy 9 = .ok (.getfield 13, 3) := by decide +kernel
theorem dX6_copy_12 : decode cX6_copy 12 = .ok (.bipush 72, 2) := by decide +kernel
theorem dX6_copy_14 : decode cX6_copy 14 = .ok (.iload_n 2, 1) := by decide +kernel
theorem dX6_copy_15 : decode cX6_copy 15 = .ok (.imul, 1) := by decide +kernel
theorem dX6_copy_16 : decode cX6_copy 16 = .ok (.iload_n 3, 1) := by decide +kernel
theorem dX6_copy_17 : decode cX6_copy 17 = .ok (.iadd, 1) := by decide +kernel
theorem dX6_copy_18 : decode cX6_copy 18 = .ok (.aload_n 0, 1) := by decide +kernel
theorem dX6_copy_19 : decode cX6_copy 19 = .ok (.getfield 13, 3) := by decide +kernel
theorem dX6_copy_22 : decode cX6_copy 22 = .ok (.bipush 72, 2) := by decide +kernel
theorem dX6_copy_24 : decode cX6_copy 24 = .ok (.iload_n 1, 1) := by decide +kernel
theorem dX6_copy_25 : decode cX6_copy 25 = .ok (.imul, 1) := by decide +kernel
theorem dX6_copy_26 : decode cX6_copy 26 = .ok (.iload_n 3, 1) := by decide +kernel
theorem dX6_copy_27 : decode cX6_copy 27 = .ok (.iadd, 1) := by decide +kernel
theorem dX6_copy_28 : decode cX6_copy 28 = .ok (.laload, 1) := by decide +kernel
theorem dX6_copy_29 : decode cX6_copy 29 = .ok (.lastore, 1) := by decide +kernel
theorem dX6_copy_30 : decode cX6_copy 30 = .ok (.iinc 3 1, 3) := by decide +kernel
theorem dX6_copy_33 : decode cX6_copy 33 = .ok (.goto (-31), 3) := by decide +kernel
theorem dX6_copy_36 : decode cX6_copy 36 = .ok (.iconst 0, 1) := by decide +kernel
theorem dX6_copy_37 : decode cX6_copy 37 = .ok (.istore_n 3, 1) := by decide +kernel
theorem dX6_copy_38 : decode cX6_copy 38 = .ok (.iload_n 3, 1) := by decide +kernel
theorem dX6_copy_39 : decode cX6_copy 39 = .ok (.iconst 3, 1) := by decide +kernel
theorem dX6_copy_40 : decode cX6_copy 40 = .ok (.if_icmp .ge 29, 3) := by decide +kernel
theorem dX6_copy_43 : decode cX6_copy 43 = .ok (.aload_n 0, 1) := by decide +kernel
theorem dX6_copy_44 : decode cX6_copy 44 = .ok (.getfield 17, 3) := by decide +kernel
theorem dX6_copy_47 : decode cX6_copy 47 = .ok (.iconst 3, 1) := by decide +kernel
theorem dX6_copy_48 : decode cX6_copy 48 = .ok (.iload_n 2, 1) := by decide +kernel
theorem dX6_copy_49 : decode cX6_copy 49 = .ok (.imul, 1) := by decide +kernel
theorem dX6_copy_50 : decode cX6_copy 50 = .ok (.iload_n 3, 1) := by decide +kernel
theorem dX6_copy_51 : decode cX6_copy 51 = .ok (.iadd, 1) := by decide +kernel
theorem dX6_copy_52 : decode cX6_copy 52 = .ok (.aload_n 0, 1) := by decide +kernel
theorem dX6_copy_53 : decode cX6_copy 53 = .ok (.getfield 17, 3) := by decide +kernel
theorem dX6_copy_56 : decode cX6_copy 56 = .ok (.iconst 3, 1) := by decide +kernel
theorem dX6_copy_57 : decode cX6_copy 57 = .ok (.iload_n 1, 1) := by decide +kernel
theorem dX6_copy_58 : decode cX6_copy 58 = .ok (.imul, 1) := by decide +kernel
theorem dX6_copy_59 : decode cX6_copy 59 = .ok (.iload_n 3, 1) := by decide +kernel
theorem dX6_copy_60 : decode cX6_copy 60 = .ok (.iadd, 1) := by decide +kernel
theorem dX6_copy_61 : decode cX6_copy 61 = .ok (.laload, 1) := by decide +kernel
theorem dX6_copy_62 : decode cX6_copy 62 = .ok (.lastore, 1) := by decide +kernel
theorem dX6_copy_63 : decode cX6_copy 63 = .ok (.iinc 3 1, 3) := by decide +kernel
theorem dX6_copy_66 : decode cX6_copy 66 = .ok (.goto (-28), 3) := by decide +kernel
theorem dX6_copy_69 : decode cX6_copy 69 = .ok (.return_, 1) := by decide +kernel
set_option maxRecDepth 20000 in
theorem ggX6_realmMany_X6_isRealm : GoodIn wsX6_realmMany wsX6_isRealm := goodIn_r _ [5, 6, 7, 8, 9, 4, 10, 15, 16, 17, 18, 19, 20, 21, 22, 23, 24, 25] (by decide +kernel) (by decide +kernel)
set_option maxRecDepth 20000 in
theorem gX6_realmMany_X6_isRealm : GoodIn wsX6_realmMany (wsV RX6 91 RX6 yX6_isRealm wsX6_isRealm) := goodIn_app (goodIn_of _ (by decide +kernel)) ggX6_realmMany_X6_isRealm
set_option maxRecDepth 20000 in
theorem ggX6_realmMany_X6_mints : GoodIn wsX6_realmMany wsX6_mints := goodIn_r _ [14, 7, 15, 16, 17, 18, 19, 20, 21, 22, 23, 24, 25] (by decide +kernel) (by decide +kernel)
set_option maxRecDepth 20000 in
theorem gX6_realmMany_X6_mints : GoodIn wsX6_realmMany (wsV RX6 94 RX6 yX6_mints wsX6_mints) := goodIn_app (goodIn_of _ (by decide +kernel)) ggX6_realmMany_X6_mints
theorem dX6_realmMany_0 : decode cX6_realmMany 0 = .ok (.iconst 0, 1) := by decide +kernel
theorem dX6_realmMany_1 : decode cX6_realmMany 1 = .ok (.istore_n 2, 1) := by decide +kernel
theorem dX6_realmMany_2 : decode cX6_realmMany 2 = .ok (.iconst 0, 1) := by decide +kernel
theorem dX6_realmMany_3 : decode cX6_realmMany 3 = .ok (.istore_n 3, 1) := by decide +kernel
theorem dX6_realmMany_4 : decode cX6_realmMany 4 = .ok (.iload_n 3, 1) := by decide +kernel
theorem dX6_realmMany_5 : decode cX6_realmMany 5 = .ok (.bipush 8, 2) := by decide +kernel
theorem dX6_realmMany_7 : decode cX6_realmMany 7 = .ok (.if_icmp .ge 37, 3) := by decide +kernel
theorem dX6_realmMany_10 : decode cX6_realmMany 10 = .ok (.iload_n 2, 1) := by decide +kernel
theorem dX6_realmMany_11 : decode cX6_realmMany 11 = .ok (.aload_n 0, 1) := by decide +kernel
theorem dX6_realmMany_12 : decode cX6_realmMany 12 = .ok (.iload_n 3, 1) := by decide +kernel
theorem dX6_realmMany_13 : decode cX6_realmMany 13 = .ok (.invokevirtual 91, 3) := by decide +kernel
theorem dX6_realmMany_16 : decode cX6_realmMany 16 = .ok (.ifCond .eq 19, 3) := by decide +kernel
theorem dX6_realmMany_19 : decode cX6_realmMany 19 = .ok (.iload_n 1, 1) := by decide +kernel
theorem dX6_realmMany_20 : decode cX6_realmMany 20 = .ok (.ifCond .eq 11, 3) := by decide +kernel
theorem dX6_realmMany_23 : decode cX6_realmMany 23 = .ok (.aload_n 0, 1) := by decide +kernel
theorem dX6_realmMany_24 : decode cX6_realmMany 24 = .ok (.iload_n 3, 1) := by decide +kernel
theorem dX6_realmMany_25 : decode cX6_realmMany 25 = .ok (.invokevirtual 94, 3) := by decide +kernel
theorem dX6_realmMany_28 : decode cX6_realmMany 28 = .ok (.ifCond .eq 7, 3) := by decide +kernel
theorem dX6_realmMany_31 : decode cX6_realmMany 31 = .ok (.iconst 1, 1) := by decide +kernel
theorem dX6_realmMany_32 : decode cX6_realmMany 32 = .ok (.goto 4, 3) := by decide +kernel
theorem dX6_realmMany_35 : decode cX6_realmMany 35 = .ok (.iconst 0, 1) := by decide +kernel
theorem dX6_realmMany_36 : decode cX6_realmMany 36 = .ok (.iadd, 1) := by decide +kernel
theorem dX6_realmMany_37 : decode cX6_realmMany 37 = .ok (.istore_n 2, 1) := by decide +kernel
theorem dX6_realmMany_38 : decode cX6_realmMany 38 = .ok (.iinc 3 1, 3) := by decide +kernel
theorem dX6_realmMany_41 : decode cX6_realmMany 41 = .ok (.goto (-37), 3) := by decide +kernel
theorem dX6_realmMany_44 : decode cX6_realmMany 44 = .ok (.iload_n 2, 1) := by decide +kernel
theorem dX6_realmMany_45 : decode cX6_realmMany 45 = .ok (.ireturn, 1) := by decide +kernel
set_option maxRecDepth 20000 in
theorem ggX6_lay_X6_readAll : GoodIn wsX6_lay wsX6_readAll := goodIn_r _ [9, 10, 11, 12, 13, 14, 8, 15, 16, 17, 18, 1, 2, 19, 20, 21, 22, 23, 24, 25, 26, 27, 28, 29, 30, 31, 32, 33, 34, 35, 36, 37, 38, 39, 40, 41, 42, 43, 44, 45, 46, 47, 48, 49, 50, 51, 52, 3, 70, 71, 72, 73, 74, 75, 76, 77, 78, 79, 80] (by decide +kernel) (by decide +kernel)
set_option maxRecDepth 20000 in
theorem gX6_lay_X6_readAll : GoodIn wsX6_lay (wsV RX6 87 RX6 yX6_readAll wsX6_readAll) := goodIn_app (goodIn_of _ (by decide +kernel)) ggX6_lay_X6_readAll
set_option maxRecDepth 20000 in
theorem ggX6_lay_X6_copy : GoodIn wsX6_lay wsX6_copy := goodIn_r _ [56, 16, 18, 70, 71, 72, 73, 74, 75, 76, 77, 78, 79, 80] (by decide +kernel) (by decide +kernel)
set_option maxRecDepth 20000 in
theorem gX6_lay_X6_copy : GoodIn wsX6_lay (wsV RX6 97 RX6 yX6_copy wsX6_copy) := goodIn_app (goodIn_of _ (by decide +kernel)) ggX6_lay_X6_copy
set_option maxRecDepth 20000 in
theorem ggX6_lay_X6_realmMany : GoodIn wsX6_lay wsX6_realmMany := goodIn_r _ [60, 61, 62, 63, 8, 64, 65, 16, 42, 43, 44, 66, 67, 68, 69, 70, 71, 72, 73, 74, 75, 76, 77, 78, 79, 80] (by decide +kernel) (by decide +kernel)
set_option maxRecDepth 20000 in
theorem gX6_lay_X6_realmMany : GoodIn wsX6_lay (wsV RX6 103 RX6 yX6_realmMany wsX6_realmMany) := goodIn_app (goodIn_of _ (by decide +kernel)) ggX6_lay_X6_realmMany
theorem dX6_lay_0 : decode cX6_lay 0 = .ok (.aload_n 0, 1) := by decide +kernel
theorem dX6_lay_1 : decode cX6_lay 1 = .ok (.invokevirtual 87, 3) := by decide +kernel
theorem dX6_lay_4 : decode cX6_lay 4 = .ok (.bipush (-4), 2) := by decide +kernel
theorem dX6_lay_6 : decode cX6_lay 6 = .ok (.if_icmp .eq 6, 3) := by decide +kernel
theorem dX6_lay_9 : decode cX6_lay 9 = .ok (.bipush (-2), 2) := by decide +kernel
theorem dX6_lay_11 : decode cX6_lay 11 = .ok (.ireturn, 1) := by decide +kernel
theorem dX6_lay_12 : decode cX6_lay 12 = .ok (.aload_n 0, 1) := by decide +kernel
theorem dX6_lay_13 : decode cX6_lay 13 = .ok (.iconst 4, 1) := by decide +kernel
theorem dX6_lay_14 : decode cX6_lay 14 = .ok (.iconst 0, 1) := by decide +kernel
theorem dX6_lay_15 : decode cX6_lay 15 = .ok (.invokevirtual 97, 3) := by decide +kernel
theorem dX6_lay_18 : decode cX6_lay 18 = .ok (.aload_n 0, 1) := by decide +kernel
theorem dX6_lay_19 : decode cX6_lay 19 = .ok (.getfield 20, 3) := by decide +kernel
theorem dX6_lay_22 : decode cX6_lay 22 = .ok (.iconst 0, 1) := by decide +kernel
theorem dX6_lay_23 : decode cX6_lay 23 = .ok (.aload_n 0, 1) := by decide +kernel
theorem dX6_lay_24 : decode cX6_lay 24 = .ok (.getfield 20, 3) := by decide +kernel
theorem dX6_lay_27 : decode cX6_lay 27 = .ok (.iconst 1, 1) := by decide +kernel
theorem dX6_lay_28 : decode cX6_lay 28 = .ok (.iaload, 1) := by decide +kernel
theorem dX6_lay_29 : decode cX6_lay 29 = .ok (.iastore, 1) := by decide +kernel
theorem dX6_lay_30 : decode cX6_lay 30 = .ok (.aload_n 0, 1) := by decide +kernel
theorem dX6_lay_31 : decode cX6_lay 31 = .ok (.getfield 23, 3) := by decide +kernel
theorem dX6_lay_34 : decode cX6_lay 34 = .ok (.iconst 0, 1) := by decide +kernel
theorem dX6_lay_35 : decode cX6_lay 35 = .ok (.aload_n 0, 1) := by decide +kernel
theorem dX6_lay_36 : decode cX6_lay 36 = .ok (.getfield 23, 3) := by decide +kernel
theorem dX6_lay_39 : decode cX6_lay 39 = .ok (.iconst 1, 1) := by decide +kernel
theorem dX6_lay_40 : decode cX6_lay 40 = .ok (.iaload, 1) := by decide +kernel
theorem dX6_lay_41 : decode cX6_lay 41 = .ok (.iastore, 1) := by decide +kernel
theorem dX6_lay_42 : decode cX6_lay 42 = .ok (.iconst 0, 1) := by decide +kernel
theorem dX6_lay_43 : decode cX6_lay 43 = .ok (.istore_n 1, 1) := by decide +kernel
theorem dX6_lay_44 : decode cX6_lay 44 = .ok (.iload_n 1, 1) := by decide +kernel
theorem dX6_lay_45 : decode cX6_lay 45 = .ok (.sipush 180, 3) := by decide +kernel
theorem dX6_lay_48 : decode cX6_lay 48 = .ok (.if_icmp .ge 25, 3) := by decide +kernel
theorem dX6_lay_51 : decode cX6_lay 51 = .ok (.aload_n 0, 1) := by decide +kernel
theorem dX6_lay_52 : decode cX6_lay 52 = .ok (.getfield 26, 3) := by decide +kernel
theorem dX6_lay_55 : decode cX6_lay 55 = .ok (.iload_n 1, 1) := by decide +kernel
theorem dX6_lay_56 : decode cX6_lay 56 = .ok (.aload_n 0, 1) := by decide +kernel
theorem dX6_lay_57 : decode cX6_lay 57 = .ok (.getfield 26, 3) := by decide +kernel
theorem dX6_lay_60 : decode cX6_lay 60 = .ok (.sipush 180, 3) := by decide +kernel
theorem dX6_lay_63 : decode cX6_lay 63 = .ok (.iload_n 1, 1) := by decide +kernel
theorem dX6_lay_64 : decode cX6_lay 64 = .ok (.iadd, 1) := by decide +kernel
theorem dX6_lay_65 : decode cX6_lay 65 = .ok (.iaload, 1) := by decide +kernel
theorem dX6_lay_66 : decode cX6_lay 66 = .ok (.iastore, 1) := by decide +kernel
theorem dX6_lay_67 : decode cX6_lay 67 = .ok (.iinc 1 1, 3) := by decide +kernel
theorem dX6_lay_70 : decode cX6_lay 70 = .ok (.goto (-26), 3) := by decide +kernel
theorem dX6_lay_73 : decode cX6_lay 73 = .ok (.aload_n 0, 1) := by decide +kernel
theorem dX6_lay_74 : decode cX6_lay 74 = .ok (.iconst 0, 1) := by decide +kernel
theorem dX6_lay_75 : decode cX6_lay 75 = .ok (.putfield 100, 3) := by decide +kernel
theorem dX6_lay_78 : decode cX6_lay 78 = .ok (.aload_n 0, 1) := by decide +kernel
theorem dX6_lay_79 : decode cX6_lay 79 = .ok (.iconst 0, 1) := by decide +kernel
theorem dX6_lay_80 : decode cX6_lay 80 = .ok (.invokevirtual 103, 3) := by decide +kernel
theorem dX6_lay_83 : decode cX6_lay 83 = .ok (.ireturn, 1) := by decide +kernel
set_option maxRecDepth 20000 in
theorem ggX6_isRealm_X6_in : GoodIn wsX6_isRealm wsX6_in := goodIn_r _ [6] (by decide +kernel) (by decide +kernel)
set_option maxRecDepth 20000 in
theorem gX6_isRealm_X6_in : GoodIn wsX6_isRealm (va_wsS RX6 43 yX6_in wsX6_in) := goodIn_app (goodIn_of _ (by decide +kernel)) ggX6_isRealm_X6_in
theorem dX6_isRealm_0 : decode cX6_isRealm 0 = .ok (.iload_n 1, 1) := by decide +kernel
theorem dX6_isRealm_1 : decode cX6_isRealm 1 = .ok (.i2l, 1) := by decide +kernel
theorem dX6_isRealm_2 : decode cX6_isRealm 2 = .ok (.lconst 0, 1) := by decide +kernel
theorem dX6_isRealm_3 : decode cX6_isRealm 3 = .ok (.ldc2_w 107, 3) := by decide +kernel
theorem dX6_isRealm_6 : decode cX6_isRealm 6 = .ok (.invokestatic 43, 3) := by decide +kernel
theorem dX6_isRealm_9 : decode cX6_isRealm 9 = .ok (.ifCond .eq 21, 3) := by decide +kernel
theorem dX6_isRealm_12 : decode cX6_isRealm 12 = .ok (.aload_n 0, 1) := by decide +kernel
theorem dX6_isRealm_13 : decode cX6_isRealm 13 = .ok (.getfield 13, 3) := by decide +kernel
theorem dX6_isRealm_16 : decode cX6_isRealm 16 = .ok (.bipush 9, 2) := by decide +kernel
theorem dX6_isRealm_18 : decode cX6_isRealm 18 = .ok (.iload_n 1, 1) := by decide +kernel
theorem dX6_isRealm_19 : decode cX6_isRealm 19 = .ok (.imul, 1) := by decide +kernel
theorem dX6_isRealm_20 : decode cX6_isRealm 20 = .ok (.laload, 1) := by decide +kernel
theorem dX6_isRealm_21 : decode cX6_isRealm 21 = .ok (.lconst 0, 1) := by decide +kernel
theorem dX6_isRealm_22 : decode cX6_isRealm 22 = .ok (.lcmp, 1) := by decide +kernel
theorem dX6_isRealm_23 : decode cX6_isRealm 23 = .ok (.ifCond .le 7, 3) := by decide +kernel
theorem dX6_isRealm_26 : decode cX6_isRealm 26 = .ok (.iconst 1, 1) := by decide +kernel
theorem dX6_isRealm_27 : decode cX6_isRealm 27 = .ok (.goto 4, 3) := by decide +kernel
theorem dX6_isRealm_30 : decode cX6_isRealm 30 = .ok (.iconst 0, 1) := by decide +kernel
theorem dX6_isRealm_31 : decode cX6_isRealm 31 = .ok (.ireturn, 1) := by decide +kernel
theorem dX6_mints_0 : decode cX6_mints 0 = .ok (.aload_n 0, 1) := by decide +kernel
theorem dX6_mints_1 : decode cX6_mints 1 = .ok (.getfield 13, 3) := by decide +kernel
theorem dX6_mints_4 : decode cX6_mints 4 = .ok (.bipush 9, 2) := by decide +kernel
theorem dX6_mints_6 : decode cX6_mints 6 = .ok (.iload_n 1, 1) := by decide +kernel
theorem dX6_mints_7 : decode cX6_mints 7 = .ok (.imul, 1) := by decide +kernel
theorem dX6_mints_8 : decode cX6_mints 8 = .ok (.bipush 6, 2) := by decide +kernel
theorem dX6_mints_10 : decode cX6_mints 10 = .ok (.iadd, 1) := by decide +kernel
theorem dX6_mints_11 : decode cX6_mints 11 = .ok (.laload, 1) := by decide +kernel
theorem dX6_mints_12 : decode cX6_mints 12 = .ok (.lconst 1, 1) := by decide +kernel
theorem dX6_mints_13 : decode cX6_mints 13 = .ok (.lcmp, 1) := by decide +kernel
theorem dX6_mints_14 : decode cX6_mints 14 = .ok (.ifCond .ne 7, 3) := by decide +kernel
theorem dX6_mints_17 : decode cX6_mints 17 = .ok (.iconst 1, 1) := by decide +kernel
theorem dX6_mints_18 : decode cX6_mints 18 = .ok (.goto 4, 3) := by decide +kernel
theorem dX6_mints_21 : decode cX6_mints 21 = .ok (.iconst 0, 1) := by decide +kernel
theorem dX6_mints_22 : decode cX6_mints 22 = .ok (.ireturn, 1) := by decide +kernel
set_option maxRecDepth 20000 in
theorem ggX6_realm_X6_isRealm : GoodIn wsX6_realm wsX6_isRealm := goodIn_r _ [8, 1, 2, 9, 10, 7, 11, 12, 13, 14, 15, 16, 17, 18, 19, 20, 21, 22] (by decide +kernel) (by decide +kernel)
set_option maxRecDepth 20000 in
theorem gX6_realm_X6_isRealm : GoodIn wsX6_realm (wsV RX6 91 RX6 yX6_isRealm wsX6_isRealm) := goodIn_app (goodIn_of _ (by decide +kernel)) ggX6_realm_X6_isRealm
set_option maxRecDepth 20000 in
theorem ggX6_realm_X6_in : GoodIn wsX6_realm wsX6_in := goodIn_r _ [11] (by decide +kernel) (by decide +kernel)
set_option maxRecDepth 20000 in
theorem gX6_realm_X6_in : GoodIn wsX6_realm (va_wsS RX6 43 yX6_in wsX6_in) := goodIn_app (goodIn_of _ (by decide +kernel)) ggX6_realm_X6_in
theorem dX6_realm_0 : decode cX6_realm 0 = .ok (.aload_n 0, 1) := by decide +kernel
theorem dX6_realm_1 : decode cX6_realm 1 = .ok (.iload_n 1, 1) := by decide +kernel
theorem dX6_realm_2 : decode cX6_realm 2 = .ok (.invokevirtual 91, 3) := by decide +kernel
theorem dX6_realm_5 : decode cX6_realm 5 = .ok (.ifCond .eq 29, 3) := by decide +kernel
theorem dX6_realm_8 : decode cX6_realm 8 = .ok (.iload_n 2, 1) := by decide +kernel
theorem dX6_realm_9 : decode cX6_realm 9 = .ok (.i2l, 1) := by decide +kernel
theorem dX6_realm_10 : decode cX6_realm 10 = .ok (.lconst 0, 1) := by decide +kernel
theorem dX6_realm_11 : decode cX6_realm 11 = .ok (.ldc2_w 107, 3) := by decide +kernel
theorem dX6_realm_14 : decode cX6_realm 14 = .ok (.invokestatic 43, 3) := by decide +kernel
theorem dX6_realm_17 : decode cX6_realm 17 = .ok (.ifCond .eq 17, 3) := by decide +kernel
theorem dX6_realm_20 : decode cX6_realm 20 = .ok (.aload_n 0, 1) := by decide +kernel
theorem dX6_realm_21 : decode cX6_realm 21 = .ok (.getfield 13, 3) := by decide +kernel
theorem dX6_realm_24 : decode cX6_realm 24 = .ok (.bipush 9, 2) := by decide +kernel
theorem dX6_realm_26 : decode cX6_realm 26 = .ok (.iload_n 1, 1) := by decide +kernel
theorem dX6_realm_27 : decode cX6_realm 27 = .ok (.imul, 1) := by decide +kernel
theorem dX6_realm_28 : decode cX6_realm 28 = .ok (.iload_n 2, 1) := by decide +kernel
theorem dX6_realm_29 : decode cX6_realm 29 = .ok (.iadd, 1) := by decide +kernel
theorem dX6_realm_30 : decode cX6_realm 30 = .ok (.laload, 1) := by decide +kernel
theorem dX6_realm_31 : decode cX6_realm 31 = .ok (.goto 6, 3) := by decide +kernel
theorem dX6_realm_34 : decode cX6_realm 34 = .ok (.ldc2_w 39, 3) := by decide +kernel
theorem dX6_realm_37 : decode cX6_realm 37 = .ok (.lreturn, 1) := by decide +kernel
theorem dX6_ratio_0 : decode cX6_ratio 0 = .ok (.aload_n 0, 1) := by decide +kernel
theorem dX6_ratio_1 : decode cX6_ratio 1 = .ok (.getfield 17, 3) := by decide +kernel
theorem dX6_ratio_4 : decode cX6_ratio 4 = .ok (.iconst 0, 1) := by decide +kernel
theorem dX6_ratio_5 : decode cX6_ratio 5 = .ok (.laload, 1) := by decide +kernel
theorem dX6_ratio_6 : decode cX6_ratio 6 = .ok (.lconst 0, 1) := by decide +kernel
theorem dX6_ratio_7 : decode cX6_ratio 7 = .ok (.lcmp, 1) := by decide +kernel
theorem dX6_ratio_8 : decode cX6_ratio 8 = .ok (.ifCond .ne 7, 3) := by decide +kernel
theorem dX6_ratio_11 : decode cX6_ratio 11 = .ok (.ldc2_w 109, 3) := by decide +kernel
theorem dX6_ratio_14 : decode cX6_ratio 14 = .ok (.lreturn, 1) := by decide +kernel
theorem dX6_ratio_15 : decode cX6_ratio 15 = .ok (.aload_n 0, 1) := by decide +kernel
theorem dX6_ratio_16 : decode cX6_ratio 16 = .ok (.getfield 20, 3) := by decide +kernel
theorem dX6_ratio_19 : decode cX6_ratio 19 = .ok (.iconst 0, 1) := by decide +kernel
theorem dX6_ratio_20 : decode cX6_ratio 20 = .ok (.iaload, 1) := by decide +kernel
theorem dX6_ratio_21 : decode cX6_ratio 21 = .ok (.i2l, 1) := by decide +kernel
theorem dX6_ratio_22 : decode cX6_ratio 22 = .ok (.aload_n 0, 1) := by decide +kernel
theorem dX6_ratio_23 : decode cX6_ratio 23 = .ok (.getfield 17, 3) := by decide +kernel
theorem dX6_ratio_26 : decode cX6_ratio 26 = .ok (.iconst 1, 1) := by decide +kernel
theorem dX6_ratio_27 : decode cX6_ratio 27 = .ok (.laload, 1) := by decide +kernel
theorem dX6_ratio_28 : decode cX6_ratio 28 = .ok (.lmul, 1) := by decide +kernel
theorem dX6_ratio_29 : decode cX6_ratio 29 = .ok (.ldc2_w 73, 3) := by decide +kernel
theorem dX6_ratio_32 : decode cX6_ratio 32 = .ok (.aload_n 0, 1) := by decide +kernel
theorem dX6_ratio_33 : decode cX6_ratio 33 = .ok (.getfield 17, 3) := by decide +kernel
theorem dX6_ratio_36 : decode cX6_ratio 36 = .ok (.iconst 0, 1) := by decide +kernel
theorem dX6_ratio_37 : decode cX6_ratio 37 = .ok (.laload, 1) := by decide +kernel
theorem dX6_ratio_38 : decode cX6_ratio 38 = .ok (.lmul, 1) := by decide +kernel
theorem dX6_ratio_39 : decode cX6_ratio 39 = .ok (.ldiv, 1) := by decide +kernel
theorem dX6_ratio_40 : decode cX6_ratio 40 = .ok (.lstore_n 1, 1) := by decide +kernel
theorem dX6_ratio_41 : decode cX6_ratio 41 = .ok (.lload_n 1, 1) := by decide +kernel
theorem dX6_ratio_42 : decode cX6_ratio 42 = .ok (.ldc2_w 109, 3) := by decide +kernel
theorem dX6_ratio_45 : decode cX6_ratio 45 = .ok (.lcmp, 1) := by decide +kernel
theorem dX6_ratio_46 : decode cX6_ratio 46 = .ok (.ifCond .le 9, 3) := by decide +kernel
theorem dX6_ratio_49 : decode cX6_ratio 49 = .ok (.ldc2_w 109, 3) := by decide +kernel
theorem dX6_ratio_52 : decode cX6_ratio 52 = .ok (.goto 4, 3) := by decide +kernel
theorem dX6_ratio_55 : decode cX6_ratio 55 = .ok (.lload_n 1, 1) := by decide +kernel
theorem dX6_ratio_56 : decode cX6_ratio 56 = .ok (.lreturn, 1) := by decide +kernel
set_option maxRecDepth 20000 in
theorem ggX6_market_X6_ratio : GoodIn wsX6_market wsX6_ratio := goodIn_r _ [7, 1, 8, 9, 10, 11, 12, 13, 14, 15, 16, 17, 18, 19, 20, 21] (by decide +kernel) (by decide +kernel)
set_option maxRecDepth 20000 in
theorem gX6_market_X6_ratio : GoodIn wsX6_market (wsV RX6 111 RX6 yX6_ratio wsX6_ratio) := goodIn_app (goodIn_of _ (by decide +kernel)) ggX6_market_X6_ratio
theorem dX6_market_0 : decode cX6_market 0 = .ok (.iload_n 1, 1) := by decide +kernel
theorem dX6_market_1 : decode cX6_market 1 = .ok (.tableswitch 57 0 3 #[31, 38, 45, 50], 31) := by decide +kernel
theorem dX6_market_32 : decode cX6_market 32 = .ok (.aload_n 0, 1) := by decide +kernel
theorem dX6_market_33 : decode cX6_market 33 = .ok (.getfield 17, 3) := by decide +kernel
theorem dX6_market_36 : decode cX6_market 36 = .ok (.iconst 0, 1) := by decide +kernel
theorem dX6_market_37 : decode cX6_market 37 = .ok (.laload, 1) := by decide +kernel
theorem dX6_market_38 : decode cX6_market 38 = .ok (.lreturn, 1) := by decide +kernel
theorem dX6_market_39 : decode cX6_market 39 = .ok (.aload_n 0, 1) := by decide +kernel
theorem dX6_market_40 : decode cX6_market 40 = .ok (.getfield 17, 3) := by decide +kernel
theorem dX6_market_43 : decode cX6_market 43 = .ok (.iconst 1, 1) := by decide +kernel
theorem dX6_market_44 : decode cX6_market 44 = .ok (.laload, 1) := by decide +kernel
theorem dX6_market_45 : decode cX6_market 45 = .ok (.lreturn, 1) := by decide +kernel
theorem dX6_market_46 : decode cX6_market 46 = .ok (.aload_n 0, 1) := by decide +kernel
theorem dX6_market_47 : decode cX6_market 47 = .ok (.invokevirtual 111, 3) := by decide +kernel
theorem dX6_market_50 : decode cX6_market 50 = .ok (.lreturn, 1) := by decide +kernel
theorem dX6_market_51 : decode cX6_market 51 = .ok (.aload_n 0, 1) := by decide +kernel
theorem dX6_market_52 : decode cX6_market 52 = .ok (.getfield 17, 3) := by decide +kernel
theorem dX6_market_55 : decode cX6_market 55 = .ok (.iconst 2, 1) := by decide +kernel
theorem dX6_market_56 : decode cX6_market 56 = .ok (.laload, 1) := by decide +kernel
theorem dX6_market_57 : decode cX6_market 57 = .ok (.lreturn, 1) := by decide +kernel
theorem dX6_market_58 : decode cX6_market 58 = .ok (.ldc2_w 39, 3) := by decide +kernel
theorem dX6_market_61 : decode cX6_market 61 = .ok (.lreturn, 1) := by decide +kernel
theorem dX6_above_0 : decode cX6_above 0 = .ok (.lload_n 0, 1) := by decide +kernel
theorem dX6_above_1 : decode cX6_above 1 = .ok (.lconst 0, 1) := by decide +kernel
theorem dX6_above_2 : decode cX6_above 2 = .ok (.lcmp, 1) := by decide +kernel
theorem dX6_above_3 : decode cX6_above 3 = .ok (.ifCond .ge 7, 3) := by decide +kernel
theorem dX6_above_6 : decode cX6_above 6 = .ok (.lconst 0, 1) := by decide +kernel
theorem dX6_above_7 : decode cX6_above 7 = .ok (.goto 4, 3) := by decide +kernel
theorem dX6_above_10 : decode cX6_above 10 = .ok (.lload_n 0, 1) := by decide +kernel
theorem dX6_above_11 : decode cX6_above 11 = .ok (.lreturn, 1) := by decide +kernel
set_option maxRecDepth 20000 in
theorem ggX6_movesOf_X6_isRealm : GoodIn wsX6_movesOf wsX6_isRealm := goodIn_r _ [8, 9, 1, 10, 11, 7, 12, 26, 27, 28, 29, 30, 31, 32, 33, 34, 35, 36] (by decide +kernel) (by decide +kernel)
set_option maxRecDepth 20000 in
theorem gX6_movesOf_X6_isRealm : GoodIn wsX6_movesOf (wsV RX6 91 RX6 yX6_isRealm wsX6_isRealm) := goodIn_app (goodIn_of _ (by decide +kernel)) ggX6_movesOf_X6_isRealm
set_option maxRecDepth 20000 in
theorem ggX6_movesOf_X6_mints : GoodIn wsX6_movesOf wsX6_mints := goodIn_r _ [16, 1, 26, 27, 28, 29, 30, 31, 32, 33, 34, 35, 36] (by decide +kernel) (by decide +kernel)
set_option maxRecDepth 20000 in
theorem gX6_movesOf_X6_mints : GoodIn wsX6_movesOf (wsV RX6 94 RX6 yX6_mints wsX6_mints) := goodIn_app (goodIn_of _ (by decide +kernel)) ggX6_movesOf_X6_mints
set_option maxRecDepth 20000 in
theorem ggX6_movesOf_X6_ratio : GoodIn wsX6_movesOf wsX6_ratio := goodIn_r _ [20, 2, 21, 22, 3, 26, 27, 28, 29, 30, 31, 32, 33, 34, 35, 36] (by decide +kernel) (by decide +kernel)
set_option maxRecDepth 20000 in
theorem gX6_movesOf_X6_ratio : GoodIn wsX6_movesOf (wsV RX6 111 RX6 yX6_ratio wsX6_ratio) := goodIn_app (goodIn_of _ (by decide +kernel)) ggX6_movesOf_X6_ratio
set_option maxRecDepth 20000 in
theorem ggX6_movesOf_X6_above : GoodIn wsX6_movesOf wsX6_above := goodIn_r _ [25] (by decide +kernel) (by decide +kernel)
set_option maxRecDepth 20000 in
theorem gX6_movesOf_X6_above : GoodIn wsX6_movesOf (va_wsS RX6 115 yX6_above wsX6_above) := goodIn_app (goodIn_of _ (by decide +kernel)) ggX6_movesOf_X6_above
theorem dX6_movesOf_0 : decode cX6_movesOf 0 = .ok (.bipush 9, 2) := by decide +kernel
theorem dX6_movesOf_2 : decode cX6_movesOf 2 = .ok (.iload_n 1, 1) := by decide +kernel
theorem dX6_movesOf_3 : decode cX6_movesOf 3 = .ok (.imul, 1) := by decide +kernel
theorem dX6_movesOf_4 : decode cX6_movesOf 4 = .ok (.istore_n 2, 1) := by decide +kernel
theorem dX6_movesOf_5 : decode cX6_movesOf 5 = .ok (.aload_n 0, 1) := by decide +kernel
theorem dX6_movesOf_6 : decode cX6_movesOf 6 = .ok (.iload_n 1, 1) := by decide +kernel
theorem dX6_movesOf_7 : decode cX6_movesOf 7 = .ok (.invokevirtual 91, 3) := by decide +kernel
theorem dX6_movesOf_10 : decode cX6_movesOf 10 = .ok (.ifCond .eq 11, 3) := by decide +kernel
theorem dX6_movesOf_13 : decode cX6_movesOf 13 = .ok (.aload_n 0, 1) := by decide +kernel
theorem dX6_movesOf_14 : decode cX6_movesOf 14 = .ok (.iload_n 1, 1) := by decide +kernel
theorem dX6_movesOf_15 : decode cX6_movesOf 15 = .ok (.invokevirtual 94, 3) := by decide +kernel
theorem dX6_movesOf_18 : decode cX6_movesOf 18 = .ok (.ifCond .ne 5, 3) := by decide +kernel
theorem dX6_movesOf_21 : decode cX6_movesOf 21 = .ok (.iconst 0, 1) := by decide +kernel
theorem dX6_movesOf_22 : decode cX6_movesOf 22 = .ok (.ireturn, 1) := by decide +kernel
theorem dX6_movesOf_23 : decode cX6_movesOf 23 = .ok (.aload_n 0, 1) := by decide +kernel
theorem dX6_movesOf_24 : decode cX6_movesOf 24 = .ok (.invokevirtual 111, 3) := by decide +kernel
theorem dX6_movesOf_27 : decode cX6_movesOf 27 = .ok (.lstore_n 3, 1) := by decide +kernel
theorem dX6_movesOf_28 : decode cX6_movesOf 28 = .ok (.aload_n 0, 1) := by decide +kernel
end
section
theorem dX6_movesOf_29 : decode cX6_movesOf 29 = .ok (.getfield 13, 3) := by decide +kernel
theorem dX6_movesOf_32 : decode cX6_movesOf 32 = .ok (.iload_n 2, 1) := by decide +kernel
theorem dX6_movesOf_33 : decode cX6_movesOf 33 = .ok (.bipush 7, 2) := by decide +kernel
theorem dX6_movesOf_35 : decode cX6_movesOf 35 = .ok (.iadd, 1) := by decide +kernel
theorem dX6_movesOf_36 : decode cX6_movesOf 36 = .ok (.laload, 1) := by decide +kernel
theorem dX6_movesOf_37 : decode cX6_movesOf 37 = .ok (.lconst 0, 1) := by decide +kernel
theorem dX6_movesOf_38 : decode cX6_movesOf 38 = .ok (.lcmp, 1) := by decide +kernel
theorem dX6_movesOf_39 : decode cX6_movesOf 39 = .ok (.ifCond .ne 73, 3) := by decide +kernel
theorem dX6_movesOf_42 : decode cX6_movesOf 42 = .ok (.aload_n 0, 1) := by decide +kernel
theorem dX6_movesOf_43 : decode cX6_movesOf 43 = .ok (.getfield 13, 3) := by decide +kernel
theorem dX6_movesOf_46 : decode cX6_movesOf 46 = .ok (.iload_n 2, 1) := by decide +kernel
theorem dX6_movesOf_47 : decode cX6_movesOf 47 = .ok (.iconst 3, 1) := by decide +kernel
theorem dX6_movesOf_48 : decode cX6_movesOf 48 = .ok (.iadd, 1) := by decide +kernel
theorem dX6_movesOf_49 : decode cX6_movesOf 49 = .ok (.laload, 1) := by decide +kernel
theorem dX6_movesOf_50 : decode cX6_movesOf 50 = .ok (.lconst 0, 1) := by decide +kernel
theorem dX6_movesOf_51 : decode cX6_movesOf 51 = .ok (.lcmp, 1) := by decide +kernel
theorem dX6_movesOf_52 : decode cX6_movesOf 52 = .ok (.ifCond .le 60, 3) := by decide +kernel
theorem dX6_movesOf_55 : decode cX6_movesOf 55 = .ok (.aload_n 0, 1) := by decide +kernel
theorem dX6_movesOf_56 : decode cX6_movesOf 56 = .ok (.getfield 17, 3) := by decide +kernel
theorem dX6_movesOf_59 : decode cX6_movesOf 59 = .ok (.iconst 1, 1) := by decide +kernel
theorem dX6_movesOf_60 : decode cX6_movesOf 60 = .ok (.laload, 1) := by decide +kernel
theorem dX6_movesOf_61 : decode cX6_movesOf 61 = .ok (.aload_n 0, 1) := by decide +kernel
theorem dX6_movesOf_62 : decode cX6_movesOf 62 = .ok (.getfield 13, 3) := by decide +kernel
theorem dX6_movesOf_65 : decode cX6_movesOf 65 = .ok (.iload_n 2, 1) := by decide +kernel
theorem dX6_movesOf_66 : decode cX6_movesOf 66 = .ok (.laload, 1) := by decide +kernel
theorem dX6_movesOf_67 : decode cX6_movesOf 67 = .ok (.lcmp, 1) := by decide +kernel
theorem dX6_movesOf_68 : decode cX6_movesOf 68 = .ok (.ifCond .lt 44, 3) := by decide +kernel
theorem dX6_movesOf_71 : decode cX6_movesOf 71 = .ok (.lload_n 3, 1) := by decide +kernel
theorem dX6_movesOf_72 : decode cX6_movesOf 72 = .ok (.ldc2_w 73, 3) := by decide +kernel
theorem dX6_movesOf_75 : decode cX6_movesOf 75 = .ok (.aload_n 0, 1) := by decide +kernel
theorem dX6_movesOf_76 : decode cX6_movesOf 76 = .ok (.getfield 13, 3) := by decide +kernel
theorem dX6_movesOf_79 : decode cX6_movesOf 79 = .ok (.iload_n 2, 1) := by decide +kernel
theorem dX6_movesOf_80 : decode cX6_movesOf 80 = .ok (.iconst 2, 1) := by decide +kernel
theorem dX6_movesOf_81 : decode cX6_movesOf 81 = .ok (.iadd, 1) := by decide +kernel
theorem dX6_movesOf_82 : decode cX6_movesOf 82 = .ok (.laload, 1) := by decide +kernel
theorem dX6_movesOf_83 : decode cX6_movesOf 83 = .ok (.lsub, 1) := by decide +kernel
theorem dX6_movesOf_84 : decode cX6_movesOf 84 = .ok (.lmul, 1) := by decide +kernel
theorem dX6_movesOf_85 : decode cX6_movesOf 85 = .ok (.ldc2_w 73, 3) := by decide +kernel
theorem dX6_movesOf_88 : decode cX6_movesOf 88 = .ok (.aload_n 0, 1) := by decide +kernel
theorem dX6_movesOf_89 : decode cX6_movesOf 89 = .ok (.getfield 13, 3) := by decide +kernel
theorem dX6_movesOf_92 : decode cX6_movesOf 92 = .ok (.iload_n 2, 1) := by decide +kernel
theorem dX6_movesOf_93 : decode cX6_movesOf 93 = .ok (.laload, 1) := by decide +kernel
theorem dX6_movesOf_94 : decode cX6_movesOf 94 = .ok (.aload_n 0, 1) := by decide +kernel
theorem dX6_movesOf_95 : decode cX6_movesOf 95 = .ok (.getfield 13, 3) := by decide +kernel
theorem dX6_movesOf_98 : decode cX6_movesOf 98 = .ok (.iload_n 2, 1) := by decide +kernel
theorem dX6_movesOf_99 : decode cX6_movesOf 99 = .ok (.iconst 1, 1) := by decide +kernel
theorem dX6_movesOf_100 : decode cX6_movesOf 100 = .ok (.iadd, 1) := by decide +kernel
theorem dX6_movesOf_101 : decode cX6_movesOf 101 = .ok (.laload, 1) := by decide +kernel
theorem dX6_movesOf_102 : decode cX6_movesOf 102 = .ok (.ladd, 1) := by decide +kernel
theorem dX6_movesOf_103 : decode cX6_movesOf 103 = .ok (.lmul, 1) := by decide +kernel
theorem dX6_movesOf_104 : decode cX6_movesOf 104 = .ok (.lcmp, 1) := by decide +kernel
theorem dX6_movesOf_105 : decode cX6_movesOf 105 = .ok (.ifCond .le 7, 3) := by decide +kernel
theorem dX6_movesOf_108 : decode cX6_movesOf 108 = .ok (.iconst 1, 1) := by decide +kernel
theorem dX6_movesOf_109 : decode cX6_movesOf 109 = .ok (.goto 4, 3) := by decide +kernel
theorem dX6_movesOf_112 : decode cX6_movesOf 112 = .ok (.iconst 0, 1) := by decide +kernel
theorem dX6_movesOf_113 : decode cX6_movesOf 113 = .ok (.istore 5, 2) := by decide +kernel
theorem dX6_movesOf_115 : decode cX6_movesOf 115 = .ok (.aload_n 0, 1) := by decide +kernel
theorem dX6_movesOf_116 : decode cX6_movesOf 116 = .ok (.getfield 17, 3) := by decide +kernel
theorem dX6_movesOf_119 : decode cX6_movesOf 119 = .ok (.iconst 0, 1) := by decide +kernel
theorem dX6_movesOf_120 : decode cX6_movesOf 120 = .ok (.laload, 1) := by decide +kernel
theorem dX6_movesOf_121 : decode cX6_movesOf 121 = .ok (.lconst 0, 1) := by decide +kernel
theorem dX6_movesOf_122 : decode cX6_movesOf 122 = .ok (.lcmp, 1) := by decide +kernel
theorem dX6_movesOf_123 : decode cX6_movesOf 123 = .ok (.ifCond .le 65, 3) := by decide +kernel
theorem dX6_movesOf_126 : decode cX6_movesOf 126 = .ok (.aload_n 0, 1) := by decide +kernel
theorem dX6_movesOf_127 : decode cX6_movesOf 127 = .ok (.getfield 13, 3) := by decide +kernel
theorem dX6_movesOf_130 : decode cX6_movesOf 130 = .ok (.iload_n 2, 1) := by decide +kernel
theorem dX6_movesOf_131 : decode cX6_movesOf 131 = .ok (.iconst 4, 1) := by decide +kernel
theorem dX6_movesOf_132 : decode cX6_movesOf 132 = .ok (.iadd, 1) := by decide +kernel
theorem dX6_movesOf_133 : decode cX6_movesOf 133 = .ok (.laload, 1) := by decide +kernel
theorem dX6_movesOf_134 : decode cX6_movesOf 134 = .ok (.aload_n 0, 1) := by decide +kernel
theorem dX6_movesOf_135 : decode cX6_movesOf 135 = .ok (.getfield 13, 3) := by decide +kernel
theorem dX6_movesOf_138 : decode cX6_movesOf 138 = .ok (.iload_n 2, 1) := by decide +kernel
theorem dX6_movesOf_139 : decode cX6_movesOf 139 = .ok (.laload, 1) := by decide +kernel
theorem dX6_movesOf_140 : decode cX6_movesOf 140 = .ok (.lcmp, 1) := by decide +kernel
theorem dX6_movesOf_141 : decode cX6_movesOf 141 = .ok (.ifCond .lt 47, 3) := by decide +kernel
theorem dX6_movesOf_144 : decode cX6_movesOf 144 = .ok (.lload_n 3, 1) := by decide +kernel
theorem dX6_movesOf_145 : decode cX6_movesOf 145 = .ok (.ldc2_w 73, 3) := by decide +kernel
theorem dX6_movesOf_148 : decode cX6_movesOf 148 = .ok (.aload_n 0, 1) := by decide +kernel
theorem dX6_movesOf_149 : decode cX6_movesOf 149 = .ok (.getfield 13, 3) := by decide +kernel
theorem dX6_movesOf_152 : decode cX6_movesOf 152 = .ok (.iload_n 2, 1) := by decide +kernel
theorem dX6_movesOf_153 : decode cX6_movesOf 153 = .ok (.iconst 2, 1) := by decide +kernel
theorem dX6_movesOf_154 : decode cX6_movesOf 154 = .ok (.iadd, 1) := by decide +kernel
theorem dX6_movesOf_155 : decode cX6_movesOf 155 = .ok (.laload, 1) := by decide +kernel
theorem dX6_movesOf_156 : decode cX6_movesOf 156 = .ok (.ladd, 1) := by decide +kernel
theorem dX6_movesOf_157 : decode cX6_movesOf 157 = .ok (.lmul, 1) := by decide +kernel
theorem dX6_movesOf_158 : decode cX6_movesOf 158 = .ok (.ldc2_w 73, 3) := by decide +kernel
theorem dX6_movesOf_161 : decode cX6_movesOf 161 = .ok (.aload_n 0, 1) := by decide +kernel
theorem dX6_movesOf_162 : decode cX6_movesOf 162 = .ok (.getfield 13, 3) := by decide +kernel
theorem dX6_movesOf_165 : decode cX6_movesOf 165 = .ok (.iload_n 2, 1) := by decide +kernel
theorem dX6_movesOf_166 : decode cX6_movesOf 166 = .ok (.laload, 1) := by decide +kernel
theorem dX6_movesOf_167 : decode cX6_movesOf 167 = .ok (.aload_n 0, 1) := by decide +kernel
theorem dX6_movesOf_168 : decode cX6_movesOf 168 = .ok (.getfield 13, 3) := by decide +kernel
theorem dX6_movesOf_171 : decode cX6_movesOf 171 = .ok (.iload_n 2, 1) := by decide +kernel
theorem dX6_movesOf_172 : decode cX6_movesOf 172 = .ok (.iconst 1, 1) := by decide +kernel
theorem dX6_movesOf_173 : decode cX6_movesOf 173 = .ok (.iadd, 1) := by decide +kernel
theorem dX6_movesOf_174 : decode cX6_movesOf 174 = .ok (.laload, 1) := by decide +kernel
theorem dX6_movesOf_175 : decode cX6_movesOf 175 = .ok (.lsub, 1) := by decide +kernel
theorem dX6_movesOf_176 : decode cX6_movesOf 176 = .ok (.invokestatic 115, 3) := by decide +kernel
theorem dX6_movesOf_179 : decode cX6_movesOf 179 = .ok (.lmul, 1) := by decide +kernel
theorem dX6_movesOf_180 : decode cX6_movesOf 180 = .ok (.lcmp, 1) := by decide +kernel
theorem dX6_movesOf_181 : decode cX6_movesOf 181 = .ok (.ifCond .ge 7, 3) := by decide +kernel
theorem dX6_movesOf_184 : decode cX6_movesOf 184 = .ok (.iconst 1, 1) := by decide +kernel
theorem dX6_movesOf_185 : decode cX6_movesOf 185 = .ok (.goto 4, 3) := by decide +kernel
theorem dX6_movesOf_188 : decode cX6_movesOf 188 = .ok (.iconst 0, 1) := by decide +kernel
theorem dX6_movesOf_189 : decode cX6_movesOf 189 = .ok (.istore 6, 2) := by decide +kernel
theorem dX6_movesOf_191 : decode cX6_movesOf 191 = .ok (.iload 5, 2) := by decide +kernel
theorem dX6_movesOf_193 : decode cX6_movesOf 193 = .ok (.ifCond .eq 7, 3) := by decide +kernel
theorem dX6_movesOf_196 : decode cX6_movesOf 196 = .ok (.iconst 1, 1) := by decide +kernel
theorem dX6_movesOf_197 : decode cX6_movesOf 197 = .ok (.goto 13, 3) := by decide +kernel
theorem dX6_movesOf_200 : decode cX6_movesOf 200 = .ok (.iload 6, 2) := by decide +kernel
theorem dX6_movesOf_202 : decode cX6_movesOf 202 = .ok (.ifCond .eq 7, 3) := by decide +kernel
theorem dX6_movesOf_205 : decode cX6_movesOf 205 = .ok (.iconst 2, 1) := by decide +kernel
theorem dX6_movesOf_206 : decode cX6_movesOf 206 = .ok (.goto 4, 3) := by decide +kernel
theorem dX6_movesOf_209 : decode cX6_movesOf 209 = .ok (.iconst 0, 1) := by decide +kernel
theorem dX6_movesOf_210 : decode cX6_movesOf 210 = .ok (.ireturn, 1) := by decide +kernel
set_option maxRecDepth 20000 in
theorem ggX6_moves_X6_isRealm : GoodIn wsX6_moves wsX6_isRealm := goodIn_r _ [5, 6, 7, 8, 9, 4, 10, 30, 31, 32, 33, 34, 35, 36, 37, 38, 39, 40] (by decide +kernel) (by decide +kernel)
set_option maxRecDepth 20000 in
theorem gX6_moves_X6_isRealm : GoodIn wsX6_moves (wsV RX6 91 RX6 yX6_isRealm wsX6_isRealm) := goodIn_app (goodIn_of _ (by decide +kernel)) ggX6_moves_X6_isRealm
set_option maxRecDepth 20000 in
theorem ggX6_moves_X6_movesOf : GoodIn wsX6_moves wsX6_movesOf := goodIn_r _ [14, 7, 15, 16, 1, 2, 3, 4, 5, 6, 8, 9, 10, 17, 18, 19, 20, 21, 22, 23, 24, 25, 26, 27, 28, 29, 30, 31, 32, 33, 34, 35, 36, 37, 38, 39, 40] (by decide +kernel) (by decide +kernel)
set_option maxRecDepth 20000 in
theorem gX6_moves_X6_movesOf : GoodIn wsX6_moves (wsV RX6 119 RX6 yX6_movesOf wsX6_movesOf) := goodIn_app (goodIn_of _ (by decide +kernel)) ggX6_moves_X6_movesOf
theorem dX6_moves_0 : decode cX6_moves 0 = .ok (.aload_n 0, 1) := by decide +kernel
theorem dX6_moves_1 : decode cX6_moves 1 = .ok (.iload_n 1, 1) := by decide +kernel
theorem dX6_moves_2 : decode cX6_moves 2 = .ok (.invokevirtual 91, 3) := by decide +kernel
theorem dX6_moves_5 : decode cX6_moves 5 = .ok (.ifCond .eq 11, 3) := by decide +kernel
theorem dX6_moves_8 : decode cX6_moves 8 = .ok (.aload_n 0, 1) := by decide +kernel
theorem dX6_moves_9 : decode cX6_moves 9 = .ok (.iload_n 1, 1) := by decide +kernel
theorem dX6_moves_10 : decode cX6_moves 10 = .ok (.invokevirtual 119, 3) := by decide +kernel
theorem dX6_moves_13 : decode cX6_moves 13 = .ok (.goto 4, 3) := by decide +kernel
theorem dX6_moves_16 : decode cX6_moves 16 = .ok (.iconst (-1), 1) := by decide +kernel
theorem dX6_moves_17 : decode cX6_moves 17 = .ok (.ireturn, 1) := by decide +kernel
set_option maxRecDepth 20000 in
theorem ggX6_endOf_X6_above : GoodIn wsX6_endOf wsX6_above := goodIn_r _ [8] (by decide +kernel) (by decide +kernel)
set_option maxRecDepth 20000 in
theorem gX6_endOf_X6_above : GoodIn wsX6_endOf (va_wsS RX6 115 yX6_above wsX6_above) := goodIn_app (goodIn_of _ (by decide +kernel)) ggX6_endOf_X6_above
theorem dX6_endOf_0 : decode cX6_endOf 0 = .ok (.aload_n 0, 1) := by decide +kernel
theorem dX6_endOf_1 : decode cX6_endOf 1 = .ok (.getfield 13, 3) := by decide +kernel
theorem dX6_endOf_4 : decode cX6_endOf 4 = .ok (.bipush 9, 2) := by decide +kernel
theorem dX6_endOf_6 : decode cX6_endOf 6 = .ok (.iload_n 1, 1) := by decide +kernel
theorem dX6_endOf_7 : decode cX6_endOf 7 = .ok (.imul, 1) := by decide +kernel
theorem dX6_endOf_8 : decode cX6_endOf 8 = .ok (.laload, 1) := by decide +kernel
theorem dX6_endOf_9 : decode cX6_endOf 9 = .ok (.lstore_n 3, 1) := by decide +kernel
theorem dX6_endOf_10 : decode cX6_endOf 10 = .ok (.aload_n 0, 1) := by decide +kernel
theorem dX6_endOf_11 : decode cX6_endOf 11 = .ok (.getfield 13, 3) := by decide +kernel
theorem dX6_endOf_14 : decode cX6_endOf 14 = .ok (.bipush 9, 2) := by decide +kernel
theorem dX6_endOf_16 : decode cX6_endOf 16 = .ok (.iload_n 1, 1) := by decide +kernel
theorem dX6_endOf_17 : decode cX6_endOf 17 = .ok (.imul, 1) := by decide +kernel
theorem dX6_endOf_18 : decode cX6_endOf 18 = .ok (.iconst 1, 1) := by decide +kernel
theorem dX6_endOf_19 : decode cX6_endOf 19 = .ok (.iadd, 1) := by decide +kernel
theorem dX6_endOf_20 : decode cX6_endOf 20 = .ok (.laload, 1) := by decide +kernel
theorem dX6_endOf_21 : decode cX6_endOf 21 = .ok (.lstore 5, 2) := by decide +kernel
theorem dX6_endOf_23 : decode cX6_endOf 23 = .ok (.aload_n 0, 1) := by decide +kernel
theorem dX6_endOf_24 : decode cX6_endOf 24 = .ok (.getfield 13, 3) := by decide +kernel
theorem dX6_endOf_27 : decode cX6_endOf 27 = .ok (.bipush 9, 2) := by decide +kernel
theorem dX6_endOf_29 : decode cX6_endOf 29 = .ok (.iload_n 1, 1) := by decide +kernel
theorem dX6_endOf_30 : decode cX6_endOf 30 = .ok (.imul, 1) := by decide +kernel
theorem dX6_endOf_31 : decode cX6_endOf 31 = .ok (.iconst 2, 1) := by decide +kernel
theorem dX6_endOf_32 : decode cX6_endOf 32 = .ok (.iadd, 1) := by decide +kernel
theorem dX6_endOf_33 : decode cX6_endOf 33 = .ok (.laload, 1) := by decide +kernel
theorem dX6_endOf_34 : decode cX6_endOf 34 = .ok (.lstore 7, 2) := by decide +kernel
theorem dX6_endOf_36 : decode cX6_endOf 36 = .ok (.iload_n 2, 1) := by decide +kernel
theorem dX6_endOf_37 : decode cX6_endOf 37 = .ok (.ifCond .eq 38, 3) := by decide +kernel
theorem dX6_endOf_40 : decode cX6_endOf 40 = .ok (.ldc2_w 73, 3) := by decide +kernel
theorem dX6_endOf_43 : decode cX6_endOf 43 = .ok (.lload_n 3, 1) := by decide +kernel
theorem dX6_endOf_44 : decode cX6_endOf 44 = .ok (.lload 5, 2) := by decide +kernel
theorem dX6_endOf_46 : decode cX6_endOf 46 = .ok (.ladd, 1) := by decide +kernel
theorem dX6_endOf_47 : decode cX6_endOf 47 = .ok (.lmul, 1) := by decide +kernel
theorem dX6_endOf_48 : decode cX6_endOf 48 = .ok (.ldc2_w 73, 3) := by decide +kernel
theorem dX6_endOf_51 : decode cX6_endOf 51 = .ok (.lload 7, 2) := by decide +kernel
theorem dX6_endOf_53 : decode cX6_endOf 53 = .ok (.lsub, 1) := by decide +kernel
theorem dX6_endOf_54 : decode cX6_endOf 54 = .ok (.ldiv, 1) := by decide +kernel
theorem dX6_endOf_55 : decode cX6_endOf 55 = .ok (.lstore 9, 2) := by decide +kernel
theorem dX6_endOf_57 : decode cX6_endOf 57 = .ok (.lload 9, 2) := by decide +kernel
theorem dX6_endOf_59 : decode cX6_endOf 59 = .ok (.ldc2_w 109, 3) := by decide +kernel
theorem dX6_endOf_62 : decode cX6_endOf 62 = .ok (.lcmp, 1) := by decide +kernel
theorem dX6_endOf_63 : decode cX6_endOf 63 = .ok (.ifCond .le 9, 3) := by decide +kernel
theorem dX6_endOf_66 : decode cX6_endOf 66 = .ok (.ldc2_w 109, 3) := by decide +kernel
theorem dX6_endOf_69 : decode cX6_endOf 69 = .ok (.goto 5, 3) := by decide +kernel
theorem dX6_endOf_72 : decode cX6_endOf 72 = .ok (.lload 9, 2) := by decide +kernel
theorem dX6_endOf_74 : decode cX6_endOf 74 = .ok (.lreturn, 1) := by decide +kernel
theorem dX6_endOf_75 : decode cX6_endOf 75 = .ok (.ldc2_w 73, 3) := by decide +kernel
theorem dX6_endOf_78 : decode cX6_endOf 78 = .ok (.lload_n 3, 1) := by decide +kernel
theorem dX6_endOf_79 : decode cX6_endOf 79 = .ok (.lload 5, 2) := by decide +kernel
theorem dX6_endOf_81 : decode cX6_endOf 81 = .ok (.lsub, 1) := by decide +kernel
theorem dX6_endOf_82 : decode cX6_endOf 82 = .ok (.invokestatic 115, 3) := by decide +kernel
theorem dX6_endOf_85 : decode cX6_endOf 85 = .ok (.lmul, 1) := by decide +kernel
theorem dX6_endOf_86 : decode cX6_endOf 86 = .ok (.ldc2_w 122, 3) := by decide +kernel
theorem dX6_endOf_89 : decode cX6_endOf 89 = .ok (.ladd, 1) := by decide +kernel
theorem dX6_endOf_90 : decode cX6_endOf 90 = .ok (.lload 7, 2) := by decide +kernel
theorem dX6_endOf_92 : decode cX6_endOf 92 = .ok (.ladd, 1) := by decide +kernel
theorem dX6_endOf_93 : decode cX6_endOf 93 = .ok (.ldc2_w 73, 3) := by decide +kernel
theorem dX6_endOf_96 : decode cX6_endOf 96 = .ok (.lload 7, 2) := by decide +kernel
theorem dX6_endOf_98 : decode cX6_endOf 98 = .ok (.ladd, 1) := by decide +kernel
theorem dX6_endOf_99 : decode cX6_endOf 99 = .ok (.ldiv, 1) := by decide +kernel
theorem dX6_endOf_100 : decode cX6_endOf 100 = .ok (.lreturn, 1) := by decide +kernel
set_option maxRecDepth 20000 in
theorem ggX6_ends_X6_isRealm : GoodIn wsX6_ends wsX6_isRealm := goodIn_r _ [5, 6, 7, 8, 9, 4, 10, 21, 22, 23, 24, 25, 26, 27, 28, 29, 30, 31] (by decide +kernel) (by decide +kernel)
set_option maxRecDepth 20000 in
theorem gX6_ends_X6_isRealm : GoodIn wsX6_ends (wsV RX6 91 RX6 yX6_isRealm wsX6_isRealm) := goodIn_app (goodIn_of _ (by decide +kernel)) ggX6_ends_X6_isRealm
set_option maxRecDepth 20000 in
theorem ggX6_ends_X6_in : GoodIn wsX6_ends wsX6_in := goodIn_r _ [10] (by decide +kernel) (by decide +kernel)
set_option maxRecDepth 20000 in
theorem gX6_ends_X6_in : GoodIn wsX6_ends (va_wsS RX6 43 yX6_in wsX6_in) := goodIn_app (goodIn_of _ (by decide +kernel)) ggX6_ends_X6_in
set_option maxRecDepth 20000 in
theorem ggX6_ends_X6_endOf : GoodIn wsX6_ends wsX6_endOf := goodIn_r _ [14, 7, 15, 16, 17, 18, 19, 4, 20, 21, 22, 23, 24, 25, 26, 27, 28, 29, 30, 31] (by decide +kernel) (by decide +kernel)
set_option maxRecDepth 20000 in
theorem gX6_ends_X6_endOf : GoodIn wsX6_ends (wsV RX6 124 RX6 yX6_endOf wsX6_endOf) := goodIn_app (goodIn_of _ (by decide +kernel)) ggX6_ends_X6_endOf
theorem dX6_ends_0 : decode cX6_ends 0 = .ok (.aload_n 0, 1) := by decide +kernel
theorem dX6_ends_1 : decode cX6_ends 1 = .ok (.iload_n 1, 1) := by decide +kernel
theorem dX6_ends_2 : decode cX6_ends 2 = .ok (.invokevirtual 91, 3) := by decide +kernel
theorem dX6_ends_5 : decode cX6_ends 5 = .ok (.ifCond .eq 32, 3) := by decide +kernel
theorem dX6_ends_8 : decode cX6_ends 8 = .ok (.iload_n 2, 1) := by decide +kernel
theorem dX6_ends_9 : decode cX6_ends 9 = .ok (.i2l, 1) := by decide +kernel
theorem dX6_ends_10 : decode cX6_ends 10 = .ok (.lconst 0, 1) := by decide +kernel
theorem dX6_ends_11 : decode cX6_ends 11 = .ok (.lconst 1, 1) := by decide +kernel
theorem dX6_ends_12 : decode cX6_ends 12 = .ok (.invokestatic 43, 3) := by decide +kernel
theorem dX6_ends_15 : decode cX6_ends 15 = .ok (.ifCond .eq 22, 3) := by decide +kernel
theorem dX6_ends_18 : decode cX6_ends 18 = .ok (.aload_n 0, 1) := by decide +kernel
theorem dX6_ends_19 : decode cX6_ends 19 = .ok (.iload_n 1, 1) := by decide +kernel
theorem dX6_ends_20 : decode cX6_ends 20 = .ok (.iload_n 2, 1) := by decide +kernel
theorem dX6_ends_21 : decode cX6_ends 21 = .ok (.iconst 1, 1) := by decide +kernel
theorem dX6_ends_22 : decode cX6_ends 22 = .ok (.if_icmp .ne 7, 3) := by decide +kernel
theorem dX6_ends_25 : decode cX6_ends 25 = .ok (.iconst 1, 1) := by decide +kernel
theorem dX6_ends_26 : decode cX6_ends 26 = .ok (.goto 4, 3) := by decide +kernel
theorem dX6_ends_29 : decode cX6_ends 29 = .ok (.iconst 0, 1) := by decide +kernel
theorem dX6_ends_30 : decode cX6_ends 30 = .ok (.invokevirtual 124, 3) := by decide +kernel
theorem dX6_ends_33 : decode cX6_ends 33 = .ok (.l2i, 1) := by decide +kernel
theorem dX6_ends_34 : decode cX6_ends 34 = .ok (.goto 4, 3) := by decide +kernel
theorem dX6_ends_37 : decode cX6_ends 37 = .ok (.iconst (-1), 1) := by decide +kernel
theorem dX6_ends_38 : decode cX6_ends 38 = .ok (.ireturn, 1) := by decide +kernel
set_option maxRecDepth 20000 in
theorem ggX6_holdsRatio_X6_ratio : GoodIn wsX6_holdsRatio wsX6_ratio := goodIn_r _ [6, 7, 8, 9, 10, 31, 32, 33, 34, 35, 36, 37, 38, 39, 40, 41] (by decide +kernel) (by decide +kernel)
set_option maxRecDepth 20000 in
theorem gX6_holdsRatio_X6_ratio : GoodIn wsX6_holdsRatio (wsV RX6 111 RX6 yX6_ratio wsX6_ratio) := goodIn_app (goodIn_of _ (by decide +kernel)) ggX6_holdsRatio_X6_ratio
set_option maxRecDepth 20000 in
theorem ggX6_holdsRatio_X6_isRealm : GoodIn wsX6_holdsRatio wsX6_isRealm := goodIn_r _ [14, 15, 1, 16, 17, 5, 18, 31, 32, 33, 34, 35, 36, 37, 38, 39, 40, 41] (by decide +kernel) (by decide +kernel)
set_option maxRecDepth 20000 in
theorem gX6_holdsRatio_X6_isRealm : GoodIn wsX6_holdsRatio (wsV RX6 91 RX6 yX6_isRealm wsX6_isRealm) := goodIn_app (goodIn_of _ (by decide +kernel)) ggX6_holdsRatio_X6_isRealm
set_option maxRecDepth 20000 in
theorem ggX6_holdsRatio_X6_mints : GoodIn wsX6_holdsRatio wsX6_mints := goodIn_r _ [22, 1, 31, 32, 33, 34, 35, 36, 37, 38, 39, 40, 41] (by decide +kernel) (by decide +kernel)
set_option maxRecDepth 20000 in
theorem gX6_holdsRatio_X6_mints : GoodIn wsX6_holdsRatio (wsV RX6 94 RX6 yX6_mints wsX6_mints) := goodIn_app (goodIn_of _ (by decide +kernel)) ggX6_holdsRatio_X6_mints
set_option maxRecDepth 20000 in
theorem ggX6_holdsRatio_X6_endOf : GoodIn wsX6_holdsRatio wsX6_endOf := goodIn_r _ [26, 1, 10, 8, 27, 28, 29, 5, 30, 31, 32, 33, 34, 35, 36, 37, 38, 39, 40, 41] (by decide +kernel) (by decide +kernel)
set_option maxRecDepth 20000 in
theorem gX6_holdsRatio_X6_endOf : GoodIn wsX6_holdsRatio (wsV RX6 124 RX6 yX6_endOf wsX6_endOf) := goodIn_app (goodIn_of _ (by decide +kernel)) ggX6_holdsRatio_X6_endOf
theorem dX6_holdsRatio_0 : decode cX6_holdsRatio 0 = .ok (.aload_n 0, 1) := by decide +kernel
theorem dX6_holdsRatio_1 : decode cX6_holdsRatio 1 = .ok (.invokevirtual 111, 3) := by decide +kernel
theorem dX6_holdsRatio_4 : decode cX6_holdsRatio 4 = .ok (.lstore_n 2, 1) := by decide +kernel
theorem dX6_holdsRatio_5 : decode cX6_holdsRatio 5 = .ok (.aload_n 0, 1) := by decide +kernel
theorem dX6_holdsRatio_6 : decode cX6_holdsRatio 6 = .ok (.iload_n 1, 1) := by decide +kernel
theorem dX6_holdsRatio_7 : decode cX6_holdsRatio 7 = .ok (.invokevirtual 91, 3) := by decide +kernel
theorem dX6_holdsRatio_10 : decode cX6_holdsRatio 10 = .ok (.ifCond .eq 77, 3) := by decide +kernel
theorem dX6_holdsRatio_13 : decode cX6_holdsRatio 13 = .ok (.aload_n 0, 1) := by decide +kernel
theorem dX6_holdsRatio_14 : decode cX6_holdsRatio 14 = .ok (.iload_n 1, 1) := by decide +kernel
theorem dX6_holdsRatio_15 : decode cX6_holdsRatio 15 = .ok (.invokevirtual 94, 3) := by decide +kernel
theorem dX6_holdsRatio_18 : decode cX6_holdsRatio 18 = .ok (.ifCond .eq 69, 3) := by decide +kernel
theorem dX6_holdsRatio_21 : decode cX6_holdsRatio 21 = .ok (.lload_n 2, 1) := by decide +kernel
theorem dX6_holdsRatio_22 : decode cX6_holdsRatio 22 = .ok (.aload_n 0, 1) := by decide +kernel
theorem dX6_holdsRatio_23 : decode cX6_holdsRatio 23 = .ok (.iload_n 1, 1) := by decide +kernel
theorem dX6_holdsRatio_24 : decode cX6_holdsRatio 24 = .ok (.iconst 0, 1) := by decide +kernel
theorem dX6_holdsRatio_25 : decode cX6_holdsRatio 25 = .ok (.invokevirtual 124, 3) := by decide +kernel
theorem dX6_holdsRatio_28 : decode cX6_holdsRatio 28 = .ok (.lcmp, 1) := by decide +kernel
theorem dX6_holdsRatio_29 : decode cX6_holdsRatio 29 = .ok (.ifCond .lt 58, 3) := by decide +kernel
theorem dX6_holdsRatio_32 : decode cX6_holdsRatio 32 = .ok (.lload_n 2, 1) := by decide +kernel
theorem dX6_holdsRatio_33 : decode cX6_holdsRatio 33 = .ok (.aload_n 0, 1) := by decide +kernel
theorem dX6_holdsRatio_34 : decode cX6_holdsRatio 34 = .ok (.iload_n 1, 1) := by decide +kernel
theorem dX6_holdsRatio_35 : decode cX6_holdsRatio 35 = .ok (.iconst 1, 1) := by decide +kernel
theorem dX6_holdsRatio_36 : decode cX6_holdsRatio 36 = .ok (.invokevirtual 124, 3) := by decide +kernel
theorem dX6_holdsRatio_39 : decode cX6_holdsRatio 39 = .ok (.lcmp, 1) := by decide +kernel
theorem dX6_holdsRatio_40 : decode cX6_holdsRatio 40 = .ok (.ifCond .gt 47, 3) := by decide +kernel
theorem dX6_holdsRatio_43 : decode cX6_holdsRatio 43 = .ok (.aload_n 0, 1) := by decide +kernel
theorem dX6_holdsRatio_44 : decode cX6_holdsRatio 44 = .ok (.getfield 13, 3) := by decide +kernel
theorem dX6_holdsRatio_47 : decode cX6_holdsRatio 47 = .ok (.bipush 9, 2) := by decide +kernel
theorem dX6_holdsRatio_49 : decode cX6_holdsRatio 49 = .ok (.iload_n 1, 1) := by decide +kernel
theorem dX6_holdsRatio_50 : decode cX6_holdsRatio 50 = .ok (.imul, 1) := by decide +kernel
theorem dX6_holdsRatio_51 : decode cX6_holdsRatio 51 = .ok (.iconst 3, 1) := by decide +kernel
theorem dX6_holdsRatio_52 : decode cX6_holdsRatio 52 = .ok (.iadd, 1) := by decide +kernel
theorem dX6_holdsRatio_53 : decode cX6_holdsRatio 53 = .ok (.laload, 1) := by decide +kernel
theorem dX6_holdsRatio_54 : decode cX6_holdsRatio 54 = .ok (.lconst 0, 1) := by decide +kernel
theorem dX6_holdsRatio_55 : decode cX6_holdsRatio 55 = .ok (.lcmp, 1) := by decide +kernel
theorem dX6_holdsRatio_56 : decode cX6_holdsRatio 56 = .ok (.ifCond .le 31, 3) := by decide +kernel
theorem dX6_holdsRatio_59 : decode cX6_holdsRatio 59 = .ok (.aload_n 0, 1) := by decide +kernel
theorem dX6_holdsRatio_60 : decode cX6_holdsRatio 60 = .ok (.getfield 13, 3) := by decide +kernel
theorem dX6_holdsRatio_63 : decode cX6_holdsRatio 63 = .ok (.bipush 9, 2) := by decide +kernel
theorem dX6_holdsRatio_65 : decode cX6_holdsRatio 65 = .ok (.iload_n 1, 1) := by decide +kernel
theorem dX6_holdsRatio_66 : decode cX6_holdsRatio 66 = .ok (.imul, 1) := by decide +kernel
theorem dX6_holdsRatio_67 : decode cX6_holdsRatio 67 = .ok (.iconst 4, 1) := by decide +kernel
theorem dX6_holdsRatio_68 : decode cX6_holdsRatio 68 = .ok (.iadd, 1) := by decide +kernel
theorem dX6_holdsRatio_69 : decode cX6_holdsRatio 69 = .ok (.laload, 1) := by decide +kernel
theorem dX6_holdsRatio_70 : decode cX6_holdsRatio 70 = .ok (.aload_n 0, 1) := by decide +kernel
theorem dX6_holdsRatio_71 : decode cX6_holdsRatio 71 = .ok (.getfield 13, 3) := by decide +kernel
theorem dX6_holdsRatio_74 : decode cX6_holdsRatio 74 = .ok (.bipush 9, 2) := by decide +kernel
theorem dX6_holdsRatio_76 : decode cX6_holdsRatio 76 = .ok (.iload_n 1, 1) := by decide +kernel
theorem dX6_holdsRatio_77 : decode cX6_holdsRatio 77 = .ok (.imul, 1) := by decide +kernel
theorem dX6_holdsRatio_78 : decode cX6_holdsRatio 78 = .ok (.laload, 1) := by decide +kernel
theorem dX6_holdsRatio_79 : decode cX6_holdsRatio 79 = .ok (.lcmp, 1) := by decide +kernel
theorem dX6_holdsRatio_80 : decode cX6_holdsRatio 80 = .ok (.ifCond .lt 7, 3) := by decide +kernel
theorem dX6_holdsRatio_83 : decode cX6_holdsRatio 83 = .ok (.iconst 1, 1) := by decide +kernel
theorem dX6_holdsRatio_84 : decode cX6_holdsRatio 84 = .ok (.goto 4, 3) := by decide +kernel
theorem dX6_holdsRatio_87 : decode cX6_holdsRatio 87 = .ok (.iconst 0, 1) := by decide +kernel
theorem dX6_holdsRatio_88 : decode cX6_holdsRatio 88 = .ok (.ireturn, 1) := by decide +kernel
set_option maxRecDepth 20000 in
theorem ggX6_held_X6_holdsRatio : GoodIn wsX6_held wsX6_holdsRatio := goodIn_r _ [5, 6, 7, 8, 9, 4, 10, 11, 12, 13, 14, 15, 16, 17, 18, 19, 20, 21, 22, 23, 24, 25, 26, 27, 28, 29, 30, 31, 32, 33, 34, 35, 36, 37, 38, 39, 40, 41, 42, 43, 44, 45] (by decide +kernel) (by decide +kernel)
set_option maxRecDepth 20000 in
theorem gX6_held_X6_holdsRatio : GoodIn wsX6_held (wsV RX6 128 RX6 yX6_holdsRatio wsX6_holdsRatio) := goodIn_app (goodIn_of _ (by decide +kernel)) ggX6_held_X6_holdsRatio
theorem dX6_held_0 : decode cX6_held 0 = .ok (.iconst 0, 1) := by decide +kernel
theorem dX6_held_1 : decode cX6_held 1 = .ok (.istore_n 1, 1) := by decide +kernel
theorem dX6_held_2 : decode cX6_held 2 = .ok (.iconst 0, 1) := by decide +kernel
theorem dX6_held_3 : decode cX6_held 3 = .ok (.istore_n 2, 1) := by decide +kernel
theorem dX6_held_4 : decode cX6_held 4 = .ok (.iload_n 2, 1) := by decide +kernel
theorem dX6_held_5 : decode cX6_held 5 = .ok (.bipush 8, 2) := by decide +kernel
theorem dX6_held_7 : decode cX6_held 7 = .ok (.if_icmp .ge 27, 3) := by decide +kernel
theorem dX6_held_10 : decode cX6_held 10 = .ok (.iload_n 1, 1) := by decide +kernel
theorem dX6_held_11 : decode cX6_held 11 = .ok (.aload_n 0, 1) := by decide +kernel
theorem dX6_held_12 : decode cX6_held 12 = .ok (.iload_n 2, 1) := by decide +kernel
theorem dX6_held_13 : decode cX6_held 13 = .ok (.invokevirtual 128, 3) := by decide +kernel
theorem dX6_held_16 : decode cX6_held 16 = .ok (.ifCond .eq 9, 3) := by decide +kernel
theorem dX6_held_19 : decode cX6_held 19 = .ok (.iconst 1, 1) := by decide +kernel
theorem dX6_held_20 : decode cX6_held 20 = .ok (.iload_n 2, 1) := by decide +kernel
theorem dX6_held_21 : decode cX6_held 21 = .ok (.ishl, 1) := by decide +kernel
theorem dX6_held_22 : decode cX6_held 22 = .ok (.goto 4, 3) := by decide +kernel
theorem dX6_held_25 : decode cX6_held 25 = .ok (.iconst 0, 1) := by decide +kernel
theorem dX6_held_26 : decode cX6_held 26 = .ok (.ior, 1) := by decide +kernel
theorem dX6_held_27 : decode cX6_held 27 = .ok (.istore_n 1, 1) := by decide +kernel
theorem dX6_held_28 : decode cX6_held 28 = .ok (.iinc 2 1, 3) := by decide +kernel
theorem dX6_held_31 : decode cX6_held 31 = .ok (.goto (-27), 3) := by decide +kernel
theorem dX6_held_34 : decode cX6_held 34 = .ok (.iload_n 1, 1) := by decide +kernel
theorem dX6_held_35 : decode cX6_held 35 = .ok (.ireturn, 1) := by decide +kernel
theorem dX6_moveSack_0 : decode cX6_moveSack 0 = .ok (.iload_n 2, 1) := by decide +kernel
theorem dX6_moveSack_1 : decode cX6_moveSack 1 = .ok (.iconst 1, 1) := by decide +kernel
theorem dX6_moveSack_2 : decode cX6_moveSack 2 = .ok (.if_icmp .ne 7, 3) := by decide +kernel
theorem dX6_moveSack_5 : decode cX6_moveSack 5 = .ok (.lconst 1, 1) := by decide +kernel
theorem dX6_moveSack_6 : decode cX6_moveSack 6 = .ok (.goto 6, 3) := by decide +kernel
theorem dX6_moveSack_9 : decode cX6_moveSack 9 = .ok (.ldc2_w 39, 3) := by decide +kernel
theorem dX6_moveSack_12 : decode cX6_moveSack 12 = .ok (.lstore_n 3, 1) := by decide +kernel
theorem dX6_moveSack_13 : decode cX6_moveSack 13 = .ok (.bipush 9, 2) := by decide +kernel
theorem dX6_moveSack_15 : decode cX6_moveSack 15 = .ok (.iload_n 1, 1) := by decide +kernel
theorem dX6_moveSack_16 : decode cX6_moveSack 16 = .ok (.imul, 1) := by decide +kernel
theorem dX6_moveSack_17 : decode cX6_moveSack 17 = .ok (.istore 5, 2) := by decide +kernel
theorem dX6_moveSack_19 : decode cX6_moveSack 19 = .ok (.aload_n 0, 1) := by decide +kernel
theorem dX6_moveSack_20 : decode cX6_moveSack 20 = .ok (.getfield 13, 3) := by decide +kernel
theorem dX6_moveSack_23 : decode cX6_moveSack 23 = .ok (.iload 5, 2) := by decide +kernel
theorem dX6_moveSack_25 : decode cX6_moveSack 25 = .ok (.iconst 3, 1) := by decide +kernel
theorem dX6_moveSack_26 : decode cX6_moveSack 26 = .ok (.iadd, 1) := by decide +kernel
theorem dX6_moveSack_27 : decode cX6_moveSack 27 = .ok (.dup2, 1) := by decide +kernel
theorem dX6_moveSack_28 : decode cX6_moveSack 28 = .ok (.laload, 1) := by decide +kernel
theorem dX6_moveSack_29 : decode cX6_moveSack 29 = .ok (.lload_n 3, 1) := by decide +kernel
theorem dX6_moveSack_30 : decode cX6_moveSack 30 = .ok (.lsub, 1) := by decide +kernel
theorem dX6_moveSack_31 : decode cX6_moveSack 31 = .ok (.lastore, 1) := by decide +kernel
theorem dX6_moveSack_32 : decode cX6_moveSack 32 = .ok (.aload_n 0, 1) := by decide +kernel
theorem dX6_moveSack_33 : decode cX6_moveSack 33 = .ok (.getfield 17, 3) := by decide +kernel
theorem dX6_moveSack_36 : decode cX6_moveSack 36 = .ok (.iconst 0, 1) := by decide +kernel
theorem dX6_moveSack_37 : decode cX6_moveSack 37 = .ok (.dup2, 1) := by decide +kernel
theorem dX6_moveSack_38 : decode cX6_moveSack 38 = .ok (.laload, 1) := by decide +kernel
theorem dX6_moveSack_39 : decode cX6_moveSack 39 = .ok (.lload_n 3, 1) := by decide +kernel
theorem dX6_moveSack_40 : decode cX6_moveSack 40 = .ok (.ladd, 1) := by decide +kernel
theorem dX6_moveSack_41 : decode cX6_moveSack 41 = .ok (.lastore, 1) := by decide +kernel
theorem dX6_moveSack_42 : decode cX6_moveSack 42 = .ok (.aload_n 0, 1) := by decide +kernel
theorem dX6_moveSack_43 : decode cX6_moveSack 43 = .ok (.getfield 13, 3) := by decide +kernel
theorem dX6_moveSack_46 : decode cX6_moveSack 46 = .ok (.iload 5, 2) := by decide +kernel
theorem dX6_moveSack_48 : decode cX6_moveSack 48 = .ok (.iconst 4, 1) := by decide +kernel
theorem dX6_moveSack_49 : decode cX6_moveSack 49 = .ok (.iadd, 1) := by decide +kernel
theorem dX6_moveSack_50 : decode cX6_moveSack 50 = .ok (.dup2, 1) := by decide +kernel
theorem dX6_moveSack_51 : decode cX6_moveSack 51 = .ok (.laload, 1) := by decide +kernel
theorem dX6_moveSack_52 : decode cX6_moveSack 52 = .ok (.lload_n 3, 1) := by decide +kernel
theorem dX6_moveSack_53 : decode cX6_moveSack 53 = .ok (.aload_n 0, 1) := by decide +kernel
theorem dX6_moveSack_54 : decode cX6_moveSack 54 = .ok (.getfield 13, 3) := by decide +kernel
theorem dX6_moveSack_57 : decode cX6_moveSack 57 = .ok (.iload 5, 2) := by decide +kernel
theorem dX6_moveSack_59 : decode cX6_moveSack 59 = .ok (.laload, 1) := by decide +kernel
theorem dX6_moveSack_60 : decode cX6_moveSack 60 = .ok (.lmul, 1) := by decide +kernel
theorem dX6_moveSack_61 : decode cX6_moveSack 61 = .ok (.ladd, 1) := by decide +kernel
theorem dX6_moveSack_62 : decode cX6_moveSack 62 = .ok (.lastore, 1) := by decide +kernel
theorem dX6_moveSack_63 : decode cX6_moveSack 63 = .ok (.aload_n 0, 1) := by decide +kernel
theorem dX6_moveSack_64 : decode cX6_moveSack 64 = .ok (.getfield 17, 3) := by decide +kernel
theorem dX6_moveSack_67 : decode cX6_moveSack 67 = .ok (.iconst 1, 1) := by decide +kernel
theorem dX6_moveSack_68 : decode cX6_moveSack 68 = .ok (.dup2, 1) := by decide +kernel
theorem dX6_moveSack_69 : decode cX6_moveSack 69 = .ok (.laload, 1) := by decide +kernel
theorem dX6_moveSack_70 : decode cX6_moveSack 70 = .ok (.lload_n 3, 1) := by decide +kernel
theorem dX6_moveSack_71 : decode cX6_moveSack 71 = .ok (.aload_n 0, 1) := by decide +kernel
theorem dX6_moveSack_72 : decode cX6_moveSack 72 = .ok (.getfield 13, 3) := by decide +kernel
theorem dX6_moveSack_75 : decode cX6_moveSack 75 = .ok (.iload 5, 2) := by decide +kernel
theorem dX6_moveSack_77 : decode cX6_moveSack 77 = .ok (.laload, 1) := by decide +kernel
theorem dX6_moveSack_78 : decode cX6_moveSack 78 = .ok (.lmul, 1) := by decide +kernel
theorem dX6_moveSack_79 : decode cX6_moveSack 79 = .ok (.lsub, 1) := by decide +kernel
theorem dX6_moveSack_80 : decode cX6_moveSack 80 = .ok (.lastore, 1) := by decide +kernel
theorem dX6_moveSack_81 : decode cX6_moveSack 81 = .ok (.return_, 1) := by decide +kernel
set_option maxRecDepth 20000 in
theorem ggX6_goYear_X6_isRealm : GoodIn wsX6_goYear wsX6_isRealm := goodIn_r _ [11, 12, 6, 13, 14, 10, 15, 38, 39, 40, 41, 42, 43, 44, 45, 46, 47, 48] (by decide +kernel) (by decide +kernel)
set_option maxRecDepth 20000 in
theorem gX6_goYear_X6_isRealm : GoodIn wsX6_goYear (wsV RX6 91 RX6 yX6_isRealm wsX6_isRealm) := goodIn_app (goodIn_of _ (by decide +kernel)) ggX6_goYear_X6_isRealm
set_option maxRecDepth 20000 in
theorem ggX6_goYear_X6_movesOf : GoodIn wsX6_goYear wsX6_movesOf := goodIn_r _ [19, 6, 3, 4, 7, 8, 9, 10, 11, 12, 13, 14, 15, 20, 21, 22, 23, 24, 25, 26, 27, 28, 29, 30, 31, 32, 38, 39, 40, 41, 42, 43, 44, 45, 46, 47, 48] (by decide +kernel) (by decide +kernel)
set_option maxRecDepth 20000 in
theorem gX6_goYear_X6_movesOf : GoodIn wsX6_goYear (wsV RX6 119 RX6 yX6_movesOf wsX6_movesOf) := goodIn_app (goodIn_of _ (by decide +kernel)) ggX6_goYear_X6_movesOf
set_option maxRecDepth 20000 in
theorem ggX6_goYear_X6_moveSack : GoodIn wsX6_goYear wsX6_moveSack := goodIn_r _ [36, 37, 6, 3, 38, 39, 40, 41, 42, 43, 44, 45, 46, 47, 48] (by decide +kernel) (by decide +kernel)
set_option maxRecDepth 20000 in
theorem gX6_goYear_X6_moveSack : GoodIn wsX6_goYear (wsV RX6 131 RX6 yX6_moveSack wsX6_moveSack) := goodIn_app (goodIn_of _ (by decide +kernel)) ggX6_goYear_X6_moveSack
theorem dX6_goYear_0 : decode cX6_goYear 0 = .ok (.bipush (-4), 2) := by decide +kernel
theorem dX6_goYear_2 : decode cX6_goYear 2 = .ok (.istore_n 1, 1) := by decide +kernel
theorem dX6_goYear_3 : decode cX6_goYear 3 = .ok (.iconst 0, 1) := by decide +kernel
theorem dX6_goYear_4 : decode cX6_goYear 4 = .ok (.istore_n 2, 1) := by decide +kernel
theorem dX6_goYear_5 : decode cX6_goYear 5 = .ok (.iload_n 2, 1) := by decide +kernel
theorem dX6_goYear_6 : decode cX6_goYear 6 = .ok (.aload_n 0, 1) := by decide +kernel
theorem dX6_goYear_7 : decode cX6_goYear 7 = .ok (.getfield 23, 3) := by decide +kernel
theorem dX6_goYear_10 : decode cX6_goYear 10 = .ok (.iconst 0, 1) := by decide +kernel
theorem dX6_goYear_11 : decode cX6_goYear 11 = .ok (.iaload, 1) := by decide +kernel
theorem dX6_goYear_12 : decode cX6_goYear 12 = .ok (.if_icmp .ge 59, 3) := by decide +kernel
theorem dX6_goYear_15 : decode cX6_goYear 15 = .ok (.aload_n 0, 1) := by decide +kernel
theorem dX6_goYear_16 : decode cX6_goYear 16 = .ok (.getfield 26, 3) := by decide +kernel
theorem dX6_goYear_19 : decode cX6_goYear 19 = .ok (.iconst 3, 1) := by decide +kernel
theorem dX6_goYear_20 : decode cX6_goYear 20 = .ok (.iload_n 2, 1) := by decide +kernel
theorem dX6_goYear_21 : decode cX6_goYear 21 = .ok (.imul, 1) := by decide +kernel
theorem dX6_goYear_22 : decode cX6_goYear 22 = .ok (.iaload, 1) := by decide +kernel
theorem dX6_goYear_23 : decode cX6_goYear 23 = .ok (.i2l, 1) := by decide +kernel
theorem dX6_goYear_24 : decode cX6_goYear 24 = .ok (.aload_n 0, 1) := by decide +kernel
theorem dX6_goYear_25 : decode cX6_goYear 25 = .ok (.getfield 17, 3) := by decide +kernel
theorem dX6_goYear_28 : decode cX6_goYear 28 = .ok (.iconst 2, 1) := by decide +kernel
theorem dX6_goYear_29 : decode cX6_goYear 29 = .ok (.laload, 1) := by decide +kernel
theorem dX6_goYear_30 : decode cX6_goYear 30 = .ok (.lcmp, 1) := by decide +kernel
theorem dX6_goYear_31 : decode cX6_goYear 31 = .ok (.ifCond .gt 32, 3) := by decide +kernel
theorem dX6_goYear_34 : decode cX6_goYear 34 = .ok (.iload_n 1, 1) := by decide +kernel
theorem dX6_goYear_35 : decode cX6_goYear 35 = .ok (.bipush (-4), 2) := by decide +kernel
theorem dX6_goYear_37 : decode cX6_goYear 37 = .ok (.if_icmp .eq 22, 3) := by decide +kernel
theorem dX6_goYear_40 : decode cX6_goYear 40 = .ok (.aload_n 0, 1) := by decide +kernel
theorem dX6_goYear_41 : decode cX6_goYear 41 = .ok (.getfield 26, 3) := by decide +kernel
theorem dX6_goYear_44 : decode cX6_goYear 44 = .ok (.iconst 3, 1) := by decide +kernel
theorem dX6_goYear_45 : decode cX6_goYear 45 = .ok (.iload_n 2, 1) := by decide +kernel
theorem dX6_goYear_46 : decode cX6_goYear 46 = .ok (.imul, 1) := by decide +kernel
theorem dX6_goYear_47 : decode cX6_goYear 47 = .ok (.iaload, 1) := by decide +kernel
theorem dX6_goYear_48 : decode cX6_goYear 48 = .ok (.aload_n 0, 1) := by decide +kernel
theorem dX6_goYear_49 : decode cX6_goYear 49 = .ok (.getfield 26, 3) := by decide +kernel
theorem dX6_goYear_52 : decode cX6_goYear 52 = .ok (.iconst 3, 1) := by decide +kernel
theorem dX6_goYear_53 : decode cX6_goYear 53 = .ok (.iload_n 1, 1) := by decide +kernel
theorem dX6_goYear_54 : decode cX6_goYear 54 = .ok (.imul, 1) := by decide +kernel
theorem dX6_goYear_55 : decode cX6_goYear 55 = .ok (.iaload, 1) := by decide +kernel
theorem dX6_goYear_56 : decode cX6_goYear 56 = .ok (.if_icmp .lt 7, 3) := by decide +kernel
theorem dX6_goYear_59 : decode cX6_goYear 59 = .ok (.iload_n 2, 1) := by decide +kernel
theorem dX6_goYear_60 : decode cX6_goYear 60 = .ok (.goto 4, 3) := by decide +kernel
theorem dX6_goYear_63 : decode cX6_goYear 63 = .ok (.iload_n 1, 1) := by decide +kernel
theorem dX6_goYear_64 : decode cX6_goYear 64 = .ok (.istore_n 1, 1) := by decide +kernel
theorem dX6_goYear_65 : decode cX6_goYear 65 = .ok (.iinc 2 1, 3) := by decide +kernel
theorem dX6_goYear_68 : decode cX6_goYear 68 = .ok (.goto (-63), 3) := by decide +kernel
theorem dX6_goYear_71 : decode cX6_goYear 71 = .ok (.iload_n 1, 1) := by decide +kernel
theorem dX6_goYear_72 : decode cX6_goYear 72 = .ok (.bipush (-4), 2) := by decide +kernel
theorem dX6_goYear_74 : decode cX6_goYear 74 = .ok (.if_icmp .eq 47, 3) := by decide +kernel
theorem dX6_goYear_77 : decode cX6_goYear 77 = .ok (.aload_n 0, 1) := by decide +kernel
theorem dX6_goYear_78 : decode cX6_goYear 78 = .ok (.getfield 17, 3) := by decide +kernel
theorem dX6_goYear_81 : decode cX6_goYear 81 = .ok (.iconst 0, 1) := by decide +kernel
theorem dX6_goYear_82 : decode cX6_goYear 82 = .ok (.dup2, 1) := by decide +kernel
theorem dX6_goYear_83 : decode cX6_goYear 83 = .ok (.laload, 1) := by decide +kernel
theorem dX6_goYear_84 : decode cX6_goYear 84 = .ok (.aload_n 0, 1) := by decide +kernel
theorem dX6_goYear_85 : decode cX6_goYear 85 = .ok (.getfield 26, 3) := by decide +kernel
theorem dX6_goYear_88 : decode cX6_goYear 88 = .ok (.iconst 3, 1) := by decide +kernel
theorem dX6_goYear_89 : decode cX6_goYear 89 = .ok (.iload_n 1, 1) := by decide +kernel
theorem dX6_goYear_90 : decode cX6_goYear 90 = .ok (.imul, 1) := by decide +kernel
theorem dX6_goYear_91 : decode cX6_goYear 91 = .ok (.iconst 1, 1) := by decide +kernel
theorem dX6_goYear_92 : decode cX6_goYear 92 = .ok (.iadd, 1) := by decide +kernel
theorem dX6_goYear_93 : decode cX6_goYear 93 = .ok (.iaload, 1) := by decide +kernel
theorem dX6_goYear_94 : decode cX6_goYear 94 = .ok (.i2l, 1) := by decide +kernel
theorem dX6_goYear_95 : decode cX6_goYear 95 = .ok (.ladd, 1) := by decide +kernel
theorem dX6_goYear_96 : decode cX6_goYear 96 = .ok (.lastore, 1) := by decide +kernel
theorem dX6_goYear_97 : decode cX6_goYear 97 = .ok (.aload_n 0, 1) := by decide +kernel
theorem dX6_goYear_98 : decode cX6_goYear 98 = .ok (.getfield 17, 3) := by decide +kernel
theorem dX6_goYear_101 : decode cX6_goYear 101 = .ok (.iconst 1, 1) := by decide +kernel
theorem dX6_goYear_102 : decode cX6_goYear 102 = .ok (.dup2, 1) := by decide +kernel
theorem dX6_goYear_103 : decode cX6_goYear 103 = .ok (.laload, 1) := by decide +kernel
theorem dX6_goYear_104 : decode cX6_goYear 104 = .ok (.ldc2_w 73, 3) := by decide +kernel
theorem dX6_goYear_107 : decode cX6_goYear 107 = .ok (.aload_n 0, 1) := by decide +kernel
theorem dX6_goYear_108 : decode cX6_goYear 108 = .ok (.getfield 26, 3) := by decide +kernel
theorem dX6_goYear_111 : decode cX6_goYear 111 = .ok (.iconst 3, 1) := by decide +kernel
theorem dX6_goYear_112 : decode cX6_goYear 112 = .ok (.iload_n 1, 1) := by decide +kernel
theorem dX6_goYear_113 : decode cX6_goYear 113 = .ok (.imul, 1) := by decide +kernel
theorem dX6_goYear_114 : decode cX6_goYear 114 = .ok (.iconst 2, 1) := by decide +kernel
theorem dX6_goYear_115 : decode cX6_goYear 115 = .ok (.iadd, 1) := by decide +kernel
theorem dX6_goYear_116 : decode cX6_goYear 116 = .ok (.iaload, 1) := by decide +kernel
theorem dX6_goYear_117 : decode cX6_goYear 117 = .ok (.i2l, 1) := by decide +kernel
theorem dX6_goYear_118 : decode cX6_goYear 118 = .ok (.lmul, 1) := by decide +kernel
theorem dX6_goYear_119 : decode cX6_goYear 119 = .ok (.ladd, 1) := by decide +kernel
theorem dX6_goYear_120 : decode cX6_goYear 120 = .ok (.lastore, 1) := by decide +kernel
theorem dX6_goYear_121 : decode cX6_goYear 121 = .ok (.iconst 0, 1) := by decide +kernel
theorem dX6_goYear_122 : decode cX6_goYear 122 = .ok (.istore_n 2, 1) := by decide +kernel
theorem dX6_goYear_123 : decode cX6_goYear 123 = .ok (.iload_n 2, 1) := by decide +kernel
theorem dX6_goYear_124 : decode cX6_goYear 124 = .ok (.bipush 8, 2) := by decide +kernel
theorem dX6_goYear_126 : decode cX6_goYear 126 = .ok (.if_icmp .ge 16, 3) := by decide +kernel
theorem dX6_goYear_129 : decode cX6_goYear 129 = .ok (.aload_n 0, 1) := by decide +kernel
theorem dX6_goYear_130 : decode cX6_goYear 130 = .ok (.getfield 32, 3) := by decide +kernel
theorem dX6_goYear_133 : decode cX6_goYear 133 = .ok (.iload_n 2, 1) := by decide +kernel
theorem dX6_goYear_134 : decode cX6_goYear 134 = .ok (.iconst 0, 1) := by decide +kernel
theorem dX6_goYear_135 : decode cX6_goYear 135 = .ok (.iastore, 1) := by decide +kernel
theorem dX6_goYear_136 : decode cX6_goYear 136 = .ok (.iinc 2 1, 3) := by decide +kernel
theorem dX6_goYear_139 : decode cX6_goYear 139 = .ok (.goto (-16), 3) := by decide +kernel
theorem dX6_goYear_142 : decode cX6_goYear 142 = .ok (.iconst 0, 1) := by decide +kernel
theorem dX6_goYear_143 : decode cX6_goYear 143 = .ok (.istore_n 2, 1) := by decide +kernel
theorem dX6_goYear_144 : decode cX6_goYear 144 = .ok (.iconst 1, 1) := by decide +kernel
theorem dX6_goYear_145 : decode cX6_goYear 145 = .ok (.istore_n 3, 1) := by decide +kernel
theorem dX6_goYear_146 : decode cX6_goYear 146 = .ok (.iload_n 3, 1) := by decide +kernel
theorem dX6_goYear_147 : decode cX6_goYear 147 = .ok (.ifCond .eq 98, 3) := by decide +kernel
theorem dX6_goYear_150 : decode cX6_goYear 150 = .ok (.iconst 0, 1) := by decide +kernel
theorem dX6_goYear_151 : decode cX6_goYear 151 = .ok (.istore_n 3, 1) := by decide +kernel
theorem dX6_goYear_152 : decode cX6_goYear 152 = .ok (.iconst 0, 1) := by decide +kernel
theorem dX6_goYear_153 : decode cX6_goYear 153 = .ok (.istore 4, 2) := by decide +kernel
theorem dX6_goYear_155 : decode cX6_goYear 155 = .ok (.iload 4, 2) := by decide +kernel
theorem dX6_goYear_157 : decode cX6_goYear 157 = .ok (.bipush 8, 2) := by decide +kernel
theorem dX6_goYear_159 : decode cX6_goYear 159 = .ok (.if_icmp .ge 83, 3) := by decide +kernel
theorem dX6_goYear_162 : decode cX6_goYear 162 = .ok (.aload_n 0, 1) := by decide +kernel
theorem dX6_goYear_163 : decode cX6_goYear 163 = .ok (.iload 4, 2) := by decide +kernel
theorem dX6_goYear_165 : decode cX6_goYear 165 = .ok (.invokevirtual 91, 3) := by decide +kernel
theorem dX6_goYear_168 : decode cX6_goYear 168 = .ok (.ifCond .eq 36, 3) := by decide +kernel
theorem dX6_goYear_171 : decode cX6_goYear 171 = .ok (.aload_n 0, 1) := by decide +kernel
theorem dX6_goYear_172 : decode cX6_goYear 172 = .ok (.getfield 32, 3) := by decide +kernel
theorem dX6_goYear_175 : decode cX6_goYear 175 = .ok (.iload 4, 2) := by decide +kernel
theorem dX6_goYear_177 : decode cX6_goYear 177 = .ok (.iaload, 1) := by decide +kernel
theorem dX6_goYear_178 : decode cX6_goYear 178 = .ok (.i2l, 1) := by decide +kernel
theorem dX6_goYear_179 : decode cX6_goYear 179 = .ok (.aload_n 0, 1) := by decide +kernel
theorem dX6_goYear_180 : decode cX6_goYear 180 = .ok (.getfield 13, 3) := by decide +kernel
theorem dX6_goYear_183 : decode cX6_goYear 183 = .ok (.bipush 9, 2) := by decide +kernel
theorem dX6_goYear_185 : decode cX6_goYear 185 = .ok (.iload 4, 2) := by decide +kernel
theorem dX6_goYear_187 : decode cX6_goYear 187 = .ok (.imul, 1) := by decide +kernel
theorem dX6_goYear_188 : decode cX6_goYear 188 = .ok (.iconst 5, 1) := by decide +kernel
theorem dX6_goYear_189 : decode cX6_goYear 189 = .ok (.iadd, 1) := by decide +kernel
theorem dX6_goYear_190 : decode cX6_goYear 190 = .ok (.laload, 1) := by decide +kernel
theorem dX6_goYear_191 : decode cX6_goYear 191 = .ok (.lcmp, 1) := by decide +kernel
theorem dX6_goYear_192 : decode cX6_goYear 192 = .ok (.ifCond .ge 12, 3) := by decide +kernel
theorem dX6_goYear_195 : decode cX6_goYear 195 = .ok (.aload_n 0, 1) := by decide +kernel
theorem dX6_goYear_196 : decode cX6_goYear 196 = .ok (.iload 4, 2) := by decide +kernel
theorem dX6_goYear_198 : decode cX6_goYear 198 = .ok (.invokevirtual 119, 3) := by decide +kernel
theorem dX6_goYear_201 : decode cX6_goYear 201 = .ok (.goto 4, 3) := by decide +kernel
theorem dX6_goYear_204 : decode cX6_goYear 204 = .ok (.iconst 0, 1) := by decide +kernel
theorem dX6_goYear_205 : decode cX6_goYear 205 = .ok (.istore 5, 2) := by decide +kernel
theorem dX6_goYear_207 : decode cX6_goYear 207 = .ok (.iload 5, 2) := by decide +kernel
theorem dX6_goYear_209 : decode cX6_goYear 209 = .ok (.ifCond .le 27, 3) := by decide +kernel
theorem dX6_goYear_212 : decode cX6_goYear 212 = .ok (.aload_n 0, 1) := by decide +kernel
theorem dX6_goYear_213 : decode cX6_goYear 213 = .ok (.iload 4, 2) := by decide +kernel
theorem dX6_goYear_215 : decode cX6_goYear 215 = .ok (.iload 5, 2) := by decide +kernel
theorem dX6_goYear_217 : decode cX6_goYear 217 = .ok (.invokevirtual 131, 3) := by decide +kernel
theorem dX6_goYear_220 : decode cX6_goYear 220 = .ok (.aload_n 0, 1) := by decide +kernel
theorem dX6_goYear_221 : decode cX6_goYear 221 = .ok (.getfield 32, 3) := by decide +kernel
theorem dX6_goYear_224 : decode cX6_goYear 224 = .ok (.iload 4, 2) := by decide +kernel
theorem dX6_goYear_226 : decode cX6_goYear 226 = .ok (.dup2, 1) := by decide +kernel
theorem dX6_goYear_227 : decode cX6_goYear 227 = .ok (.iaload, 1) := by decide +kernel
theorem dX6_goYear_228 : decode cX6_goYear 228 = .ok (.iconst 1, 1) := by decide +kernel
theorem dX6_goYear_229 : decode cX6_goYear 229 = .ok (.iadd, 1) := by decide +kernel
theorem dX6_goYear_230 : decode cX6_goYear 230 = .ok (.iastore, 1) := by decide +kernel
theorem dX6_goYear_231 : decode cX6_goYear 231 = .ok (.iinc 2 1, 3) := by decide +kernel
theorem dX6_goYear_234 : decode cX6_goYear 234 = .ok (.iconst 1, 1) := by decide +kernel
theorem dX6_goYear_235 : decode cX6_goYear 235 = .ok (.istore_n 3, 1) := by decide +kernel
theorem dX6_goYear_236 : decode cX6_goYear 236 = .ok (.iinc 4 1, 3) := by decide +kernel
theorem dX6_goYear_239 : decode cX6_goYear 239 = .ok (.goto (-84), 3) := by decide +kernel
theorem dX6_goYear_242 : decode cX6_goYear 242 = .ok (.goto (-96), 3) := by decide +kernel
theorem dX6_goYear_245 : decode cX6_goYear 245 = .ok (.iconst 0, 1) := by decide +kernel
theorem dX6_goYear_246 : decode cX6_goYear 246 = .ok (.istore 4, 2) := by decide +kernel
theorem dX6_goYear_248 : decode cX6_goYear 248 = .ok (.iload 4, 2) := by decide +kernel
theorem dX6_goYear_250 : decode cX6_goYear 250 = .ok (.bipush 8, 2) := by decide +kernel
theorem dX6_goYear_252 : decode cX6_goYear 252 = .ok (.if_icmp .ge 61, 3) := by decide +kernel
theorem dX6_goYear_255 : decode cX6_goYear 255 = .ok (.aload_n 0, 1) := by decide +kernel
theorem dX6_goYear_256 : decode cX6_goYear 256 = .ok (.iload 4, 2) := by decide +kernel
theorem dX6_goYear_258 : decode cX6_goYear 258 = .ok (.invokevirtual 91, 3) := by decide +kernel
theorem dX6_goYear_261 : decode cX6_goYear 261 = .ok (.ifCond .eq 46, 3) := by decide +kernel
theorem dX6_goYear_264 : decode cX6_goYear 264 = .ok (.aload_n 0, 1) := by decide +kernel
theorem dX6_goYear_265 : decode cX6_goYear 265 = .ok (.getfield 13, 3) := by decide +kernel
theorem dX6_goYear_268 : decode cX6_goYear 268 = .ok (.bipush 9, 2) := by decide +kernel
theorem dX6_goYear_270 : decode cX6_goYear 270 = .ok (.iload 4, 2) := by decide +kernel
theorem dX6_goYear_272 : decode cX6_goYear 272 = .ok (.imul, 1) := by decide +kernel
theorem dX6_goYear_273 : decode cX6_goYear 273 = .ok (.bipush 8, 2) := by decide +kernel
theorem dX6_goYear_275 : decode cX6_goYear 275 = .ok (.iadd, 1) := by decide +kernel
theorem dX6_goYear_276 : decode cX6_goYear 276 = .ok (.laload, 1) := by decide +kernel
theorem dX6_goYear_277 : decode cX6_goYear 277 = .ok (.aload_n 0, 1) := by decide +kernel
theorem dX6_goYear_278 : decode cX6_goYear 278 = .ok (.getfield 13, 3) := by decide +kernel
theorem dX6_goYear_281 : decode cX6_goYear 281 = .ok (.bipush 9, 2) := by decide +kernel
theorem dX6_goYear_283 : decode cX6_goYear 283 = .ok (.iload 4, 2) := by decide +kernel
theorem dX6_goYear_285 : decode cX6_goYear 285 = .ok (.imul, 1) := by decide +kernel
theorem dX6_goYear_286 : decode cX6_goYear 286 = .ok (.iconst 3, 1) := by decide +kernel
theorem dX6_goYear_287 : decode cX6_goYear 287 = .ok (.iadd, 1) := by decide +kernel
theorem dX6_goYear_288 : decode cX6_goYear 288 = .ok (.laload, 1) := by decide +kernel
theorem dX6_goYear_289 : decode cX6_goYear 289 = .ok (.lcmp, 1) := by decide +kernel
theorem dX6_goYear_290 : decode cX6_goYear 290 = .ok (.ifCond .lt 17, 3) := by decide +kernel
theorem dX6_goYear_293 : decode cX6_goYear 293 = .ok (.aload_n 0, 1) := by decide +kernel
theorem dX6_goYear_294 : decode cX6_goYear 294 = .ok (.getfield 13, 3) := by decide +kernel
theorem dX6_goYear_297 : decode cX6_goYear 297 = .ok (.bipush 9, 2) := by decide +kernel
theorem dX6_goYear_299 : decode cX6_goYear 299 = .ok (.iload 4, 2) := by decide +kernel
theorem dX6_goYear_301 : decode cX6_goYear 301 = .ok (.imul, 1) := by decide +kernel
theorem dX6_goYear_302 : decode cX6_goYear 302 = .ok (.bipush 6, 2) := by decide +kernel
theorem dX6_goYear_304 : decode cX6_goYear 304 = .ok (.iadd, 1) := by decide +kernel
theorem dX6_goYear_305 : decode cX6_goYear 305 = .ok (.lconst 0, 1) := by decide +kernel
theorem dX6_goYear_306 : decode cX6_goYear 306 = .ok (.lastore, 1) := by decide +kernel
theorem dX6_goYear_307 : decode cX6_goYear 307 = .ok (.iinc 4 1, 3) := by decide +kernel
theorem dX6_goYear_310 : decode cX6_goYear 310 = .ok (.goto (-62), 3) := by decide +kernel
theorem dX6_goYear_313 : decode cX6_goYear 313 = .ok (.aload_n 0, 1) := by decide +kernel
theorem dX6_goYear_314 : decode cX6_goYear 314 = .ok (.getfield 17, 3) := by decide +kernel
theorem dX6_goYear_317 : decode cX6_goYear 317 = .ok (.iconst 2, 1) := by decide +kernel
theorem dX6_goYear_318 : decode cX6_goYear 318 = .ok (.dup2, 1) := by decide +kernel
theorem dX6_goYear_319 : decode cX6_goYear 319 = .ok (.laload, 1) := by decide +kernel
theorem dX6_goYear_320 : decode cX6_goYear 320 = .ok (.lconst 1, 1) := by decide +kernel
theorem dX6_goYear_321 : decode cX6_goYear 321 = .ok (.ladd, 1) := by decide +kernel
theorem dX6_goYear_322 : decode cX6_goYear 322 = .ok (.lastore, 1) := by decide +kernel
theorem dX6_goYear_323 : decode cX6_goYear 323 = .ok (.iload_n 2, 1) := by decide +kernel
theorem dX6_goYear_324 : decode cX6_goYear 324 = .ok (.ireturn, 1) := by decide +kernel
set_option maxRecDepth 20000 in
theorem ggX6_year_X6_goYear : GoodIn wsX6_year wsX6_goYear := goodIn_r _ [5, 6, 7, 8, 9, 10, 11, 12, 13, 14, 4, 15, 16, 17, 18, 19, 20, 21, 22, 23, 24, 25, 26, 27, 28, 29, 30, 31, 32, 33, 34, 35, 36, 37, 38, 39, 40, 41, 42, 43, 44, 45, 46, 47, 48, 49, 50, 51, 52] (by decide +kernel) (by decide +kernel)
set_option maxRecDepth 20000 in
theorem gX6_year_X6_goYear : GoodIn wsX6_year (wsV RX6 134 RX6 yX6_goYear wsX6_goYear) := goodIn_app (goodIn_of _ (by decide +kernel)) ggX6_year_X6_goYear
theorem dX6_year_0 : decode cX6_year 0 = .ok (.aload_n 0, 1) := by decide +kernel
theorem dX6_year_1 : decode cX6_year 1 = .ok (.invokevirtual 134, 3) := by decide +kernel
theorem dX6_year_4 : decode cX6_year 4 = .ok (.ireturn, 1) := by decide +kernel
set_option maxRecDepth 20000 in
theorem ggX6_goRest_X6_movesOf : GoodIn wsX6_goRest wsX6_movesOf := goodIn_r _ [6, 7, 8, 9, 10, 11, 12, 5, 13, 14, 15, 16, 17, 18, 19, 20, 21, 22, 23, 24, 25, 26, 27, 28, 29, 30, 36, 37, 38, 39, 40, 41, 42, 43, 44, 45, 46] (by decide +kernel) (by decide +kernel)
set_option maxRecDepth 20000 in
theorem gX6_goRest_X6_movesOf : GoodIn wsX6_goRest (wsV RX6 119 RX6 yX6_movesOf wsX6_movesOf) := goodIn_app (goodIn_of _ (by decide +kernel)) ggX6_goRest_X6_movesOf
set_option maxRecDepth 20000 in
theorem ggX6_goRest_X6_moveSack : GoodIn wsX6_goRest wsX6_moveSack := goodIn_r _ [34, 35, 7, 8, 36, 37, 38, 39, 40, 41, 42, 43, 44, 45, 46] (by decide +kernel) (by decide +kernel)
set_option maxRecDepth 20000 in
theorem gX6_goRest_X6_moveSack : GoodIn wsX6_goRest (wsV RX6 131 RX6 yX6_moveSack wsX6_moveSack) := goodIn_app (goodIn_of _ (by decide +kernel)) ggX6_goRest_X6_moveSack
theorem dX6_goRest_0 : decode cX6_goRest 0 = .ok (.iconst 0, 1) := by decide +kernel
theorem dX6_goRest_1 : decode cX6_goRest 1 = .ok (.istore_n 1, 1) := by decide +kernel
theorem dX6_goRest_2 : decode cX6_goRest 2 = .ok (.iconst 1, 1) := by decide +kernel
theorem dX6_goRest_3 : decode cX6_goRest 3 = .ok (.istore_n 2, 1) := by decide +kernel
theorem dX6_goRest_4 : decode cX6_goRest 4 = .ok (.iload_n 2, 1) := by decide +kernel
theorem dX6_goRest_5 : decode cX6_goRest 5 = .ok (.ifCond .eq 55, 3) := by decide +kernel
theorem dX6_goRest_8 : decode cX6_goRest 8 = .ok (.iconst 0, 1) := by decide +kernel
theorem dX6_goRest_9 : decode cX6_goRest 9 = .ok (.istore_n 2, 1) := by decide +kernel
theorem dX6_goRest_10 : decode cX6_goRest 10 = .ok (.iconst 0, 1) := by decide +kernel
theorem dX6_goRest_11 : decode cX6_goRest 11 = .ok (.istore_n 3, 1) := by decide +kernel
theorem dX6_goRest_12 : decode cX6_goRest 12 = .ok (.iload_n 3, 1) := by decide +kernel
theorem dX6_goRest_13 : decode cX6_goRest 13 = .ok (.bipush 8, 2) := by decide +kernel
theorem dX6_goRest_15 : decode cX6_goRest 15 = .ok (.if_icmp .ge 42, 3) := by decide +kernel
theorem dX6_goRest_18 : decode cX6_goRest 18 = .ok (.aload_n 0, 1) := by decide +kernel
theorem dX6_goRest_19 : decode cX6_goRest 19 = .ok (.iload_n 3, 1) := by decide +kernel
theorem dX6_goRest_20 : decode cX6_goRest 20 = .ok (.invokevirtual 119, 3) := by decide +kernel
theorem dX6_goRest_23 : decode cX6_goRest 23 = .ok (.istore 4, 2) := by decide +kernel
theorem dX6_goRest_25 : decode cX6_goRest 25 = .ok (.iload 4, 2) := by decide +kernel
theorem dX6_goRest_27 : decode cX6_goRest 27 = .ok (.ifCond .le 24, 3) := by decide +kernel
theorem dX6_goRest_30 : decode cX6_goRest 30 = .ok (.iload_n 1, 1) := by decide +kernel
theorem dX6_goRest_31 : decode cX6_goRest 31 = .ok (.ldc 137, 2) := by decide +kernel
theorem dX6_goRest_33 : decode cX6_goRest 33 = .ok (.if_icmp .ne 6, 3) := by decide +kernel
theorem dX6_goRest_36 : decode cX6_goRest 36 = .ok (.bipush (-5), 2) := by decide +kernel
theorem dX6_goRest_38 : decode cX6_goRest 38 = .ok (.ireturn, 1) := by decide +kernel
theorem dX6_goRest_39 : decode cX6_goRest 39 = .ok (.aload_n 0, 1) := by decide +kernel
theorem dX6_goRest_40 : decode cX6_goRest 40 = .ok (.iload_n 3, 1) := by decide +kernel
theorem dX6_goRest_41 : decode cX6_goRest 41 = .ok (.iload 4, 2) := by decide +kernel
theorem dX6_goRest_43 : decode cX6_goRest 43 = .ok (.invokevirtual 131, 3) := by decide +kernel
theorem dX6_goRest_46 : decode cX6_goRest 46 = .ok (.iinc 1 1, 3) := by decide +kernel
theorem dX6_goRest_49 : decode cX6_goRest 49 = .ok (.iconst 1, 1) := by decide +kernel
theorem dX6_goRest_50 : decode cX6_goRest 50 = .ok (.istore_n 2, 1) := by decide +kernel
theorem dX6_goRest_51 : decode cX6_goRest 51 = .ok (.iinc 3 1, 3) := by decide +kernel
theorem dX6_goRest_54 : decode cX6_goRest 54 = .ok (.goto (-42), 3) := by decide +kernel
theorem dX6_goRest_57 : decode cX6_goRest 57 = .ok (.goto (-53), 3) := by decide +kernel
theorem dX6_goRest_60 : decode cX6_goRest 60 = .ok (.iload_n 1, 1) := by decide +kernel
theorem dX6_goRest_61 : decode cX6_goRest 61 = .ok (.ireturn, 1) := by decide +kernel
set_option maxRecDepth 20000 in
theorem ggX6_rest_X6_copy : GoodIn wsX6_rest wsX6_copy := goodIn_r _ [5, 6, 7, 44, 45, 46, 47, 48, 49, 50, 51, 52, 53, 54] (by decide +kernel) (by decide +kernel)
set_option maxRecDepth 20000 in
theorem gX6_rest_X6_copy : GoodIn wsX6_rest (wsV RX6 97 RX6 yX6_copy wsX6_copy) := goodIn_app (goodIn_of _ (by decide +kernel)) ggX6_rest_X6_copy
set_option maxRecDepth 20000 in
theorem ggX6_rest_X6_goRest : GoodIn wsX6_rest wsX6_goRest := goodIn_r _ [11, 12, 13, 14, 15, 4, 16, 6, 7, 17, 18, 19, 20, 21, 22, 23, 24, 25, 26, 27, 28, 29, 30, 31, 32, 33, 34, 35, 36, 37, 38, 39, 40, 41, 42, 43, 44, 45, 46, 47, 48, 49, 50, 51, 52, 53, 54] (by decide +kernel) (by decide +kernel)
set_option maxRecDepth 20000 in
theorem gX6_rest_X6_goRest : GoodIn wsX6_rest (wsV RX6 138 RX6 yX6_goRest wsX6_goRest) := goodIn_app (goodIn_of _ (by decide +kernel)) ggX6_rest_X6_goRest
theorem dX6_rest_0 : decode cX6_rest 0 = .ok (.aload_n 0, 1) := by decide +kernel
theorem dX6_rest_1 : decode cX6_rest 1 = .ok (.iconst 0, 1) := by decide +kernel
theorem dX6_rest_2 : decode cX6_rest 2 = .ok (.iconst 3, 1) := by decide +kernel
theorem dX6_rest_3 : decode cX6_rest 3 = .ok (.invokevirtual 97, 3) := by decide +kernel
theorem dX6_rest_6 : decode cX6_rest 6 = .ok (.aload_n 0, 1) := by decide +kernel
theorem dX6_rest_7 : decode cX6_rest 7 = .ok (.invokevirtual 138, 3) := by decide +kernel
theorem dX6_rest_10 : decode cX6_rest 10 = .ok (.istore_n 1, 1) := by decide +kernel
theorem dX6_rest_11 : decode cX6_rest 11 = .ok (.iload_n 1, 1) := by decide +kernel
theorem dX6_rest_12 : decode cX6_rest 12 = .ok (.bipush (-5), 2) := by decide +kernel
theorem dX6_rest_14 : decode cX6_rest 14 = .ok (.if_icmp .ne 9, 3) := by decide +kernel
theorem dX6_rest_17 : decode cX6_rest 17 = .ok (.aload_n 0, 1) := by decide +kernel
theorem dX6_rest_18 : decode cX6_rest 18 = .ok (.iconst 3, 1) := by decide +kernel
theorem dX6_rest_19 : decode cX6_rest 19 = .ok (.iconst 0, 1) := by decide +kernel
theorem dX6_rest_20 : decode cX6_rest 20 = .ok (.invokevirtual 97, 3) := by decide +kernel
theorem dX6_rest_23 : decode cX6_rest 23 = .ok (.iload_n 1, 1) := by decide +kernel
theorem dX6_rest_24 : decode cX6_rest 24 = .ok (.ireturn, 1) := by decide +kernel
set_option maxRecDepth 20000 in
theorem ggX6_areYears_X6_in : GoodIn wsX6_areYears wsX6_in := goodIn_r _ [5] (by decide +kernel) (by decide +kernel)
set_option maxRecDepth 20000 in
theorem gX6_areYears_X6_in : GoodIn wsX6_areYears (va_wsS RX6 43 yX6_in wsX6_in) := goodIn_app (goodIn_of _ (by decide +kernel)) ggX6_areYears_X6_in
theorem dX6_areYears_0 : decode cX6_areYears 0 = .ok (.iload_n 0, 1) := by decide +kernel
theorem dX6_areYears_1 : decode cX6_areYears 1 = .ok (.i2l, 1) := by decide +kernel
theorem dX6_areYears_2 : decode cX6_areYears 2 = .ok (.lconst 1, 1) := by decide +kernel
theorem dX6_areYears_3 : decode cX6_areYears 3 = .ok (.ldc2_w 141, 3) := by decide +kernel
theorem dX6_areYears_6 : decode cX6_areYears 6 = .ok (.invokestatic 43, 3) := by decide +kernel
theorem dX6_areYears_9 : decode cX6_areYears 9 = .ok (.ireturn, 1) := by decide +kernel
set_option maxRecDepth 20000 in
theorem ggX6_gone_X6_isRealm : GoodIn wsX6_gone wsX6_isRealm := goodIn_r _ [6, 7, 1, 8, 9, 5, 10, 50, 51, 52, 53, 54, 55, 56, 57, 58, 59, 60] (by decide +kernel) (by decide +kernel)
set_option maxRecDepth 20000 in
theorem gX6_gone_X6_isRealm : GoodIn wsX6_gone (wsV RX6 91 RX6 yX6_isRealm wsX6_isRealm) := goodIn_app (goodIn_of _ (by decide +kernel)) ggX6_gone_X6_isRealm
set_option maxRecDepth 20000 in
theorem ggX6_gone_X6_in : GoodIn wsX6_gone wsX6_in := goodIn_r _ [10] (by decide +kernel) (by decide +kernel)
set_option maxRecDepth 20000 in
theorem gX6_gone_X6_in : GoodIn wsX6_gone (va_wsS RX6 43 yX6_in wsX6_in) := goodIn_app (goodIn_of _ (by decide +kernel)) ggX6_gone_X6_in
set_option maxRecDepth 20000 in
theorem ggX6_gone_X6_areYears : GoodIn wsX6_gone wsX6_areYears := goodIn_r _ [13, 14, 8, 9, 5, 10] (by decide +kernel) (by decide +kernel)
set_option maxRecDepth 20000 in
theorem gX6_gone_X6_areYears : GoodIn wsX6_gone (va_wsS RX6 143 yX6_areYears wsX6_areYears) := goodIn_app (goodIn_of _ (by decide +kernel)) ggX6_gone_X6_areYears
set_option maxRecDepth 20000 in
theorem ggX6_gone_X6_copy : GoodIn wsX6_gone wsX6_copy := goodIn_r _ [18, 1, 19, 50, 51, 52, 53, 54, 55, 56, 57, 58, 59, 60] (by decide +kernel) (by decide +kernel)
set_option maxRecDepth 20000 in
theorem gX6_gone_X6_copy : GoodIn wsX6_gone (wsV RX6 97 RX6 yX6_copy wsX6_copy) := goodIn_app (goodIn_of _ (by decide +kernel)) ggX6_gone_X6_copy
set_option maxRecDepth 20000 in
theorem ggX6_gone_X6_goYear : GoodIn wsX6_gone wsX6_goYear := goodIn_r _ [23, 24, 25, 19, 26, 27, 1, 2, 3, 4, 5, 6, 7, 8, 9, 10, 28, 29, 30, 31, 32, 33, 34, 35, 36, 37, 38, 39, 40, 41, 42, 43, 44, 45, 46, 47, 48, 49, 50, 51, 52, 53, 54, 55, 56, 57, 58, 59, 60] (by decide +kernel) (by decide +kernel)
set_option maxRecDepth 20000 in
theorem gX6_gone_X6_goYear : GoodIn wsX6_gone (wsV RX6 134 RX6 yX6_goYear wsX6_goYear) := goodIn_app (goodIn_of _ (by decide +kernel)) ggX6_gone_X6_goYear
theorem dX6_gone_0 : decode cX6_gone 0 = .ok (.aload_n 0, 1) := by decide +kernel
theorem dX6_gone_1 : decode cX6_gone 1 = .ok (.iload_n 1, 1) := by decide +kernel
theorem dX6_gone_2 : decode cX6_gone 2 = .ok (.invokevirtual 91, 3) := by decide +kernel
theorem dX6_gone_5 : decode cX6_gone 5 = .ok (.ifCond .eq 20, 3) := by decide +kernel
theorem dX6_gone_8 : decode cX6_gone 8 = .ok (.iload_n 2, 1) := by decide +kernel
theorem dX6_gone_9 : decode cX6_gone 9 = .ok (.i2l, 1) := by decide +kernel
theorem dX6_gone_10 : decode cX6_gone 10 = .ok (.lconst 0, 1) := by decide +kernel
theorem dX6_gone_11 : decode cX6_gone 11 = .ok (.lconst 1, 1) := by decide +kernel
theorem dX6_gone_12 : decode cX6_gone 12 = .ok (.invokestatic 43, 3) := by decide +kernel
theorem dX6_gone_15 : decode cX6_gone 15 = .ok (.ifCond .eq 10, 3) := by decide +kernel
theorem dX6_gone_18 : decode cX6_gone 18 = .ok (.iload_n 3, 1) := by decide +kernel
theorem dX6_gone_19 : decode cX6_gone 19 = .ok (.invokestatic 143, 3) := by decide +kernel
theorem dX6_gone_22 : decode cX6_gone 22 = .ok (.ifCond .ne 5, 3) := by decide +kernel
theorem dX6_gone_25 : decode cX6_gone 25 = .ok (.iconst (-1), 1) := by decide +kernel
theorem dX6_gone_26 : decode cX6_gone 26 = .ok (.ireturn, 1) := by decide +kernel
theorem dX6_gone_27 : decode cX6_gone 27 = .ok (.aload_n 0, 1) := by decide +kernel
theorem dX6_gone_28 : decode cX6_gone 28 = .ok (.iconst 0, 1) := by decide +kernel
theorem dX6_gone_29 : decode cX6_gone 29 = .ok (.iconst 3, 1) := by decide +kernel
theorem dX6_gone_30 : decode cX6_gone 30 = .ok (.invokevirtual 97, 3) := by decide +kernel
theorem dX6_gone_33 : decode cX6_gone 33 = .ok (.bipush (-4), 2) := by decide +kernel
theorem dX6_gone_35 : decode cX6_gone 35 = .ok (.istore 4, 2) := by decide +kernel
theorem dX6_gone_37 : decode cX6_gone 37 = .ok (.iconst 1, 1) := by decide +kernel
theorem dX6_gone_38 : decode cX6_gone 38 = .ok (.istore 5, 2) := by decide +kernel
theorem dX6_gone_40 : decode cX6_gone 40 = .ok (.iload 5, 2) := by decide +kernel
theorem dX6_gone_42 : decode cX6_gone 42 = .ok (.iload_n 3, 1) := by decide +kernel
theorem dX6_gone_43 : decode cX6_gone 43 = .ok (.if_icmp .gt 94, 3) := by decide +kernel
theorem dX6_gone_46 : decode cX6_gone 46 = .ok (.iload 4, 2) := by decide +kernel
theorem dX6_gone_48 : decode cX6_gone 48 = .ok (.bipush (-4), 2) := by decide +kernel
theorem dX6_gone_50 : decode cX6_gone 50 = .ok (.if_icmp .ne 87, 3) := by decide +kernel
theorem dX6_gone_53 : decode cX6_gone 53 = .ok (.aload_n 0, 1) := by decide +kernel
theorem dX6_gone_54 : decode cX6_gone 54 = .ok (.invokevirtual 134, 3) := by decide +kernel
theorem dX6_gone_57 : decode cX6_gone 57 = .ok (.pop, 1) := by decide +kernel
theorem dX6_gone_58 : decode cX6_gone 58 = .ok (.iload_n 2, 1) := by decide +kernel
theorem dX6_gone_59 : decode cX6_gone 59 = .ok (.ifCond .ne 27, 3) := by decide +kernel
theorem dX6_gone_62 : decode cX6_gone 62 = .ok (.aload_n 0, 1) := by decide +kernel
theorem dX6_gone_63 : decode cX6_gone 63 = .ok (.getfield 13, 3) := by decide +kernel
theorem dX6_gone_66 : decode cX6_gone 66 = .ok (.bipush 9, 2) := by decide +kernel
theorem dX6_gone_68 : decode cX6_gone 68 = .ok (.iload_n 1, 1) := by decide +kernel
theorem dX6_gone_69 : decode cX6_gone 69 = .ok (.imul, 1) := by decide +kernel
theorem dX6_gone_70 : decode cX6_gone 70 = .ok (.iconst 3, 1) := by decide +kernel
theorem dX6_gone_71 : decode cX6_gone 71 = .ok (.iadd, 1) := by decide +kernel
theorem dX6_gone_72 : decode cX6_gone 72 = .ok (.laload, 1) := by decide +kernel
theorem dX6_gone_73 : decode cX6_gone 73 = .ok (.lconst 0, 1) := by decide +kernel
theorem dX6_gone_74 : decode cX6_gone 74 = .ok (.lcmp, 1) := by decide +kernel
theorem dX6_gone_75 : decode cX6_gone 75 = .ok (.ifCond .ne 7, 3) := by decide +kernel
theorem dX6_gone_78 : decode cX6_gone 78 = .ok (.iconst 1, 1) := by decide +kernel
theorem dX6_gone_79 : decode cX6_gone 79 = .ok (.goto 36, 3) := by decide +kernel
theorem dX6_gone_82 : decode cX6_gone 82 = .ok (.iconst 0, 1) := by decide +kernel
theorem dX6_gone_83 : decode cX6_gone 83 = .ok (.goto 32, 3) := by decide +kernel
theorem dX6_gone_86 : decode cX6_gone 86 = .ok (.aload_n 0, 1) := by decide +kernel
theorem dX6_gone_87 : decode cX6_gone 87 = .ok (.getfield 13, 3) := by decide +kernel
theorem dX6_gone_90 : decode cX6_gone 90 = .ok (.bipush 9, 2) := by decide +kernel
theorem dX6_gone_92 : decode cX6_gone 92 = .ok (.iload_n 1, 1) := by decide +kernel
theorem dX6_gone_93 : decode cX6_gone 93 = .ok (.imul, 1) := by decide +kernel
theorem dX6_gone_94 : decode cX6_gone 94 = .ok (.iconst 4, 1) := by decide +kernel
theorem dX6_gone_95 : decode cX6_gone 95 = .ok (.iadd, 1) := by decide +kernel
theorem dX6_gone_96 : decode cX6_gone 96 = .ok (.laload, 1) := by decide +kernel
theorem dX6_gone_97 : decode cX6_gone 97 = .ok (.aload_n 0, 1) := by decide +kernel
theorem dX6_gone_98 : decode cX6_gone 98 = .ok (.getfield 13, 3) := by decide +kernel
theorem dX6_gone_101 : decode cX6_gone 101 = .ok (.bipush 9, 2) := by decide +kernel
theorem dX6_gone_103 : decode cX6_gone 103 = .ok (.iload_n 1, 1) := by decide +kernel
theorem dX6_gone_104 : decode cX6_gone 104 = .ok (.imul, 1) := by decide +kernel
theorem dX6_gone_105 : decode cX6_gone 105 = .ok (.laload, 1) := by decide +kernel
theorem dX6_gone_106 : decode cX6_gone 106 = .ok (.lcmp, 1) := by decide +kernel
theorem dX6_gone_107 : decode cX6_gone 107 = .ok (.ifCond .ge 7, 3) := by decide +kernel
theorem dX6_gone_110 : decode cX6_gone 110 = .ok (.iconst 1, 1) := by decide +kernel
theorem dX6_gone_111 : decode cX6_gone 111 = .ok (.goto 4, 3) := by decide +kernel
theorem dX6_gone_114 : decode cX6_gone 114 = .ok (.iconst 0, 1) := by decide +kernel
theorem dX6_gone_115 : decode cX6_gone 115 = .ok (.istore 6, 2) := by decide +kernel
theorem dX6_gone_117 : decode cX6_gone 117 = .ok (.iload 6, 2) := by decide +kernel
theorem dX6_gone_119 : decode cX6_gone 119 = .ok (.ifCond .eq 8, 3) := by decide +kernel
theorem dX6_gone_122 : decode cX6_gone 122 = .ok (.iload 5, 2) := by decide +kernel
theorem dX6_gone_124 : decode cX6_gone 124 = .ok (.goto 5, 3) := by decide +kernel
theorem dX6_gone_127 : decode cX6_gone 127 = .ok (.iload 4, 2) := by decide +kernel
theorem dX6_gone_129 : decode cX6_gone 129 = .ok (.istore 4, 2) := by decide +kernel
theorem dX6_gone_131 : decode cX6_gone 131 = .ok (.iinc 5 1, 3) := by decide +kernel
theorem dX6_gone_134 : decode cX6_gone 134 = .ok (.goto (-94), 3) := by decide +kernel
theorem dX6_gone_137 : decode cX6_gone 137 = .ok (.aload_n 0, 1) := by decide +kernel
theorem dX6_gone_138 : decode cX6_gone 138 = .ok (.iconst 3, 1) := by decide +kernel
theorem dX6_gone_139 : decode cX6_gone 139 = .ok (.iconst 0, 1) := by decide +kernel
theorem dX6_gone_140 : decode cX6_gone 140 = .ok (.invokevirtual 97, 3) := by decide +kernel
theorem dX6_gone_143 : decode cX6_gone 143 = .ok (.iload 4, 2) := by decide +kernel
theorem dX6_gone_145 : decode cX6_gone 145 = .ok (.ireturn, 1) := by decide +kernel
set_option maxRecDepth 20000 in
theorem ggX6_stopped_X6_isRealm : GoodIn wsX6_stopped wsX6_isRealm := goodIn_r _ [5, 6, 7, 8, 9, 4, 10, 50, 51, 52, 53, 54, 55, 56, 57, 58, 59, 60] (by decide +kernel) (by decide +kernel)
set_option maxRecDepth 20000 in
theorem gX6_stopped_X6_isRealm : GoodIn wsX6_stopped (wsV RX6 91 RX6 yX6_isRealm wsX6_isRealm) := goodIn_app (goodIn_of _ (by decide +kernel)) ggX6_stopped_X6_isRealm
set_option maxRecDepth 20000 in
theorem ggX6_stopped_X6_areYears : GoodIn wsX6_stopped wsX6_areYears := goodIn_r _ [13, 14, 8, 9, 4, 10] (by decide +kernel) (by decide +kernel)
set_option maxRecDepth 20000 in
theorem gX6_stopped_X6_areYears : GoodIn wsX6_stopped (va_wsS RX6 143 yX6_areYears wsX6_areYears) := goodIn_app (goodIn_of _ (by decide +kernel)) ggX6_stopped_X6_areYears
set_option maxRecDepth 20000 in
theorem ggX6_stopped_X6_mints : GoodIn wsX6_stopped wsX6_mints := goodIn_r _ [18, 7, 50, 51, 52, 53, 54, 55, 56, 57, 58, 59, 60] (by decide +kernel) (by decide +kernel)
set_option maxRecDepth 20000 in
theorem gX6_stopped_X6_mints : GoodIn wsX6_stopped (wsV RX6 94 RX6 yX6_mints wsX6_mints) := goodIn_app (goodIn_of _ (by decide +kernel)) ggX6_stopped_X6_mints
set_option maxRecDepth 20000 in
theorem ggX6_stopped_X6_copy : GoodIn wsX6_stopped wsX6_copy := goodIn_r _ [22, 7, 23, 50, 51, 52, 53, 54, 55, 56, 57, 58, 59, 60] (by decide +kernel) (by decide +kernel)
set_option maxRecDepth 20000 in
theorem gX6_stopped_X6_copy : GoodIn wsX6_stopped (wsV RX6 97 RX6 yX6_copy wsX6_copy) := goodIn_app (goodIn_of _ (by decide +kernel)) ggX6_stopped_X6_copy
set_option maxRecDepth 20000 in
theorem ggX6_stopped_X6_goYear : GoodIn wsX6_stopped wsX6_goYear := goodIn_r _ [27, 28, 29, 23, 30, 31, 7, 1, 2, 3, 4, 5, 6, 8, 9, 10, 32, 33, 34, 35, 15, 16, 17, 18, 36, 37, 38, 39, 40, 41, 42, 43, 44, 45, 46, 47, 48, 49, 50, 51, 52, 53, 54, 55, 56, 57, 58, 59, 60] (by decide +kernel) (by decide +kernel)
set_option maxRecDepth 20000 in
theorem gX6_stopped_X6_goYear : GoodIn wsX6_stopped (wsV RX6 134 RX6 yX6_goYear wsX6_goYear) := goodIn_app (goodIn_of _ (by decide +kernel)) ggX6_stopped_X6_goYear
theorem dX6_stopped_0 : decode cX6_stopped 0 = .ok (.aload_n 0, 1) := by decide +kernel
theorem dX6_stopped_1 : decode cX6_stopped 1 = .ok (.iload_n 1, 1) := by decide +kernel
theorem dX6_stopped_2 : decode cX6_stopped 2 = .ok (.invokevirtual 91, 3) := by decide +kernel
theorem dX6_stopped_5 : decode cX6_stopped 5 = .ok (.ifCond .eq 10, 3) := by decide +kernel
theorem dX6_stopped_8 : decode cX6_stopped 8 = .ok (.iload_n 2, 1) := by decide +kernel
theorem dX6_stopped_9 : decode cX6_stopped 9 = .ok (.invokestatic 143, 3) := by decide +kernel
theorem dX6_stopped_12 : decode cX6_stopped 12 = .ok (.ifCond .ne 5, 3) := by decide +kernel
theorem dX6_stopped_15 : decode cX6_stopped 15 = .ok (.iconst (-1), 1) := by decide +kernel
theorem dX6_stopped_16 : decode cX6_stopped 16 = .ok (.ireturn, 1) := by decide +kernel
theorem dX6_stopped_17 : decode cX6_stopped 17 = .ok (.aload_n 0, 1) := by decide +kernel
theorem dX6_stopped_18 : decode cX6_stopped 18 = .ok (.iload_n 1, 1) := by decide +kernel
theorem dX6_stopped_19 : decode cX6_stopped 19 = .ok (.invokevirtual 94, 3) := by decide +kernel
theorem dX6_stopped_22 : decode cX6_stopped 22 = .ok (.ifCond .ne 6, 3) := by decide +kernel
theorem dX6_stopped_25 : decode cX6_stopped 25 = .ok (.bipush (-2), 2) := by decide +kernel
theorem dX6_stopped_27 : decode cX6_stopped 27 = .ok (.ireturn, 1) := by decide +kernel
theorem dX6_stopped_28 : decode cX6_stopped 28 = .ok (.aload_n 0, 1) := by decide +kernel
theorem dX6_stopped_29 : decode cX6_stopped 29 = .ok (.iconst 0, 1) := by decide +kernel
theorem dX6_stopped_30 : decode cX6_stopped 30 = .ok (.iconst 3, 1) := by decide +kernel
theorem dX6_stopped_31 : decode cX6_stopped 31 = .ok (.invokevirtual 97, 3) := by decide +kernel
theorem dX6_stopped_34 : decode cX6_stopped 34 = .ok (.bipush (-4), 2) := by decide +kernel
theorem dX6_stopped_36 : decode cX6_stopped 36 = .ok (.istore_n 3, 1) := by decide +kernel
theorem dX6_stopped_37 : decode cX6_stopped 37 = .ok (.iconst 1, 1) := by decide +kernel
theorem dX6_stopped_38 : decode cX6_stopped 38 = .ok (.istore 4, 2) := by decide +kernel
theorem dX6_stopped_40 : decode cX6_stopped 40 = .ok (.iload 4, 2) := by decide +kernel
theorem dX6_stopped_42 : decode cX6_stopped 42 = .ok (.iload_n 2, 1) := by decide +kernel
theorem dX6_stopped_43 : decode cX6_stopped 43 = .ok (.if_icmp .gt 35, 3) := by decide +kernel
theorem dX6_stopped_46 : decode cX6_stopped 46 = .ok (.iload_n 3, 1) := by decide +kernel
theorem dX6_stopped_47 : decode cX6_stopped 47 = .ok (.bipush (-4), 2) := by decide +kernel
theorem dX6_stopped_49 : decode cX6_stopped 49 = .ok (.if_icmp .ne 29, 3) := by decide +kernel
theorem dX6_stopped_52 : decode cX6_stopped 52 = .ok (.aload_n 0, 1) := by decide +kernel
theorem dX6_stopped_53 : decode cX6_stopped 53 = .ok (.invokevirtual 134, 3) := by decide +kernel
theorem dX6_stopped_56 : decode cX6_stopped 56 = .ok (.pop, 1) := by decide +kernel
theorem dX6_stopped_57 : decode cX6_stopped 57 = .ok (.aload_n 0, 1) := by decide +kernel
theorem dX6_stopped_58 : decode cX6_stopped 58 = .ok (.iload_n 1, 1) := by decide +kernel
theorem dX6_stopped_59 : decode cX6_stopped 59 = .ok (.invokevirtual 94, 3) := by decide +kernel
theorem dX6_stopped_62 : decode cX6_stopped 62 = .ok (.ifCond .eq 7, 3) := by decide +kernel
theorem dX6_stopped_65 : decode cX6_stopped 65 = .ok (.iload_n 3, 1) := by decide +kernel
theorem dX6_stopped_66 : decode cX6_stopped 66 = .ok (.goto 5, 3) := by decide +kernel
theorem dX6_stopped_69 : decode cX6_stopped 69 = .ok (.iload 4, 2) := by decide +kernel
theorem dX6_stopped_71 : decode cX6_stopped 71 = .ok (.istore_n 3, 1) := by decide +kernel
theorem dX6_stopped_72 : decode cX6_stopped 72 = .ok (.iinc 4 1, 3) := by decide +kernel
theorem dX6_stopped_75 : decode cX6_stopped 75 = .ok (.goto (-35), 3) := by decide +kernel
theorem dX6_stopped_78 : decode cX6_stopped 78 = .ok (.aload_n 0, 1) := by decide +kernel
theorem dX6_stopped_79 : decode cX6_stopped 79 = .ok (.iconst 3, 1) := by decide +kernel
theorem dX6_stopped_80 : decode cX6_stopped 80 = .ok (.iconst 0, 1) := by decide +kernel
theorem dX6_stopped_81 : decode cX6_stopped 81 = .ok (.invokevirtual 97, 3) := by decide +kernel
theorem dX6_stopped_84 : decode cX6_stopped 84 = .ok (.iload_n 3, 1) := by decide +kernel
theorem dX6_stopped_85 : decode cX6_stopped 85 = .ok (.ireturn, 1) := by decide +kernel
set_option maxRecDepth 20000 in
theorem ggX6_free_X6_areYears : GoodIn wsX6_free wsX6_areYears := goodIn_r _ [4, 5, 6, 7, 3, 8] (by decide +kernel) (by decide +kernel)
set_option maxRecDepth 20000 in
theorem gX6_free_X6_areYears : GoodIn wsX6_free (va_wsS RX6 143 yX6_areYears wsX6_areYears) := goodIn_app (goodIn_of _ (by decide +kernel)) ggX6_free_X6_areYears
set_option maxRecDepth 20000 in
theorem ggX6_free_X6_copy : GoodIn wsX6_free wsX6_copy := goodIn_r _ [12, 13, 14, 63, 64, 65, 66, 67, 68, 69, 70, 71, 72, 73] (by decide +kernel) (by decide +kernel)
set_option maxRecDepth 20000 in
theorem gX6_free_X6_copy : GoodIn wsX6_free (wsV RX6 97 RX6 yX6_copy wsX6_copy) := goodIn_app (goodIn_of _ (by decide +kernel)) ggX6_free_X6_copy
set_option maxRecDepth 20000 in
theorem ggX6_free_X6_goYear : GoodIn wsX6_free wsX6_goYear := goodIn_r _ [18, 19, 20, 14, 21, 22, 13, 23, 24, 25, 3, 26, 27, 6, 7, 8, 28, 29, 30, 31, 32, 33, 34, 35, 36, 37, 38, 39, 40, 41, 42, 43, 44, 45, 46, 47, 48, 49, 63, 64, 65, 66, 67, 68, 69, 70, 71, 72, 73] (by decide +kernel) (by decide +kernel)
set_option maxRecDepth 20000 in
theorem gX6_free_X6_goYear : GoodIn wsX6_free (wsV RX6 134 RX6 yX6_goYear wsX6_goYear) := goodIn_app (goodIn_of _ (by decide +kernel)) ggX6_free_X6_goYear
set_option maxRecDepth 20000 in
theorem ggX6_free_X6_held : GoodIn wsX6_free wsX6_held := goodIn_r _ [53, 54, 55, 56, 3, 57, 13, 36, 37, 38, 39, 14, 40, 41, 21, 23, 24, 25, 26, 27, 6, 7, 8, 32, 33, 34, 35, 58, 59, 60, 61, 62, 42, 43, 44, 63, 64, 65, 66, 67, 68, 69, 70, 71, 72, 73] (by decide +kernel) (by decide +kernel)
set_option maxRecDepth 20000 in
theorem gX6_free_X6_held : GoodIn wsX6_free (wsV RX6 146 RX6 yX6_held wsX6_held) := goodIn_app (goodIn_of _ (by decide +kernel)) ggX6_free_X6_held
theorem dX6_free_0 : decode cX6_free 0 = .ok (.iload_n 1, 1) := by decide +kernel
theorem dX6_free_1 : decode cX6_free 1 = .ok (.invokestatic 143, 3) := by decide +kernel
theorem dX6_free_4 : decode cX6_free 4 = .ok (.ifCond .ne 5, 3) := by decide +kernel
theorem dX6_free_7 : decode cX6_free 7 = .ok (.iconst (-1), 1) := by decide +kernel
theorem dX6_free_8 : decode cX6_free 8 = .ok (.ireturn, 1) := by decide +kernel
theorem dX6_free_9 : decode cX6_free 9 = .ok (.aload_n 0, 1) := by decide +kernel
theorem dX6_free_10 : decode cX6_free 10 = .ok (.iconst 0, 1) := by decide +kernel
theorem dX6_free_11 : decode cX6_free 11 = .ok (.iconst 3, 1) := by decide +kernel
theorem dX6_free_12 : decode cX6_free 12 = .ok (.invokevirtual 97, 3) := by decide +kernel
theorem dX6_free_15 : decode cX6_free 15 = .ok (.bipush (-4), 2) := by decide +kernel
theorem dX6_free_17 : decode cX6_free 17 = .ok (.istore_n 2, 1) := by decide +kernel
theorem dX6_free_18 : decode cX6_free 18 = .ok (.iconst 1, 1) := by decide +kernel
theorem dX6_free_19 : decode cX6_free 19 = .ok (.istore_n 3, 1) := by decide +kernel
theorem dX6_free_20 : decode cX6_free 20 = .ok (.iload_n 3, 1) := by decide +kernel
theorem dX6_free_21 : decode cX6_free 21 = .ok (.iload_n 1, 1) := by decide +kernel
theorem dX6_free_22 : decode cX6_free 22 = .ok (.if_icmp .gt 33, 3) := by decide +kernel
theorem dX6_free_25 : decode cX6_free 25 = .ok (.iload_n 2, 1) := by decide +kernel
theorem dX6_free_26 : decode cX6_free 26 = .ok (.bipush (-4), 2) := by decide +kernel
theorem dX6_free_28 : decode cX6_free 28 = .ok (.if_icmp .ne 27, 3) := by decide +kernel
theorem dX6_free_31 : decode cX6_free 31 = .ok (.aload_n 0, 1) := by decide +kernel
theorem dX6_free_32 : decode cX6_free 32 = .ok (.invokevirtual 134, 3) := by decide +kernel
theorem dX6_free_35 : decode cX6_free 35 = .ok (.pop, 1) := by decide +kernel
theorem dX6_free_36 : decode cX6_free 36 = .ok (.aload_n 0, 1) := by decide +kernel
theorem dX6_free_37 : decode cX6_free 37 = .ok (.invokevirtual 146, 3) := by decide +kernel
theorem dX6_free_40 : decode cX6_free 40 = .ok (.ifCond .ne 7, 3) := by decide +kernel
theorem dX6_free_43 : decode cX6_free 43 = .ok (.iload_n 3, 1) := by decide +kernel
theorem dX6_free_44 : decode cX6_free 44 = .ok (.goto 4, 3) := by decide +kernel
theorem dX6_free_47 : decode cX6_free 47 = .ok (.iload_n 2, 1) := by decide +kernel
theorem dX6_free_48 : decode cX6_free 48 = .ok (.istore_n 2, 1) := by decide +kernel
theorem dX6_free_49 : decode cX6_free 49 = .ok (.iinc 3 1, 3) := by decide +kernel
theorem dX6_free_52 : decode cX6_free 52 = .ok (.goto (-32), 3) := by decide +kernel
theorem dX6_free_55 : decode cX6_free 55 = .ok (.aload_n 0, 1) := by decide +kernel
theorem dX6_free_56 : decode cX6_free 56 = .ok (.iconst 3, 1) := by decide +kernel
theorem dX6_free_57 : decode cX6_free 57 = .ok (.iconst 0, 1) := by decide +kernel
theorem dX6_free_58 : decode cX6_free 58 = .ok (.invokevirtual 97, 3) := by decide +kernel
theorem dX6_free_61 : decode cX6_free 61 = .ok (.iload_n 2, 1) := by decide +kernel
theorem dX6_free_62 : decode cX6_free 62 = .ok (.ireturn, 1) := by decide +kernel
set_option maxRecDepth 20000 in
theorem ggX6_ahead_X6_areYears : GoodIn wsX6_ahead wsX6_areYears := goodIn_r _ [4, 5, 6, 7, 3, 8] (by decide +kernel) (by decide +kernel)
set_option maxRecDepth 20000 in
theorem gX6_ahead_X6_areYears : GoodIn wsX6_ahead (va_wsS RX6 143 yX6_areYears wsX6_areYears) := goodIn_app (goodIn_of _ (by decide +kernel)) ggX6_ahead_X6_areYears
set_option maxRecDepth 20000 in
theorem ggX6_ahead_X6_copy : GoodIn wsX6_ahead wsX6_copy := goodIn_r _ [12, 13, 14, 50, 51, 52, 53, 54, 55, 56, 57, 58, 59, 60] (by decide +kernel) (by decide +kernel)
set_option maxRecDepth 20000 in
theorem gX6_ahead_X6_copy : GoodIn wsX6_ahead (wsV RX6 97 RX6 yX6_copy wsX6_copy) := goodIn_app (goodIn_of _ (by decide +kernel)) ggX6_ahead_X6_copy
set_option maxRecDepth 20000 in
theorem ggX6_ahead_X6_goYear : GoodIn wsX6_ahead wsX6_goYear := goodIn_r _ [18, 19, 20, 14, 21, 22, 13, 23, 24, 25, 3, 26, 27, 6, 7, 8, 28, 29, 30, 31, 32, 33, 34, 35, 36, 37, 38, 39, 40, 41, 42, 43, 44, 45, 46, 47, 48, 49, 50, 51, 52, 53, 54, 55, 56, 57, 58, 59, 60] (by decide +kernel) (by decide +kernel)
set_option maxRecDepth 20000 in
theorem gX6_ahead_X6_goYear : GoodIn wsX6_ahead (wsV RX6 134 RX6 yX6_goYear wsX6_goYear) := goodIn_app (goodIn_of _ (by decide +kernel)) ggX6_ahead_X6_goYear
set_option maxRecDepth 20000 in
theorem ggX6_ahead_X6_ratio : GoodIn wsX6_ahead wsX6_ratio := goodIn_r _ [39, 14, 40, 41, 21, 50, 51, 52, 53, 54, 55, 56, 57, 58, 59, 60] (by decide +kernel) (by decide +kernel)
set_option maxRecDepth 20000 in
theorem gX6_ahead_X6_ratio : GoodIn wsX6_ahead (wsV RX6 111 RX6 yX6_ratio wsX6_ratio) := goodIn_app (goodIn_of _ (by decide +kernel)) ggX6_ahead_X6_ratio
theorem dX6_ahead_0 : decode cX6_ahead 0 = .ok (.iload_n 1, 1) := by decide +kernel
theorem dX6_ahead_1 : decode cX6_ahead 1 = .ok (.invokestatic 143, 3) := by decide +kernel
theorem dX6_ahead_4 : decode cX6_ahead 4 = .ok (.ifCond .ne 5, 3) := by decide +kernel
theorem dX6_ahead_7 : decode cX6_ahead 7 = .ok (.iconst (-1), 1) := by decide +kernel
theorem dX6_ahead_8 : decode cX6_ahead 8 = .ok (.ireturn, 1) := by decide +kernel
theorem dX6_ahead_9 : decode cX6_ahead 9 = .ok (.aload_n 0, 1) := by decide +kernel
theorem dX6_ahead_10 : decode cX6_ahead 10 = .ok (.iconst 0, 1) := by decide +kernel
theorem dX6_ahead_11 : decode cX6_ahead 11 = .ok (.iconst 3, 1) := by decide +kernel
theorem dX6_ahead_12 : decode cX6_ahead 12 = .ok (.invokevirtual 97, 3) := by decide +kernel
theorem dX6_ahead_15 : decode cX6_ahead 15 = .ok (.iconst 0, 1) := by decide +kernel
theorem dX6_ahead_16 : decode cX6_ahead 16 = .ok (.istore_n 2, 1) := by decide +kernel
theorem dX6_ahead_17 : decode cX6_ahead 17 = .ok (.iload_n 2, 1) := by decide +kernel
theorem dX6_ahead_18 : decode cX6_ahead 18 = .ok (.iload_n 1, 1) := by decide +kernel
theorem dX6_ahead_19 : decode cX6_ahead 19 = .ok (.if_icmp .ge 14, 3) := by decide +kernel
theorem dX6_ahead_22 : decode cX6_ahead 22 = .ok (.aload_n 0, 1) := by decide +kernel
theorem dX6_ahead_23 : decode cX6_ahead 23 = .ok (.invokevirtual 134, 3) := by decide +kernel
theorem dX6_ahead_26 : decode cX6_ahead 26 = .ok (.pop, 1) := by decide +kernel
theorem dX6_ahead_27 : decode cX6_ahead 27 = .ok (.iinc 2 1, 3) := by decide +kernel
theorem dX6_ahead_30 : decode cX6_ahead 30 = .ok (.goto (-13), 3) := by decide +kernel
theorem dX6_ahead_33 : decode cX6_ahead 33 = .ok (.aload_n 0, 1) := by decide +kernel
theorem dX6_ahead_34 : decode cX6_ahead 34 = .ok (.invokevirtual 111, 3) := by decide +kernel
theorem dX6_ahead_37 : decode cX6_ahead 37 = .ok (.l2i, 1) := by decide +kernel
theorem dX6_ahead_38 : decode cX6_ahead 38 = .ok (.istore_n 2, 1) := by decide +kernel
theorem dX6_ahead_39 : decode cX6_ahead 39 = .ok (.aload_n 0, 1) := by decide +kernel
theorem dX6_ahead_40 : decode cX6_ahead 40 = .ok (.iconst 3, 1) := by decide +kernel
theorem dX6_ahead_41 : decode cX6_ahead 41 = .ok (.iconst 0, 1) := by decide +kernel
theorem dX6_ahead_42 : decode cX6_ahead 42 = .ok (.invokevirtual 97, 3) := by decide +kernel
theorem dX6_ahead_45 : decode cX6_ahead 45 = .ok (.iload_n 2, 1) := by decide +kernel
theorem dX6_ahead_46 : decode cX6_ahead 46 = .ok (.ireturn, 1) := by decide +kernel
set_option maxRecDepth 20000 in
theorem ggX6_debt_X6_isRealm : GoodIn wsX6_debt wsX6_isRealm := goodIn_r _ [7, 8, 2, 9, 10, 6, 11, 24, 25, 26, 27, 28, 29, 30, 31, 32, 33, 34] (by decide +kernel) (by decide +kernel)
set_option maxRecDepth 20000 in
theorem gX6_debt_X6_isRealm : GoodIn wsX6_debt (wsV RX6 91 RX6 yX6_isRealm wsX6_isRealm) := goodIn_app (goodIn_of _ (by decide +kernel)) ggX6_debt_X6_isRealm
set_option maxRecDepth 20000 in
theorem ggX6_debt_X6_in : GoodIn wsX6_debt wsX6_in := goodIn_r _ [11] (by decide +kernel) (by decide +kernel)
set_option maxRecDepth 20000 in
theorem gX6_debt_X6_in : GoodIn wsX6_debt (va_wsS RX6 43 yX6_in wsX6_in) := goodIn_app (goodIn_of _ (by decide +kernel)) ggX6_debt_X6_in
set_option maxRecDepth 20000 in
theorem ggX6_debt_X6_mints : GoodIn wsX6_debt wsX6_mints := goodIn_r _ [15, 2, 24, 25, 26, 27, 28, 29, 30, 31, 32, 33, 34] (by decide +kernel) (by decide +kernel)
set_option maxRecDepth 20000 in
theorem gX6_debt_X6_mints : GoodIn wsX6_debt (wsV RX6 94 RX6 yX6_mints wsX6_mints) := goodIn_app (goodIn_of _ (by decide +kernel)) ggX6_debt_X6_mints
set_option maxRecDepth 20000 in
theorem ggX6_debt_X6_ratio : GoodIn wsX6_debt wsX6_ratio := goodIn_r _ [19, 20, 21, 22, 23, 24, 25, 26, 27, 28, 29, 30, 31, 32, 33, 34] (by decide +kernel) (by decide +kernel)
set_option maxRecDepth 20000 in
theorem gX6_debt_X6_ratio : GoodIn wsX6_debt (wsV RX6 111 RX6 yX6_ratio wsX6_ratio) := goodIn_app (goodIn_of _ (by decide +kernel)) ggX6_debt_X6_ratio
theorem dX6_debt_0 : decode cX6_debt 0 = .ok (.aload_n 0, 1) := by decide +kernel
theorem dX6_debt_1 : decode cX6_debt 1 = .ok (.iload_n 1, 1) := by decide +kernel
theorem dX6_debt_2 : decode cX6_debt 2 = .ok (.invokevirtual 91, 3) := by decide +kernel
theorem dX6_debt_5 : decode cX6_debt 5 = .ok (.ifCond .eq 25, 3) := by decide +kernel
theorem dX6_debt_8 : decode cX6_debt 8 = .ok (.iload_n 2, 1) := by decide +kernel
theorem dX6_debt_9 : decode cX6_debt 9 = .ok (.i2l, 1) := by decide +kernel
theorem dX6_debt_10 : decode cX6_debt 10 = .ok (.lconst 1, 1) := by decide +kernel
theorem dX6_debt_11 : decode cX6_debt 11 = .ok (.ldc2_w 149, 3) := by decide +kernel
theorem dX6_debt_14 : decode cX6_debt 14 = .ok (.invokestatic 43, 3) := by decide +kernel
theorem dX6_debt_17 : decode cX6_debt 17 = .ok (.ifCond .eq 13, 3) := by decide +kernel
theorem dX6_debt_20 : decode cX6_debt 20 = .ok (.iload_n 3, 1) := by decide +kernel
theorem dX6_debt_21 : decode cX6_debt 21 = .ok (.i2l, 1) := by decide +kernel
theorem dX6_debt_22 : decode cX6_debt 22 = .ok (.lconst 0, 1) := by decide +kernel
end
section
theorem dX6_debt_23 : decode cX6_debt 23 = .ok (.lconst 1, 1) := by decide +kernel
theorem dX6_debt_24 : decode cX6_debt 24 = .ok (.invokestatic 43, 3) := by decide +kernel
theorem dX6_debt_27 : decode cX6_debt 27 = .ok (.ifCond .ne 5, 3) := by decide +kernel
theorem dX6_debt_30 : decode cX6_debt 30 = .ok (.iconst (-1), 1) := by decide +kernel
theorem dX6_debt_31 : decode cX6_debt 31 = .ok (.ireturn, 1) := by decide +kernel
theorem dX6_debt_32 : decode cX6_debt 32 = .ok (.aload_n 0, 1) := by decide +kernel
theorem dX6_debt_33 : decode cX6_debt 33 = .ok (.iload_n 1, 1) := by decide +kernel
theorem dX6_debt_34 : decode cX6_debt 34 = .ok (.invokevirtual 94, 3) := by decide +kernel
theorem dX6_debt_37 : decode cX6_debt 37 = .ok (.ifCond .ne 6, 3) := by decide +kernel
theorem dX6_debt_40 : decode cX6_debt 40 = .ok (.bipush (-2), 2) := by decide +kernel
theorem dX6_debt_42 : decode cX6_debt 42 = .ok (.ireturn, 1) := by decide +kernel
theorem dX6_debt_43 : decode cX6_debt 43 = .ok (.aload_n 0, 1) := by decide +kernel
theorem dX6_debt_44 : decode cX6_debt 44 = .ok (.invokevirtual 111, 3) := by decide +kernel
theorem dX6_debt_47 : decode cX6_debt 47 = .ok (.aload_n 0, 1) := by decide +kernel
theorem dX6_debt_48 : decode cX6_debt 48 = .ok (.getfield 13, 3) := by decide +kernel
theorem dX6_debt_51 : decode cX6_debt 51 = .ok (.bipush 9, 2) := by decide +kernel
theorem dX6_debt_53 : decode cX6_debt 53 = .ok (.iload_n 1, 1) := by decide +kernel
theorem dX6_debt_54 : decode cX6_debt 54 = .ok (.imul, 1) := by decide +kernel
theorem dX6_debt_55 : decode cX6_debt 55 = .ok (.laload, 1) := by decide +kernel
theorem dX6_debt_56 : decode cX6_debt 56 = .ok (.lcmp, 1) := by decide +kernel
theorem dX6_debt_57 : decode cX6_debt 57 = .ok (.ifCond .ge 7, 3) := by decide +kernel
theorem dX6_debt_60 : decode cX6_debt 60 = .ok (.iconst 1, 1) := by decide +kernel
theorem dX6_debt_61 : decode cX6_debt 61 = .ok (.goto 4, 3) := by decide +kernel
theorem dX6_debt_64 : decode cX6_debt 64 = .ok (.iconst 0, 1) := by decide +kernel
theorem dX6_debt_65 : decode cX6_debt 65 = .ok (.istore 4, 2) := by decide +kernel
theorem dX6_debt_67 : decode cX6_debt 67 = .ok (.iload_n 3, 1) := by decide +kernel
theorem dX6_debt_68 : decode cX6_debt 68 = .ok (.iconst 1, 1) := by decide +kernel
theorem dX6_debt_69 : decode cX6_debt 69 = .ok (.if_icmp .ne 14, 3) := by decide +kernel
theorem dX6_debt_72 : decode cX6_debt 72 = .ok (.iload 4, 2) := by decide +kernel
theorem dX6_debt_74 : decode cX6_debt 74 = .ok (.ifCond .eq 7, 3) := by decide +kernel
theorem dX6_debt_77 : decode cX6_debt 77 = .ok (.iconst 1, 1) := by decide +kernel
theorem dX6_debt_78 : decode cX6_debt 78 = .ok (.goto 4, 3) := by decide +kernel
theorem dX6_debt_81 : decode cX6_debt 81 = .ok (.iconst 0, 1) := by decide +kernel
theorem dX6_debt_82 : decode cX6_debt 82 = .ok (.ireturn, 1) := by decide +kernel
theorem dX6_debt_83 : decode cX6_debt 83 = .ok (.iload 4, 2) := by decide +kernel
theorem dX6_debt_85 : decode cX6_debt 85 = .ok (.ifCond .eq 24, 3) := by decide +kernel
theorem dX6_debt_88 : decode cX6_debt 88 = .ok (.iload_n 2, 1) := by decide +kernel
theorem dX6_debt_89 : decode cX6_debt 89 = .ok (.i2l, 1) := by decide +kernel
theorem dX6_debt_90 : decode cX6_debt 90 = .ok (.aload_n 0, 1) := by decide +kernel
theorem dX6_debt_91 : decode cX6_debt 91 = .ok (.invokevirtual 111, 3) := by decide +kernel
theorem dX6_debt_94 : decode cX6_debt 94 = .ok (.lmul, 1) := by decide +kernel
theorem dX6_debt_95 : decode cX6_debt 95 = .ok (.aload_n 0, 1) := by decide +kernel
theorem dX6_debt_96 : decode cX6_debt 96 = .ok (.getfield 13, 3) := by decide +kernel
theorem dX6_debt_99 : decode cX6_debt 99 = .ok (.bipush 9, 2) := by decide +kernel
theorem dX6_debt_101 : decode cX6_debt 101 = .ok (.iload_n 1, 1) := by decide +kernel
theorem dX6_debt_102 : decode cX6_debt 102 = .ok (.imul, 1) := by decide +kernel
theorem dX6_debt_103 : decode cX6_debt 103 = .ok (.laload, 1) := by decide +kernel
theorem dX6_debt_104 : decode cX6_debt 104 = .ok (.ldiv, 1) := by decide +kernel
theorem dX6_debt_105 : decode cX6_debt 105 = .ok (.l2i, 1) := by decide +kernel
theorem dX6_debt_106 : decode cX6_debt 106 = .ok (.goto 4, 3) := by decide +kernel
theorem dX6_debt_109 : decode cX6_debt 109 = .ok (.iload_n 2, 1) := by decide +kernel
theorem dX6_debt_110 : decode cX6_debt 110 = .ok (.ireturn, 1) := by decide +kernel
set_option maxRecDepth 20000 in
theorem ggX6_minting_X6_isRealm : GoodIn wsX6_minting wsX6_isRealm := goodIn_r _ [5, 6, 7, 8, 9, 4, 10, 15, 16, 17, 18, 19, 20, 21, 22, 23, 24, 25] (by decide +kernel) (by decide +kernel)
set_option maxRecDepth 20000 in
theorem gX6_minting_X6_isRealm : GoodIn wsX6_minting (wsV RX6 91 RX6 yX6_isRealm wsX6_isRealm) := goodIn_app (goodIn_of _ (by decide +kernel)) ggX6_minting_X6_isRealm
set_option maxRecDepth 20000 in
theorem ggX6_minting_X6_mints : GoodIn wsX6_minting wsX6_mints := goodIn_r _ [14, 7, 15, 16, 17, 18, 19, 20, 21, 22, 23, 24, 25] (by decide +kernel) (by decide +kernel)
set_option maxRecDepth 20000 in
theorem gX6_minting_X6_mints : GoodIn wsX6_minting (wsV RX6 94 RX6 yX6_mints wsX6_mints) := goodIn_app (goodIn_of _ (by decide +kernel)) ggX6_minting_X6_mints
theorem dX6_minting_0 : decode cX6_minting 0 = .ok (.iconst 0, 1) := by decide +kernel
theorem dX6_minting_1 : decode cX6_minting 1 = .ok (.istore_n 1, 1) := by decide +kernel
theorem dX6_minting_2 : decode cX6_minting 2 = .ok (.iconst 0, 1) := by decide +kernel
theorem dX6_minting_3 : decode cX6_minting 3 = .ok (.istore_n 2, 1) := by decide +kernel
theorem dX6_minting_4 : decode cX6_minting 4 = .ok (.iload_n 2, 1) := by decide +kernel
theorem dX6_minting_5 : decode cX6_minting 5 = .ok (.bipush 8, 2) := by decide +kernel
theorem dX6_minting_7 : decode cX6_minting 7 = .ok (.if_icmp .ge 35, 3) := by decide +kernel
theorem dX6_minting_10 : decode cX6_minting 10 = .ok (.iload_n 1, 1) := by decide +kernel
theorem dX6_minting_11 : decode cX6_minting 11 = .ok (.aload_n 0, 1) := by decide +kernel
theorem dX6_minting_12 : decode cX6_minting 12 = .ok (.iload_n 2, 1) := by decide +kernel
theorem dX6_minting_13 : decode cX6_minting 13 = .ok (.invokevirtual 91, 3) := by decide +kernel
theorem dX6_minting_16 : decode cX6_minting 16 = .ok (.ifCond .eq 17, 3) := by decide +kernel
theorem dX6_minting_19 : decode cX6_minting 19 = .ok (.aload_n 0, 1) := by decide +kernel
theorem dX6_minting_20 : decode cX6_minting 20 = .ok (.iload_n 2, 1) := by decide +kernel
theorem dX6_minting_21 : decode cX6_minting 21 = .ok (.invokevirtual 94, 3) := by decide +kernel
theorem dX6_minting_24 : decode cX6_minting 24 = .ok (.ifCond .eq 9, 3) := by decide +kernel
theorem dX6_minting_27 : decode cX6_minting 27 = .ok (.iconst 1, 1) := by decide +kernel
theorem dX6_minting_28 : decode cX6_minting 28 = .ok (.iload_n 2, 1) := by decide +kernel
theorem dX6_minting_29 : decode cX6_minting 29 = .ok (.ishl, 1) := by decide +kernel
theorem dX6_minting_30 : decode cX6_minting 30 = .ok (.goto 4, 3) := by decide +kernel
theorem dX6_minting_33 : decode cX6_minting 33 = .ok (.iconst 0, 1) := by decide +kernel
theorem dX6_minting_34 : decode cX6_minting 34 = .ok (.ior, 1) := by decide +kernel
theorem dX6_minting_35 : decode cX6_minting 35 = .ok (.istore_n 1, 1) := by decide +kernel
theorem dX6_minting_36 : decode cX6_minting 36 = .ok (.iinc 2 1, 3) := by decide +kernel
theorem dX6_minting_39 : decode cX6_minting 39 = .ok (.goto (-35), 3) := by decide +kernel
theorem dX6_minting_42 : decode cX6_minting 42 = .ok (.iload_n 1, 1) := by decide +kernel
theorem dX6_minting_43 : decode cX6_minting 43 = .ok (.ireturn, 1) := by decide +kernel
set_option maxRecDepth 20000 in
theorem ggX6_isRatio_X6_in : GoodIn wsX6_isRatio wsX6_in := goodIn_r _ [6] (by decide +kernel) (by decide +kernel)
set_option maxRecDepth 20000 in
theorem gX6_isRatio_X6_in : GoodIn wsX6_isRatio (va_wsS RX6 43 yX6_in wsX6_in) := goodIn_app (goodIn_of _ (by decide +kernel)) ggX6_isRatio_X6_in
theorem dX6_isRatio_0 : decode cX6_isRatio 0 = .ok (.iload_n 0, 1) := by decide +kernel
theorem dX6_isRatio_1 : decode cX6_isRatio 1 = .ok (.i2l, 1) := by decide +kernel
theorem dX6_isRatio_2 : decode cX6_isRatio 2 = .ok (.ldc2_w 73, 3) := by decide +kernel
theorem dX6_isRatio_5 : decode cX6_isRatio 5 = .ok (.ldc2_w 151, 3) := by decide +kernel
theorem dX6_isRatio_8 : decode cX6_isRatio 8 = .ok (.invokestatic 43, 3) := by decide +kernel
theorem dX6_isRatio_11 : decode cX6_isRatio 11 = .ok (.ireturn, 1) := by decide +kernel
set_option maxRecDepth 20000 in
theorem ggX6_pactOf_X6_copy : GoodIn wsX6_pactOf wsX6_copy := goodIn_r _ [6, 1, 7, 60, 61, 62, 63, 64, 65, 66, 67, 68, 69, 70] (by decide +kernel) (by decide +kernel)
set_option maxRecDepth 20000 in
theorem gX6_pactOf_X6_copy : GoodIn wsX6_pactOf (wsV RX6 97 RX6 yX6_copy wsX6_copy) := goodIn_app (goodIn_of _ (by decide +kernel)) ggX6_pactOf_X6_copy
set_option maxRecDepth 20000 in
theorem ggX6_pactOf_X6_has : GoodIn wsX6_pactOf wsX6_has := goodIn_r _ [10] (by decide +kernel) (by decide +kernel)
set_option maxRecDepth 20000 in
theorem gX6_pactOf_X6_has : GoodIn wsX6_pactOf (va_wsS RX6 153 yX6_has wsX6_has) := goodIn_app (goodIn_of _ (by decide +kernel)) ggX6_pactOf_X6_has
set_option maxRecDepth 20000 in
theorem ggX6_pactOf_X6_goRest : GoodIn wsX6_pactOf wsX6_goRest := goodIn_r _ [14, 15, 16, 17, 18, 5, 19, 1, 7, 20, 21, 22, 23, 24, 25, 26, 27, 28, 29, 30, 31, 32, 33, 34, 35, 36, 37, 38, 39, 40, 41, 42, 43, 44, 45, 46, 60, 61, 62, 63, 64, 65, 66, 67, 68, 69, 70] (by decide +kernel) (by decide +kernel)
set_option maxRecDepth 20000 in
theorem gX6_pactOf_X6_goRest : GoodIn wsX6_pactOf (wsV RX6 138 RX6 yX6_goRest wsX6_goRest) := goodIn_app (goodIn_of _ (by decide +kernel)) ggX6_pactOf_X6_goRest
set_option maxRecDepth 20000 in
theorem ggX6_pactOf_X6_ratio : GoodIn wsX6_pactOf wsX6_ratio := goodIn_r _ [36, 7, 37, 38, 20, 60, 61, 62, 63, 64, 65, 66, 67, 68, 69, 70] (by decide +kernel) (by decide +kernel)
set_option maxRecDepth 20000 in
theorem gX6_pactOf_X6_ratio : GoodIn wsX6_pactOf (wsV RX6 111 RX6 yX6_ratio wsX6_ratio) := goodIn_app (goodIn_of _ (by decide +kernel)) ggX6_pactOf_X6_ratio
set_option maxRecDepth 20000 in
theorem ggX6_pactOf_X6_held : GoodIn wsX6_pactOf wsX6_held := goodIn_r _ [50, 51, 52, 53, 5, 54, 1, 33, 34, 35, 36, 7, 37, 38, 20, 21, 22, 23, 24, 25, 26, 27, 28, 29, 30, 31, 32, 55, 56, 57, 58, 59, 39, 40, 41, 60, 61, 62, 63, 64, 65, 66, 67, 68, 69, 70] (by decide +kernel) (by decide +kernel)
set_option maxRecDepth 20000 in
theorem gX6_pactOf_X6_held : GoodIn wsX6_pactOf (wsV RX6 146 RX6 yX6_held wsX6_held) := goodIn_app (goodIn_of _ (by decide +kernel)) ggX6_pactOf_X6_held
theorem dX6_pactOf_0 : decode cX6_pactOf 0 = .ok (.aload_n 0, 1) := by decide +kernel
theorem dX6_pactOf_1 : decode cX6_pactOf 1 = .ok (.iconst 0, 1) := by decide +kernel
theorem dX6_pactOf_2 : decode cX6_pactOf 2 = .ok (.iconst 3, 1) := by decide +kernel
theorem dX6_pactOf_3 : decode cX6_pactOf 3 = .ok (.invokevirtual 97, 3) := by decide +kernel
theorem dX6_pactOf_6 : decode cX6_pactOf 6 = .ok (.iconst 0, 1) := by decide +kernel
theorem dX6_pactOf_7 : decode cX6_pactOf 7 = .ok (.istore 4, 2) := by decide +kernel
theorem dX6_pactOf_9 : decode cX6_pactOf 9 = .ok (.iload 4, 2) := by decide +kernel
theorem dX6_pactOf_11 : decode cX6_pactOf 11 = .ok (.bipush 8, 2) := by decide +kernel
theorem dX6_pactOf_13 : decode cX6_pactOf 13 = .ok (.if_icmp .ge 30, 3) := by decide +kernel
theorem dX6_pactOf_16 : decode cX6_pactOf 16 = .ok (.iload_n 1, 1) := by decide +kernel
theorem dX6_pactOf_17 : decode cX6_pactOf 17 = .ok (.iload 4, 2) := by decide +kernel
theorem dX6_pactOf_19 : decode cX6_pactOf 19 = .ok (.invokestatic 153, 3) := by decide +kernel
theorem dX6_pactOf_22 : decode cX6_pactOf 22 = .ok (.ifCond .eq 15, 3) := by decide +kernel
theorem dX6_pactOf_25 : decode cX6_pactOf 25 = .ok (.aload_n 0, 1) := by decide +kernel
theorem dX6_pactOf_26 : decode cX6_pactOf 26 = .ok (.getfield 13, 3) := by decide +kernel
theorem dX6_pactOf_29 : decode cX6_pactOf 29 = .ok (.bipush 9, 2) := by decide +kernel
theorem dX6_pactOf_31 : decode cX6_pactOf 31 = .ok (.iload 4, 2) := by decide +kernel
theorem dX6_pactOf_33 : decode cX6_pactOf 33 = .ok (.imul, 1) := by decide +kernel
theorem dX6_pactOf_34 : decode cX6_pactOf 34 = .ok (.iload_n 2, 1) := by decide +kernel
theorem dX6_pactOf_35 : decode cX6_pactOf 35 = .ok (.i2l, 1) := by decide +kernel
theorem dX6_pactOf_36 : decode cX6_pactOf 36 = .ok (.lastore, 1) := by decide +kernel
theorem dX6_pactOf_37 : decode cX6_pactOf 37 = .ok (.iinc 4 1, 3) := by decide +kernel
theorem dX6_pactOf_40 : decode cX6_pactOf 40 = .ok (.goto (-31), 3) := by decide +kernel
theorem dX6_pactOf_43 : decode cX6_pactOf 43 = .ok (.aload_n 0, 1) := by decide +kernel
theorem dX6_pactOf_44 : decode cX6_pactOf 44 = .ok (.invokevirtual 138, 3) := by decide +kernel
theorem dX6_pactOf_47 : decode cX6_pactOf 47 = .ok (.istore 4, 2) := by decide +kernel
theorem dX6_pactOf_49 : decode cX6_pactOf 49 = .ok (.iload_n 3, 1) := by decide +kernel
theorem dX6_pactOf_50 : decode cX6_pactOf 50 = .ok (.iconst 1, 1) := by decide +kernel
theorem dX6_pactOf_51 : decode cX6_pactOf 51 = .ok (.if_icmp .ne 11, 3) := by decide +kernel
theorem dX6_pactOf_54 : decode cX6_pactOf 54 = .ok (.aload_n 0, 1) := by decide +kernel
theorem dX6_pactOf_55 : decode cX6_pactOf 55 = .ok (.invokevirtual 111, 3) := by decide +kernel
theorem dX6_pactOf_58 : decode cX6_pactOf 58 = .ok (.l2i, 1) := by decide +kernel
theorem dX6_pactOf_59 : decode cX6_pactOf 59 = .ok (.goto 19, 3) := by decide +kernel
theorem dX6_pactOf_62 : decode cX6_pactOf 62 = .ok (.iload_n 1, 1) := by decide +kernel
theorem dX6_pactOf_63 : decode cX6_pactOf 63 = .ok (.aload_n 0, 1) := by decide +kernel
theorem dX6_pactOf_64 : decode cX6_pactOf 64 = .ok (.invokevirtual 146, 3) := by decide +kernel
theorem dX6_pactOf_67 : decode cX6_pactOf 67 = .ok (.iconst (-1), 1) := by decide +kernel
theorem dX6_pactOf_68 : decode cX6_pactOf 68 = .ok (.ixor, 1) := by decide +kernel
theorem dX6_pactOf_69 : decode cX6_pactOf 69 = .ok (.iand, 1) := by decide +kernel
theorem dX6_pactOf_70 : decode cX6_pactOf 70 = .ok (.ifCond .ne 7, 3) := by decide +kernel
theorem dX6_pactOf_73 : decode cX6_pactOf 73 = .ok (.iconst 1, 1) := by decide +kernel
theorem dX6_pactOf_74 : decode cX6_pactOf 74 = .ok (.goto 4, 3) := by decide +kernel
theorem dX6_pactOf_77 : decode cX6_pactOf 77 = .ok (.iconst 0, 1) := by decide +kernel
theorem dX6_pactOf_78 : decode cX6_pactOf 78 = .ok (.istore 5, 2) := by decide +kernel
theorem dX6_pactOf_80 : decode cX6_pactOf 80 = .ok (.aload_n 0, 1) := by decide +kernel
theorem dX6_pactOf_81 : decode cX6_pactOf 81 = .ok (.iconst 3, 1) := by decide +kernel
theorem dX6_pactOf_82 : decode cX6_pactOf 82 = .ok (.iconst 0, 1) := by decide +kernel
theorem dX6_pactOf_83 : decode cX6_pactOf 83 = .ok (.invokevirtual 97, 3) := by decide +kernel
theorem dX6_pactOf_86 : decode cX6_pactOf 86 = .ok (.iload 4, 2) := by decide +kernel
theorem dX6_pactOf_88 : decode cX6_pactOf 88 = .ok (.bipush (-5), 2) := by decide +kernel
theorem dX6_pactOf_90 : decode cX6_pactOf 90 = .ok (.if_icmp .ne 8, 3) := by decide +kernel
theorem dX6_pactOf_93 : decode cX6_pactOf 93 = .ok (.bipush (-5), 2) := by decide +kernel
theorem dX6_pactOf_95 : decode cX6_pactOf 95 = .ok (.goto 5, 3) := by decide +kernel
theorem dX6_pactOf_98 : decode cX6_pactOf 98 = .ok (.iload 5, 2) := by decide +kernel
theorem dX6_pactOf_100 : decode cX6_pactOf 100 = .ok (.ireturn, 1) := by decide +kernel
set_option maxRecDepth 20000 in
theorem ggX6_pact_X6_minting : GoodIn wsX6_pact wsX6_minting := goodIn_r _ [5, 6, 7, 8, 4, 9, 10, 11, 12, 13, 14, 15, 16, 17, 18, 72, 73, 74, 75, 76, 77, 78, 79, 80, 81, 82] (by decide +kernel) (by decide +kernel)
set_option maxRecDepth 20000 in
theorem gX6_pact_X6_minting : GoodIn wsX6_pact (wsV RX6 157 RX6 yX6_minting wsX6_minting) := goodIn_app (goodIn_of _ (by decide +kernel)) ggX6_pact_X6_minting
set_option maxRecDepth 20000 in
theorem ggX6_pact_X6_isRatio : GoodIn wsX6_pact wsX6_isRatio := goodIn_r _ [21, 22, 23, 12, 13, 4, 14] (by decide +kernel) (by decide +kernel)
set_option maxRecDepth 20000 in
theorem gX6_pact_X6_isRatio : GoodIn wsX6_pact (va_wsS RX6 160 yX6_isRatio wsX6_isRatio) := goodIn_app (goodIn_of _ (by decide +kernel)) ggX6_pact_X6_isRatio
set_option maxRecDepth 20000 in
theorem ggX6_pact_X6_in : GoodIn wsX6_pact wsX6_in := goodIn_r _ [14] (by decide +kernel) (by decide +kernel)
set_option maxRecDepth 20000 in
theorem gX6_pact_X6_in : GoodIn wsX6_pact (va_wsS RX6 43 yX6_in wsX6_in) := goodIn_app (goodIn_of _ (by decide +kernel)) ggX6_pact_X6_in
set_option maxRecDepth 20000 in
theorem ggX6_pact_X6_pactOf : GoodIn wsX6_pact wsX6_pactOf := goodIn_r _ [27, 11, 28, 29, 30, 4, 31, 32, 33, 34, 35, 36, 37, 38, 39, 40, 41, 42, 43, 44, 22, 6, 7, 8, 9, 10, 12, 13, 14, 15, 16, 17, 18, 45, 46, 47, 48, 49, 50, 51, 52, 53, 54, 55, 56, 57, 58, 59, 60, 61, 62, 63, 64, 65, 66, 67, 68, 69, 70, 71, 72, 73, 74, 75, 76, 77, 78, 79, 80, 81, 82] (by decide +kernel) (by decide +kernel)
set_option maxRecDepth 20000 in
theorem gX6_pact_X6_pactOf : GoodIn wsX6_pact (wsV RX6 163 RX6 yX6_pactOf wsX6_pactOf) := goodIn_app (goodIn_of _ (by decide +kernel)) ggX6_pact_X6_pactOf
theorem dX6_pact_0 : decode cX6_pact 0 = .ok (.iload_n 1, 1) := by decide +kernel
theorem dX6_pact_1 : decode cX6_pact 1 = .ok (.ifCond .le 31, 3) := by decide +kernel
theorem dX6_pact_4 : decode cX6_pact 4 = .ok (.iload_n 1, 1) := by decide +kernel
theorem dX6_pact_5 : decode cX6_pact 5 = .ok (.aload_n 0, 1) := by decide +kernel
theorem dX6_pact_6 : decode cX6_pact 6 = .ok (.invokevirtual 157, 3) := by decide +kernel
theorem dX6_pact_9 : decode cX6_pact 9 = .ok (.iconst (-1), 1) := by decide +kernel
theorem dX6_pact_10 : decode cX6_pact 10 = .ok (.ixor, 1) := by decide +kernel
theorem dX6_pact_11 : decode cX6_pact 11 = .ok (.iand, 1) := by decide +kernel
theorem dX6_pact_12 : decode cX6_pact 12 = .ok (.ifCond .ne 20, 3) := by decide +kernel
theorem dX6_pact_15 : decode cX6_pact 15 = .ok (.iload_n 2, 1) := by decide +kernel
theorem dX6_pact_16 : decode cX6_pact 16 = .ok (.invokestatic 160, 3) := by decide +kernel
theorem dX6_pact_19 : decode cX6_pact 19 = .ok (.ifCond .eq 13, 3) := by decide +kernel
theorem dX6_pact_22 : decode cX6_pact 22 = .ok (.iload_n 3, 1) := by decide +kernel
theorem dX6_pact_23 : decode cX6_pact 23 = .ok (.i2l, 1) := by decide +kernel
theorem dX6_pact_24 : decode cX6_pact 24 = .ok (.lconst 0, 1) := by decide +kernel
theorem dX6_pact_25 : decode cX6_pact 25 = .ok (.lconst 1, 1) := by decide +kernel
theorem dX6_pact_26 : decode cX6_pact 26 = .ok (.invokestatic 43, 3) := by decide +kernel
theorem dX6_pact_29 : decode cX6_pact 29 = .ok (.ifCond .ne 5, 3) := by decide +kernel
theorem dX6_pact_32 : decode cX6_pact 32 = .ok (.iconst (-1), 1) := by decide +kernel
theorem dX6_pact_33 : decode cX6_pact 33 = .ok (.ireturn, 1) := by decide +kernel
theorem dX6_pact_34 : decode cX6_pact 34 = .ok (.aload_n 0, 1) := by decide +kernel
theorem dX6_pact_35 : decode cX6_pact 35 = .ok (.iload_n 1, 1) := by decide +kernel
theorem dX6_pact_36 : decode cX6_pact 36 = .ok (.iload_n 2, 1) := by decide +kernel
theorem dX6_pact_37 : decode cX6_pact 37 = .ok (.iload_n 3, 1) := by decide +kernel
theorem dX6_pact_38 : decode cX6_pact 38 = .ok (.invokevirtual 163, 3) := by decide +kernel
theorem dX6_pact_41 : decode cX6_pact 41 = .ok (.ireturn, 1) := by decide +kernel
set_option maxRecDepth 20000 in
theorem ggX6_fewest_X6_isRatio : GoodIn wsX6_fewest wsX6_isRatio := goodIn_r _ [4, 5, 6, 7, 8, 3, 9] (by decide +kernel) (by decide +kernel)
set_option maxRecDepth 20000 in
theorem gX6_fewest_X6_isRatio : GoodIn wsX6_fewest (va_wsS RX6 160 yX6_isRatio wsX6_isRatio) := goodIn_app (goodIn_of _ (by decide +kernel)) ggX6_fewest_X6_isRatio
set_option maxRecDepth 20000 in
theorem ggX6_fewest_X6_minting : GoodIn wsX6_fewest wsX6_minting := goodIn_r _ [13, 14, 15, 16, 3, 17, 18, 19, 7, 8, 9, 20, 21, 22, 23, 75, 76, 77, 78, 79, 80, 81, 82, 83, 84, 85] (by decide +kernel) (by decide +kernel)
set_option maxRecDepth 20000 in
theorem gX6_fewest_X6_minting : GoodIn wsX6_fewest (wsV RX6 157 RX6 yX6_minting wsX6_minting) := goodIn_app (goodIn_of _ (by decide +kernel)) ggX6_fewest_X6_minting
set_option maxRecDepth 20000 in
theorem ggX6_fewest_X6_bits : GoodIn wsX6_fewest wsX6_bits := goodIn_r _ [26] (by decide +kernel) (by decide +kernel)
set_option maxRecDepth 20000 in
theorem gX6_fewest_X6_bits : GoodIn wsX6_fewest (va_wsS RX6 167 yX6_bits wsX6_bits) := goodIn_app (goodIn_of _ (by decide +kernel)) ggX6_fewest_X6_bits
set_option maxRecDepth 20000 in
theorem ggX6_fewest_X6_pactOf : GoodIn wsX6_fewest wsX6_pactOf := goodIn_r _ [30, 19, 31, 32, 33, 3, 34, 35, 36, 37, 38, 39, 40, 41, 42, 43, 44, 45, 46, 47, 5, 14, 15, 16, 17, 18, 7, 8, 9, 20, 21, 22, 23, 48, 49, 50, 51, 52, 53, 54, 55, 56, 57, 58, 59, 60, 61, 62, 63, 64, 65, 66, 67, 68, 69, 70, 71, 72, 73, 74, 75, 76, 77, 78, 79, 80, 81, 82, 83, 84, 85] (by decide +kernel) (by decide +kernel)
set_option maxRecDepth 20000 in
theorem gX6_fewest_X6_pactOf : GoodIn wsX6_fewest (wsV RX6 163 RX6 yX6_pactOf wsX6_pactOf) := goodIn_app (goodIn_of _ (by decide +kernel)) ggX6_fewest_X6_pactOf
theorem dX6_fewest_0 : decode cX6_fewest 0 = .ok (.iload_n 1, 1) := by decide +kernel
theorem dX6_fewest_1 : decode cX6_fewest 1 = .ok (.invokestatic 160, 3) := by decide +kernel
theorem dX6_fewest_4 : decode cX6_fewest 4 = .ok (.ifCond .ne 5, 3) := by decide +kernel
theorem dX6_fewest_7 : decode cX6_fewest 7 = .ok (.iconst (-1), 1) := by decide +kernel
theorem dX6_fewest_8 : decode cX6_fewest 8 = .ok (.ireturn, 1) := by decide +kernel
theorem dX6_fewest_9 : decode cX6_fewest 9 = .ok (.aload_n 0, 1) := by decide +kernel
theorem dX6_fewest_10 : decode cX6_fewest 10 = .ok (.invokevirtual 157, 3) := by decide +kernel
theorem dX6_fewest_13 : decode cX6_fewest 13 = .ok (.istore_n 2, 1) := by decide +kernel
theorem dX6_fewest_14 : decode cX6_fewest 14 = .ok (.bipush (-4), 2) := by decide +kernel
theorem dX6_fewest_16 : decode cX6_fewest 16 = .ok (.istore_n 3, 1) := by decide +kernel
theorem dX6_fewest_17 : decode cX6_fewest 17 = .ok (.iconst 1, 1) := by decide +kernel
theorem dX6_fewest_18 : decode cX6_fewest 18 = .ok (.istore 4, 2) := by decide +kernel
theorem dX6_fewest_20 : decode cX6_fewest 20 = .ok (.iload 4, 2) := by decide +kernel
theorem dX6_fewest_22 : decode cX6_fewest 22 = .ok (.sipush 256, 3) := by decide +kernel
theorem dX6_fewest_25 : decode cX6_fewest 25 = .ok (.if_icmp .ge 67, 3) := by decide +kernel
theorem dX6_fewest_28 : decode cX6_fewest 28 = .ok (.iload 4, 2) := by decide +kernel
theorem dX6_fewest_30 : decode cX6_fewest 30 = .ok (.iload_n 2, 1) := by decide +kernel
theorem dX6_fewest_31 : decode cX6_fewest 31 = .ok (.iconst (-1), 1) := by decide +kernel
theorem dX6_fewest_32 : decode cX6_fewest 32 = .ok (.ixor, 1) := by decide +kernel
theorem dX6_fewest_33 : decode cX6_fewest 33 = .ok (.iand, 1) := by decide +kernel
theorem dX6_fewest_34 : decode cX6_fewest 34 = .ok (.ifCond .ne 25, 3) := by decide +kernel
theorem dX6_fewest_37 : decode cX6_fewest 37 = .ok (.iload_n 3, 1) := by decide +kernel
theorem dX6_fewest_38 : decode cX6_fewest 38 = .ok (.bipush (-4), 2) := by decide +kernel
theorem dX6_fewest_40 : decode cX6_fewest 40 = .ok (.if_icmp .eq 15, 3) := by decide +kernel
theorem dX6_fewest_43 : decode cX6_fewest 43 = .ok (.iload 4, 2) := by decide +kernel
theorem dX6_fewest_45 : decode cX6_fewest 45 = .ok (.invokestatic 167, 3) := by decide +kernel
theorem dX6_fewest_48 : decode cX6_fewest 48 = .ok (.iload_n 3, 1) := by decide +kernel
theorem dX6_fewest_49 : decode cX6_fewest 49 = .ok (.invokestatic 167, 3) := by decide +kernel
theorem dX6_fewest_52 : decode cX6_fewest 52 = .ok (.if_icmp .ge 7, 3) := by decide +kernel
theorem dX6_fewest_55 : decode cX6_fewest 55 = .ok (.iconst 1, 1) := by decide +kernel
theorem dX6_fewest_56 : decode cX6_fewest 56 = .ok (.goto 4, 3) := by decide +kernel
theorem dX6_fewest_59 : decode cX6_fewest 59 = .ok (.iconst 0, 1) := by decide +kernel
theorem dX6_fewest_60 : decode cX6_fewest 60 = .ok (.istore 5, 2) := by decide +kernel
theorem dX6_fewest_62 : decode cX6_fewest 62 = .ok (.iload 5, 2) := by decide +kernel
theorem dX6_fewest_64 : decode cX6_fewest 64 = .ok (.ifCond .eq 20, 3) := by decide +kernel
theorem dX6_fewest_67 : decode cX6_fewest 67 = .ok (.aload_n 0, 1) := by decide +kernel
theorem dX6_fewest_68 : decode cX6_fewest 68 = .ok (.iload 4, 2) := by decide +kernel
theorem dX6_fewest_70 : decode cX6_fewest 70 = .ok (.iload_n 1, 1) := by decide +kernel
theorem dX6_fewest_71 : decode cX6_fewest 71 = .ok (.iconst 0, 1) := by decide +kernel
theorem dX6_fewest_72 : decode cX6_fewest 72 = .ok (.invokevirtual 163, 3) := by decide +kernel
theorem dX6_fewest_75 : decode cX6_fewest 75 = .ok (.iconst 1, 1) := by decide +kernel
theorem dX6_fewest_76 : decode cX6_fewest 76 = .ok (.if_icmp .ne 8, 3) := by decide +kernel
theorem dX6_fewest_79 : decode cX6_fewest 79 = .ok (.iload 4, 2) := by decide +kernel
theorem dX6_fewest_81 : decode cX6_fewest 81 = .ok (.goto 4, 3) := by decide +kernel
theorem dX6_fewest_84 : decode cX6_fewest 84 = .ok (.iload_n 3, 1) := by decide +kernel
theorem dX6_fewest_85 : decode cX6_fewest 85 = .ok (.istore_n 3, 1) := by decide +kernel
theorem dX6_fewest_86 : decode cX6_fewest 86 = .ok (.iinc 4 1, 3) := by decide +kernel
theorem dX6_fewest_89 : decode cX6_fewest 89 = .ok (.goto (-69), 3) := by decide +kernel
theorem dX6_fewest_92 : decode cX6_fewest 92 = .ok (.iload_n 3, 1) := by decide +kernel
theorem dX6_fewest_93 : decode cX6_fewest 93 = .ok (.ireturn, 1) := by decide +kernel
set_option maxRecDepth 20000 in
theorem ggX6_boughtOf_X6_copy : GoodIn wsX6_boughtOf wsX6_copy := goodIn_r _ [7, 2, 1, 44, 45, 46, 47, 48, 49, 50, 51, 52, 53, 54] (by decide +kernel) (by decide +kernel)
set_option maxRecDepth 20000 in
theorem gX6_boughtOf_X6_copy : GoodIn wsX6_boughtOf (wsV RX6 97 RX6 yX6_copy wsX6_copy) := goodIn_app (goodIn_of _ (by decide +kernel)) ggX6_boughtOf_X6_copy
set_option maxRecDepth 20000 in
theorem ggX6_boughtOf_X6_goRest : GoodIn wsX6_boughtOf wsX6_goRest := goodIn_r _ [11, 12, 13, 14, 15, 6, 16, 2, 1, 17, 18, 19, 20, 21, 22, 23, 24, 25, 26, 27, 28, 29, 30, 31, 32, 33, 34, 35, 36, 37, 38, 39, 40, 41, 42, 43, 44, 45, 46, 47, 48, 49, 50, 51, 52, 53, 54] (by decide +kernel) (by decide +kernel)
set_option maxRecDepth 20000 in
theorem gX6_boughtOf_X6_goRest : GoodIn wsX6_boughtOf (wsV RX6 138 RX6 yX6_goRest wsX6_goRest) := goodIn_app (goodIn_of _ (by decide +kernel)) ggX6_boughtOf_X6_goRest
set_option maxRecDepth 20000 in
theorem ggX6_boughtOf_X6_ratio : GoodIn wsX6_boughtOf wsX6_ratio := goodIn_r _ [33, 1, 34, 35, 17, 44, 45, 46, 47, 48, 49, 50, 51, 52, 53, 54] (by decide +kernel) (by decide +kernel)
set_option maxRecDepth 20000 in
theorem gX6_boughtOf_X6_ratio : GoodIn wsX6_boughtOf (wsV RX6 111 RX6 yX6_ratio wsX6_ratio) := goodIn_app (goodIn_of _ (by decide +kernel)) ggX6_boughtOf_X6_ratio
theorem dX6_boughtOf_0 : decode cX6_boughtOf 0 = .ok (.aload_n 0, 1) := by decide +kernel
theorem dX6_boughtOf_1 : decode cX6_boughtOf 1 = .ok (.iconst 0, 1) := by decide +kernel
theorem dX6_boughtOf_2 : decode cX6_boughtOf 2 = .ok (.iconst 3, 1) := by decide +kernel
theorem dX6_boughtOf_3 : decode cX6_boughtOf 3 = .ok (.invokevirtual 97, 3) := by decide +kernel
theorem dX6_boughtOf_6 : decode cX6_boughtOf 6 = .ok (.aload_n 0, 1) := by decide +kernel
theorem dX6_boughtOf_7 : decode cX6_boughtOf 7 = .ok (.getfield 17, 3) := by decide +kernel
theorem dX6_boughtOf_10 : decode cX6_boughtOf 10 = .ok (.iconst 0, 1) := by decide +kernel
theorem dX6_boughtOf_11 : decode cX6_boughtOf 11 = .ok (.dup2, 1) := by decide +kernel
theorem dX6_boughtOf_12 : decode cX6_boughtOf 12 = .ok (.laload, 1) := by decide +kernel
theorem dX6_boughtOf_13 : decode cX6_boughtOf 13 = .ok (.lload_n 1, 1) := by decide +kernel
theorem dX6_boughtOf_14 : decode cX6_boughtOf 14 = .ok (.lsub, 1) := by decide +kernel
theorem dX6_boughtOf_15 : decode cX6_boughtOf 15 = .ok (.lastore, 1) := by decide +kernel
theorem dX6_boughtOf_16 : decode cX6_boughtOf 16 = .ok (.aload_n 0, 1) := by decide +kernel
theorem dX6_boughtOf_17 : decode cX6_boughtOf 17 = .ok (.invokevirtual 138, 3) := by decide +kernel
theorem dX6_boughtOf_20 : decode cX6_boughtOf 20 = .ok (.istore 4, 2) := by decide +kernel
theorem dX6_boughtOf_22 : decode cX6_boughtOf 22 = .ok (.iload_n 3, 1) := by decide +kernel
theorem dX6_boughtOf_23 : decode cX6_boughtOf 23 = .ok (.ifCond .ge 11, 3) := by decide +kernel
theorem dX6_boughtOf_26 : decode cX6_boughtOf 26 = .ok (.aload_n 0, 1) := by decide +kernel
theorem dX6_boughtOf_27 : decode cX6_boughtOf 27 = .ok (.invokevirtual 111, 3) := by decide +kernel
theorem dX6_boughtOf_30 : decode cX6_boughtOf 30 = .ok (.l2i, 1) := by decide +kernel
theorem dX6_boughtOf_31 : decode cX6_boughtOf 31 = .ok (.goto 15, 3) := by decide +kernel
theorem dX6_boughtOf_34 : decode cX6_boughtOf 34 = .ok (.aload_n 0, 1) := by decide +kernel
theorem dX6_boughtOf_35 : decode cX6_boughtOf 35 = .ok (.getfield 13, 3) := by decide +kernel
theorem dX6_boughtOf_38 : decode cX6_boughtOf 38 = .ok (.bipush 9, 2) := by decide +kernel
theorem dX6_boughtOf_40 : decode cX6_boughtOf 40 = .ok (.iload_n 3, 1) := by decide +kernel
theorem dX6_boughtOf_41 : decode cX6_boughtOf 41 = .ok (.imul, 1) := by decide +kernel
theorem dX6_boughtOf_42 : decode cX6_boughtOf 42 = .ok (.iconst 3, 1) := by decide +kernel
theorem dX6_boughtOf_43 : decode cX6_boughtOf 43 = .ok (.iadd, 1) := by decide +kernel
theorem dX6_boughtOf_44 : decode cX6_boughtOf 44 = .ok (.laload, 1) := by decide +kernel
theorem dX6_boughtOf_45 : decode cX6_boughtOf 45 = .ok (.l2i, 1) := by decide +kernel
theorem dX6_boughtOf_46 : decode cX6_boughtOf 46 = .ok (.istore 5, 2) := by decide +kernel
theorem dX6_boughtOf_48 : decode cX6_boughtOf 48 = .ok (.aload_n 0, 1) := by decide +kernel
theorem dX6_boughtOf_49 : decode cX6_boughtOf 49 = .ok (.iconst 3, 1) := by decide +kernel
theorem dX6_boughtOf_50 : decode cX6_boughtOf 50 = .ok (.iconst 0, 1) := by decide +kernel
theorem dX6_boughtOf_51 : decode cX6_boughtOf 51 = .ok (.invokevirtual 97, 3) := by decide +kernel
theorem dX6_boughtOf_54 : decode cX6_boughtOf 54 = .ok (.iload 4, 2) := by decide +kernel
theorem dX6_boughtOf_56 : decode cX6_boughtOf 56 = .ok (.bipush (-5), 2) := by decide +kernel
theorem dX6_boughtOf_58 : decode cX6_boughtOf 58 = .ok (.if_icmp .ne 8, 3) := by decide +kernel
theorem dX6_boughtOf_61 : decode cX6_boughtOf 61 = .ok (.bipush (-5), 2) := by decide +kernel
theorem dX6_boughtOf_63 : decode cX6_boughtOf 63 = .ok (.goto 5, 3) := by decide +kernel
theorem dX6_boughtOf_66 : decode cX6_boughtOf 66 = .ok (.iload 5, 2) := by decide +kernel
theorem dX6_boughtOf_68 : decode cX6_boughtOf 68 = .ok (.ireturn, 1) := by decide +kernel
set_option maxRecDepth 20000 in
theorem ggX6_bought_X6_in : GoodIn wsX6_bought wsX6_in := goodIn_r _ [5] (by decide +kernel) (by decide +kernel)
set_option maxRecDepth 20000 in
theorem gX6_bought_X6_in : GoodIn wsX6_bought (va_wsS RX6 43 yX6_in wsX6_in) := goodIn_app (goodIn_of _ (by decide +kernel)) ggX6_bought_X6_in
set_option maxRecDepth 20000 in
theorem ggX6_bought_X6_isRealm : GoodIn wsX6_bought wsX6_isRealm := goodIn_r _ [9, 10, 11, 2, 3, 4, 5, 48, 49, 50, 51, 52, 53, 54, 55, 56, 57, 58] (by decide +kernel) (by decide +kernel)
set_option maxRecDepth 20000 in
theorem gX6_bought_X6_isRealm : GoodIn wsX6_bought (wsV RX6 91 RX6 yX6_isRealm wsX6_isRealm) := goodIn_app (goodIn_of _ (by decide +kernel)) ggX6_bought_X6_isRealm
set_option maxRecDepth 20000 in
theorem ggX6_bought_X6_boughtOf : GoodIn wsX6_bought wsX6_boughtOf := goodIn_r _ [15, 1, 11, 16, 17, 18, 4, 19, 20, 21, 22, 23, 24, 25, 26, 27, 28, 29, 6, 7, 8, 9, 10, 2, 3, 5, 30, 31, 32, 33, 34, 35, 36, 37, 38, 39, 40, 41, 42, 43, 44, 45, 46, 47, 48, 49, 50, 51, 52, 53, 54, 55, 56, 57, 58] (by decide +kernel) (by decide +kernel)
set_option maxRecDepth 20000 in
theorem gX6_bought_X6_boughtOf : GoodIn wsX6_bought (wsV RX6 170 RX6 yX6_boughtOf wsX6_boughtOf) := goodIn_app (goodIn_of _ (by decide +kernel)) ggX6_bought_X6_boughtOf
theorem dX6_bought_0 : decode cX6_bought 0 = .ok (.iload_n 1, 1) := by decide +kernel
theorem dX6_bought_1 : decode cX6_bought 1 = .ok (.i2l, 1) := by decide +kernel
theorem dX6_bought_2 : decode cX6_bought 2 = .ok (.lconst 0, 1) := by decide +kernel
theorem dX6_bought_3 : decode cX6_bought 3 = .ok (.aload_n 0, 1) := by decide +kernel
theorem dX6_bought_4 : decode cX6_bought 4 = .ok (.getfield 17, 3) := by decide +kernel
theorem dX6_bought_7 : decode cX6_bought 7 = .ok (.iconst 0, 1) := by decide +kernel
theorem dX6_bought_8 : decode cX6_bought 8 = .ok (.laload, 1) := by decide +kernel
theorem dX6_bought_9 : decode cX6_bought 9 = .ok (.invokestatic 43, 3) := by decide +kernel
theorem dX6_bought_12 : decode cX6_bought 12 = .ok (.ifCond .eq 16, 3) := by decide +kernel
theorem dX6_bought_15 : decode cX6_bought 15 = .ok (.iload_n 2, 1) := by decide +kernel
theorem dX6_bought_16 : decode cX6_bought 16 = .ok (.iconst (-1), 1) := by decide +kernel
theorem dX6_bought_17 : decode cX6_bought 17 = .ok (.if_icmp .eq 13, 3) := by decide +kernel
theorem dX6_bought_20 : decode cX6_bought 20 = .ok (.aload_n 0, 1) := by decide +kernel
theorem dX6_bought_21 : decode cX6_bought 21 = .ok (.iload_n 2, 1) := by decide +kernel
theorem dX6_bought_22 : decode cX6_bought 22 = .ok (.invokevirtual 91, 3) := by decide +kernel
theorem dX6_bought_25 : decode cX6_bought 25 = .ok (.ifCond .ne 5, 3) := by decide +kernel
theorem dX6_bought_28 : decode cX6_bought 28 = .ok (.iconst (-1), 1) := by decide +kernel
theorem dX6_bought_29 : decode cX6_bought 29 = .ok (.ireturn, 1) := by decide +kernel
theorem dX6_bought_30 : decode cX6_bought 30 = .ok (.aload_n 0, 1) := by decide +kernel
theorem dX6_bought_31 : decode cX6_bought 31 = .ok (.iload_n 1, 1) := by decide +kernel
theorem dX6_bought_32 : decode cX6_bought 32 = .ok (.i2l, 1) := by decide +kernel
theorem dX6_bought_33 : decode cX6_bought 33 = .ok (.iload_n 2, 1) := by decide +kernel
theorem dX6_bought_34 : decode cX6_bought 34 = .ok (.invokevirtual 170, 3) := by decide +kernel
theorem dX6_bought_37 : decode cX6_bought 37 = .ok (.ireturn, 1) := by decide +kernel
set_option maxRecDepth 20000 in
theorem ggX6_corner_X6_isRealm : GoodIn wsX6_corner wsX6_isRealm := goodIn_r _ [7, 8, 9, 10, 11, 6, 12, 49, 50, 51, 52, 53, 54, 55, 56, 57, 58, 59] (by decide +kernel) (by decide +kernel)
set_option maxRecDepth 20000 in
theorem gX6_corner_X6_isRealm : GoodIn wsX6_corner (wsV RX6 91 RX6 yX6_isRealm wsX6_isRealm) := goodIn_app (goodIn_of _ (by decide +kernel)) ggX6_corner_X6_isRealm
set_option maxRecDepth 20000 in
theorem ggX6_corner_X6_mints : GoodIn wsX6_corner wsX6_mints := goodIn_r _ [16, 9, 49, 50, 51, 52, 53, 54, 55, 56, 57, 58, 59] (by decide +kernel) (by decide +kernel)
set_option maxRecDepth 20000 in
theorem gX6_corner_X6_mints : GoodIn wsX6_corner (wsV RX6 94 RX6 yX6_mints wsX6_mints) := goodIn_app (goodIn_of _ (by decide +kernel)) ggX6_corner_X6_mints
set_option maxRecDepth 20000 in
theorem ggX6_corner_X6_boughtOf : GoodIn wsX6_corner wsX6_boughtOf := goodIn_r _ [20, 1, 9, 21, 22, 23, 6, 24, 25, 26, 27, 28, 29, 30, 31, 32, 33, 34, 3, 4, 5, 7, 8, 10, 11, 12, 13, 14, 15, 16, 35, 36, 37, 38, 39, 40, 41, 42, 43, 44, 45, 46, 47, 48, 49, 50, 51, 52, 53, 54, 55, 56, 57, 58, 59] (by decide +kernel) (by decide +kernel)
set_option maxRecDepth 20000 in
theorem gX6_corner_X6_boughtOf : GoodIn wsX6_corner (wsV RX6 170 RX6 yX6_boughtOf wsX6_boughtOf) := goodIn_app (goodIn_of _ (by decide +kernel)) ggX6_corner_X6_boughtOf
theorem dX6_corner_0 : decode cX6_corner 0 = .ok (.aload_n 0, 1) := by decide +kernel
theorem dX6_corner_1 : decode cX6_corner 1 = .ok (.iload_n 1, 1) := by decide +kernel
theorem dX6_corner_2 : decode cX6_corner 2 = .ok (.invokevirtual 91, 3) := by decide +kernel
theorem dX6_corner_5 : decode cX6_corner 5 = .ok (.ifCond .ne 5, 3) := by decide +kernel
theorem dX6_corner_8 : decode cX6_corner 8 = .ok (.iconst (-1), 1) := by decide +kernel
theorem dX6_corner_9 : decode cX6_corner 9 = .ok (.ireturn, 1) := by decide +kernel
theorem dX6_corner_10 : decode cX6_corner 10 = .ok (.aload_n 0, 1) := by decide +kernel
theorem dX6_corner_11 : decode cX6_corner 11 = .ok (.iload_n 1, 1) := by decide +kernel
theorem dX6_corner_12 : decode cX6_corner 12 = .ok (.invokevirtual 94, 3) := by decide +kernel
theorem dX6_corner_15 : decode cX6_corner 15 = .ok (.ifCond .ne 6, 3) := by decide +kernel
theorem dX6_corner_18 : decode cX6_corner 18 = .ok (.bipush (-2), 2) := by decide +kernel
theorem dX6_corner_20 : decode cX6_corner 20 = .ok (.ireturn, 1) := by decide +kernel
theorem dX6_corner_21 : decode cX6_corner 21 = .ok (.aload_n 0, 1) := by decide +kernel
theorem dX6_corner_22 : decode cX6_corner 22 = .ok (.getfield 17, 3) := by decide +kernel
theorem dX6_corner_25 : decode cX6_corner 25 = .ok (.iconst 0, 1) := by decide +kernel
theorem dX6_corner_26 : decode cX6_corner 26 = .ok (.laload, 1) := by decide +kernel
theorem dX6_corner_27 : decode cX6_corner 27 = .ok (.lstore_n 2, 1) := by decide +kernel
theorem dX6_corner_28 : decode cX6_corner 28 = .ok (.lconst 0, 1) := by decide +kernel
theorem dX6_corner_29 : decode cX6_corner 29 = .ok (.lstore 4, 2) := by decide +kernel
theorem dX6_corner_31 : decode cX6_corner 31 = .ok (.lload 4, 2) := by decide +kernel
theorem dX6_corner_33 : decode cX6_corner 33 = .ok (.lload_n 2, 1) := by decide +kernel
theorem dX6_corner_34 : decode cX6_corner 34 = .ok (.lcmp, 1) := by decide +kernel
theorem dX6_corner_35 : decode cX6_corner 35 = .ok (.ifCond .ge 39, 3) := by decide +kernel
theorem dX6_corner_38 : decode cX6_corner 38 = .ok (.aload_n 0, 1) := by decide +kernel
theorem dX6_corner_39 : decode cX6_corner 39 = .ok (.lload 4, 2) := by decide +kernel
theorem dX6_corner_41 : decode cX6_corner 41 = .ok (.iload_n 1, 1) := by decide +kernel
theorem dX6_corner_42 : decode cX6_corner 42 = .ok (.invokevirtual 170, 3) := by decide +kernel
theorem dX6_corner_45 : decode cX6_corner 45 = .ok (.ifCond .ne 7, 3) := by decide +kernel
theorem dX6_corner_48 : decode cX6_corner 48 = .ok (.lload 4, 2) := by decide +kernel
theorem dX6_corner_50 : decode cX6_corner 50 = .ok (.l2i, 1) := by decide +kernel
theorem dX6_corner_51 : decode cX6_corner 51 = .ok (.ireturn, 1) := by decide +kernel
theorem dX6_corner_52 : decode cX6_corner 52 = .ok (.lload 4, 2) := by decide +kernel
theorem dX6_corner_54 : decode cX6_corner 54 = .ok (.lconst 0, 1) := by decide +kernel
theorem dX6_corner_55 : decode cX6_corner 55 = .ok (.lcmp, 1) := by decide +kernel
theorem dX6_corner_56 : decode cX6_corner 56 = .ok (.ifCond .ne 7, 3) := by decide +kernel
theorem dX6_corner_59 : decode cX6_corner 59 = .ok (.lconst 1, 1) := by decide +kernel
theorem dX6_corner_60 : decode cX6_corner 60 = .ok (.goto 9, 3) := by decide +kernel
theorem dX6_corner_63 : decode cX6_corner 63 = .ok (.ldc2_w 174, 3) := by decide +kernel
theorem dX6_corner_66 : decode cX6_corner 66 = .ok (.lload 4, 2) := by decide +kernel
theorem dX6_corner_68 : decode cX6_corner 68 = .ok (.lmul, 1) := by decide +kernel
theorem dX6_corner_69 : decode cX6_corner 69 = .ok (.lstore 4, 2) := by decide +kernel
theorem dX6_corner_71 : decode cX6_corner 71 = .ok (.goto (-40), 3) := by decide +kernel
theorem dX6_corner_74 : decode cX6_corner 74 = .ok (.aload_n 0, 1) := by decide +kernel
theorem dX6_corner_75 : decode cX6_corner 75 = .ok (.lload_n 2, 1) := by decide +kernel
theorem dX6_corner_76 : decode cX6_corner 76 = .ok (.iload_n 1, 1) := by decide +kernel
theorem dX6_corner_77 : decode cX6_corner 77 = .ok (.invokevirtual 170, 3) := by decide +kernel
theorem dX6_corner_80 : decode cX6_corner 80 = .ok (.ifCond .ne 8, 3) := by decide +kernel
theorem dX6_corner_83 : decode cX6_corner 83 = .ok (.lload_n 2, 1) := by decide +kernel
theorem dX6_corner_84 : decode cX6_corner 84 = .ok (.l2i, 1) := by decide +kernel
theorem dX6_corner_85 : decode cX6_corner 85 = .ok (.goto 5, 3) := by decide +kernel
theorem dX6_corner_88 : decode cX6_corner 88 = .ok (.bipush (-4), 2) := by decide +kernel
theorem dX6_corner_90 : decode cX6_corner 90 = .ok (.ireturn, 1) := by decide +kernel
set_option maxRecDepth 20000 in
theorem ggX6_move_X6_isRealm : GoodIn wsX6_move wsX6_isRealm := goodIn_r _ [6, 7, 1, 8, 9, 5, 10, 16, 17, 18, 19, 20, 21, 22, 23, 24, 25, 26] (by decide +kernel) (by decide +kernel)
set_option maxRecDepth 20000 in
theorem gX6_move_X6_isRealm : GoodIn wsX6_move (wsV RX6 91 RX6 yX6_isRealm wsX6_isRealm) := goodIn_app (goodIn_of _ (by decide +kernel)) ggX6_move_X6_isRealm
set_option maxRecDepth 20000 in
theorem ggX6_move_X6_isRatio : GoodIn wsX6_move wsX6_isRatio := goodIn_r _ [13, 14, 15, 8, 9, 5, 10] (by decide +kernel) (by decide +kernel)
set_option maxRecDepth 20000 in
theorem gX6_move_X6_isRatio : GoodIn wsX6_move (va_wsS RX6 160 yX6_isRatio wsX6_isRatio) := goodIn_app (goodIn_of _ (by decide +kernel)) ggX6_move_X6_isRatio
theorem dX6_move_0 : decode cX6_move 0 = .ok (.aload_n 0, 1) := by decide +kernel
theorem dX6_move_1 : decode cX6_move 1 = .ok (.iload_n 1, 1) := by decide +kernel
theorem dX6_move_2 : decode cX6_move 2 = .ok (.invokevirtual 91, 3) := by decide +kernel
theorem dX6_move_5 : decode cX6_move 5 = .ok (.ifCond .eq 10, 3) := by decide +kernel
theorem dX6_move_8 : decode cX6_move 8 = .ok (.iload_n 2, 1) := by decide +kernel
theorem dX6_move_9 : decode cX6_move 9 = .ok (.invokestatic 160, 3) := by decide +kernel
theorem dX6_move_12 : decode cX6_move 12 = .ok (.ifCond .ne 5, 3) := by decide +kernel
theorem dX6_move_15 : decode cX6_move 15 = .ok (.iconst (-1), 1) := by decide +kernel
theorem dX6_move_16 : decode cX6_move 16 = .ok (.ireturn, 1) := by decide +kernel
theorem dX6_move_17 : decode cX6_move 17 = .ok (.aload_n 0, 1) := by decide +kernel
theorem dX6_move_18 : decode cX6_move 18 = .ok (.getfield 13, 3) := by decide +kernel
theorem dX6_move_21 : decode cX6_move 21 = .ok (.bipush 9, 2) := by decide +kernel
theorem dX6_move_23 : decode cX6_move 23 = .ok (.iload_n 1, 1) := by decide +kernel
theorem dX6_move_24 : decode cX6_move 24 = .ok (.imul, 1) := by decide +kernel
theorem dX6_move_25 : decode cX6_move 25 = .ok (.laload, 1) := by decide +kernel
theorem dX6_move_26 : decode cX6_move 26 = .ok (.l2i, 1) := by decide +kernel
theorem dX6_move_27 : decode cX6_move 27 = .ok (.istore_n 3, 1) := by decide +kernel
theorem dX6_move_28 : decode cX6_move 28 = .ok (.aload_n 0, 1) := by decide +kernel
theorem dX6_move_29 : decode cX6_move 29 = .ok (.getfield 13, 3) := by decide +kernel
theorem dX6_move_32 : decode cX6_move 32 = .ok (.bipush 9, 2) := by decide +kernel
theorem dX6_move_34 : decode cX6_move 34 = .ok (.iload_n 1, 1) := by decide +kernel
theorem dX6_move_35 : decode cX6_move 35 = .ok (.imul, 1) := by decide +kernel
theorem dX6_move_36 : decode cX6_move 36 = .ok (.iload_n 2, 1) := by decide +kernel
theorem dX6_move_37 : decode cX6_move 37 = .ok (.i2l, 1) := by decide +kernel
theorem dX6_move_38 : decode cX6_move 38 = .ok (.lastore, 1) := by decide +kernel
theorem dX6_move_39 : decode cX6_move 39 = .ok (.iload_n 3, 1) := by decide +kernel
theorem dX6_move_40 : decode cX6_move 40 = .ok (.ireturn, 1) := by decide +kernel
set_option maxRecDepth 20000 in
theorem ggX6_melted_X6_isRealm : GoodIn wsX6_melted wsX6_isRealm := goodIn_r _ [6, 7, 1, 8, 9, 5, 10, 19, 20, 21, 22, 23, 24, 25, 26, 27, 28, 29] (by decide +kernel) (by decide +kernel)
set_option maxRecDepth 20000 in
theorem gX6_melted_X6_isRealm : GoodIn wsX6_melted (wsV RX6 91 RX6 yX6_isRealm wsX6_isRealm) := goodIn_app (goodIn_of _ (by decide +kernel)) ggX6_melted_X6_isRealm
set_option maxRecDepth 20000 in
theorem ggX6_melted_X6_ratio : GoodIn wsX6_melted wsX6_ratio := goodIn_r _ [14, 15, 16, 17, 18, 19, 20, 21, 22, 23, 24, 25, 26, 27, 28, 29] (by decide +kernel) (by decide +kernel)
set_option maxRecDepth 20000 in
theorem gX6_melted_X6_ratio : GoodIn wsX6_melted (wsV RX6 111 RX6 yX6_ratio wsX6_ratio) := goodIn_app (goodIn_of _ (by decide +kernel)) ggX6_melted_X6_ratio
theorem dX6_melted_0 : decode cX6_melted 0 = .ok (.iconst 0, 1) := by decide +kernel
theorem dX6_melted_1 : decode cX6_melted 1 = .ok (.istore_n 1, 1) := by decide +kernel
theorem dX6_melted_2 : decode cX6_melted 2 = .ok (.iconst 0, 1) := by decide +kernel
theorem dX6_melted_3 : decode cX6_melted 3 = .ok (.istore_n 2, 1) := by decide +kernel
theorem dX6_melted_4 : decode cX6_melted 4 = .ok (.iload_n 2, 1) := by decide +kernel
theorem dX6_melted_5 : decode cX6_melted 5 = .ok (.bipush 8, 2) := by decide +kernel
theorem dX6_melted_7 : decode cX6_melted 7 = .ok (.if_icmp .ge 44, 3) := by decide +kernel
theorem dX6_melted_10 : decode cX6_melted 10 = .ok (.iload_n 1, 1) := by decide +kernel
theorem dX6_melted_11 : decode cX6_melted 11 = .ok (.aload_n 0, 1) := by decide +kernel
theorem dX6_melted_12 : decode cX6_melted 12 = .ok (.iload_n 2, 1) := by decide +kernel
theorem dX6_melted_13 : decode cX6_melted 13 = .ok (.invokevirtual 91, 3) := by decide +kernel
theorem dX6_melted_16 : decode cX6_melted 16 = .ok (.ifCond .eq 26, 3) := by decide +kernel
theorem dX6_melted_19 : decode cX6_melted 19 = .ok (.aload_n 0, 1) := by decide +kernel
theorem dX6_melted_20 : decode cX6_melted 20 = .ok (.invokevirtual 111, 3) := by decide +kernel
theorem dX6_melted_23 : decode cX6_melted 23 = .ok (.aload_n 0, 1) := by decide +kernel
theorem dX6_melted_24 : decode cX6_melted 24 = .ok (.getfield 13, 3) := by decide +kernel
theorem dX6_melted_27 : decode cX6_melted 27 = .ok (.bipush 9, 2) := by decide +kernel
theorem dX6_melted_29 : decode cX6_melted 29 = .ok (.iload_n 2, 1) := by decide +kernel
theorem dX6_melted_30 : decode cX6_melted 30 = .ok (.imul, 1) := by decide +kernel
theorem dX6_melted_31 : decode cX6_melted 31 = .ok (.laload, 1) := by decide +kernel
theorem dX6_melted_32 : decode cX6_melted 32 = .ok (.lcmp, 1) := by decide +kernel
theorem dX6_melted_33 : decode cX6_melted 33 = .ok (.ifCond .le 9, 3) := by decide +kernel
theorem dX6_melted_36 : decode cX6_melted 36 = .ok (.iconst 1, 1) := by decide +kernel
theorem dX6_melted_37 : decode cX6_melted 37 = .ok (.iload_n 2, 1) := by decide +kernel
theorem dX6_melted_38 : decode cX6_melted 38 = .ok (.ishl, 1) := by decide +kernel
theorem dX6_melted_39 : decode cX6_melted 39 = .ok (.goto 4, 3) := by decide +kernel
theorem dX6_melted_42 : decode cX6_melted 42 = .ok (.iconst 0, 1) := by decide +kernel
theorem dX6_melted_43 : decode cX6_melted 43 = .ok (.ior, 1) := by decide +kernel
theorem dX6_melted_44 : decode cX6_melted 44 = .ok (.istore_n 1, 1) := by decide +kernel
theorem dX6_melted_45 : decode cX6_melted 45 = .ok (.iinc 2 1, 3) := by decide +kernel
theorem dX6_melted_48 : decode cX6_melted 48 = .ok (.goto (-44), 3) := by decide +kernel
theorem dX6_melted_51 : decode cX6_melted 51 = .ok (.iload_n 1, 1) := by decide +kernel
theorem dX6_melted_52 : decode cX6_melted 52 = .ok (.ireturn, 1) := by decide +kernel
set_option maxRecDepth 20000 in
theorem ggX6_keep_X6_copy : GoodIn wsX6_keep wsX6_copy := goodIn_r _ [6, 7, 8, 9, 10, 11, 12, 13, 14, 15, 16, 17, 18, 19] (by decide +kernel) (by decide +kernel)
set_option maxRecDepth 20000 in
theorem gX6_keep_X6_copy : GoodIn wsX6_keep (wsV RX6 97 RX6 yX6_copy wsX6_copy) := goodIn_app (goodIn_of _ (by decide +kernel)) ggX6_keep_X6_copy
theorem dX6_keep_0 : decode cX6_keep 0 = .ok (.aload_n 0, 1) := by decide +kernel
theorem dX6_keep_1 : decode cX6_keep 1 = .ok (.getfield 100, 3) := by decide +kernel
theorem dX6_keep_4 : decode cX6_keep 4 = .ok (.iconst 2, 1) := by decide +kernel
theorem dX6_keep_5 : decode cX6_keep 5 = .ok (.if_icmp .ne 6, 3) := by decide +kernel
theorem dX6_keep_8 : decode cX6_keep 8 = .ok (.bipush (-3), 2) := by decide +kernel
theorem dX6_keep_10 : decode cX6_keep 10 = .ok (.ireturn, 1) := by decide +kernel
theorem dX6_keep_11 : decode cX6_keep 11 = .ok (.aload_n 0, 1) := by decide +kernel
theorem dX6_keep_12 : decode cX6_keep 12 = .ok (.iconst 0, 1) := by decide +kernel
theorem dX6_keep_13 : decode cX6_keep 13 = .ok (.iconst 1, 1) := by decide +kernel
theorem dX6_keep_14 : decode cX6_keep 14 = .ok (.aload_n 0, 1) := by decide +kernel
theorem dX6_keep_15 : decode cX6_keep 15 = .ok (.getfield 100, 3) := by decide +kernel
theorem dX6_keep_18 : decode cX6_keep 18 = .ok (.iadd, 1) := by decide +kernel
theorem dX6_keep_19 : decode cX6_keep 19 = .ok (.invokevirtual 97, 3) := by decide +kernel
theorem dX6_keep_22 : decode cX6_keep 22 = .ok (.aload_n 0, 1) := by decide +kernel
theorem dX6_keep_23 : decode cX6_keep 23 = .ok (.dup, 1) := by decide +kernel
theorem dX6_keep_24 : decode cX6_keep 24 = .ok (.getfield 100, 3) := by decide +kernel
theorem dX6_keep_27 : decode cX6_keep 27 = .ok (.iconst 1, 1) := by decide +kernel
theorem dX6_keep_28 : decode cX6_keep 28 = .ok (.iadd, 1) := by decide +kernel
theorem dX6_keep_29 : decode cX6_keep 29 = .ok (.putfield 100, 3) := by decide +kernel
theorem dX6_keep_32 : decode cX6_keep 32 = .ok (.aload_n 0, 1) := by decide +kernel
theorem dX6_keep_33 : decode cX6_keep 33 = .ok (.getfield 100, 3) := by decide +kernel
theorem dX6_keep_36 : decode cX6_keep 36 = .ok (.ireturn, 1) := by decide +kernel
set_option maxRecDepth 20000 in
theorem ggX6_back_X6_copy : GoodIn wsX6_back wsX6_copy := goodIn_r _ [6, 7, 8, 9, 10, 11, 12, 13, 14, 15, 16, 17, 18, 19] (by decide +kernel) (by decide +kernel)
set_option maxRecDepth 20000 in
theorem gX6_back_X6_copy : GoodIn wsX6_back (wsV RX6 97 RX6 yX6_copy wsX6_copy) := goodIn_app (goodIn_of _ (by decide +kernel)) ggX6_back_X6_copy
theorem dX6_back_0 : decode cX6_back 0 = .ok (.aload_n 0, 1) := by decide +kernel
theorem dX6_back_1 : decode cX6_back 1 = .ok (.getfield 100, 3) := by decide +kernel
theorem dX6_back_4 : decode cX6_back 4 = .ok (.ifCond .ne 6, 3) := by decide +kernel
theorem dX6_back_7 : decode cX6_back 7 = .ok (.bipush (-2), 2) := by decide +kernel
theorem dX6_back_9 : decode cX6_back 9 = .ok (.ireturn, 1) := by decide +kernel
theorem dX6_back_10 : decode cX6_back 10 = .ok (.aload_n 0, 1) := by decide +kernel
theorem dX6_back_11 : decode cX6_back 11 = .ok (.dup, 1) := by decide +kernel
theorem dX6_back_12 : decode cX6_back 12 = .ok (.getfield 100, 3) := by decide +kernel
theorem dX6_back_15 : decode cX6_back 15 = .ok (.iconst 1, 1) := by decide +kernel
theorem dX6_back_16 : decode cX6_back 16 = .ok (.isub, 1) := by decide +kernel
theorem dX6_back_17 : decode cX6_back 17 = .ok (.putfield 100, 3) := by decide +kernel
theorem dX6_back_20 : decode cX6_back 20 = .ok (.aload_n 0, 1) := by decide +kernel
theorem dX6_back_21 : decode cX6_back 21 = .ok (.iconst 1, 1) := by decide +kernel
theorem dX6_back_22 : decode cX6_back 22 = .ok (.aload_n 0, 1) := by decide +kernel
theorem dX6_back_23 : decode cX6_back 23 = .ok (.getfield 100, 3) := by decide +kernel
theorem dX6_back_26 : decode cX6_back 26 = .ok (.iadd, 1) := by decide +kernel
theorem dX6_back_27 : decode cX6_back 27 = .ok (.iconst 0, 1) := by decide +kernel
theorem dX6_back_28 : decode cX6_back 28 = .ok (.invokevirtual 97, 3) := by decide +kernel
theorem dX6_back_31 : decode cX6_back 31 = .ok (.aload_n 0, 1) := by decide +kernel
theorem dX6_back_32 : decode cX6_back 32 = .ok (.getfield 100, 3) := by decide +kernel
theorem dX6_back_35 : decode cX6_back 35 = .ok (.ireturn, 1) := by decide +kernel
set_option maxRecDepth 20000 in
theorem ggX6_count_X6_realmMany : GoodIn wsX6_count wsX6_realmMany := goodIn_r _ [9, 10, 11, 12, 8, 13, 14, 3, 15, 16, 17, 18, 19, 20, 21, 22, 23, 24, 25, 26, 27, 28, 29, 30, 31, 32] (by decide +kernel) (by decide +kernel)
set_option maxRecDepth 20000 in
theorem gX6_count_X6_realmMany : GoodIn wsX6_count (wsV RX6 103 RX6 yX6_realmMany wsX6_realmMany) := goodIn_app (goodIn_of _ (by decide +kernel)) ggX6_count_X6_realmMany
theorem dX6_count_0 : decode cX6_count 0 = .ok (.aload_n 0, 1) := by decide +kernel
theorem dX6_count_1 : decode cX6_count 1 = .ok (.getfield 17, 3) := by decide +kernel
theorem dX6_count_4 : decode cX6_count 4 = .ok (.iconst 0, 1) := by decide +kernel
theorem dX6_count_5 : decode cX6_count 5 = .ok (.laload, 1) := by decide +kernel
theorem dX6_count_6 : decode cX6_count 6 = .ok (.lstore_n 2, 1) := by decide +kernel
theorem dX6_count_7 : decode cX6_count 7 = .ok (.iload_n 1, 1) := by decide +kernel
theorem dX6_count_8 : decode cX6_count 8 = .ok (.tableswitch 92 0 4 #[36, 42, 47, 53, 87], 36) := by decide +kernel
theorem dX6_count_44 : decode cX6_count 44 = .ok (.aload_n 0, 1) := by decide +kernel
theorem dX6_count_45 : decode cX6_count 45 = .ok (.iconst 0, 1) := by decide +kernel
theorem dX6_count_46 : decode cX6_count 46 = .ok (.invokevirtual 103, 3) := by decide +kernel
theorem dX6_count_49 : decode cX6_count 49 = .ok (.ireturn, 1) := by decide +kernel
theorem dX6_count_50 : decode cX6_count 50 = .ok (.aload_n 0, 1) := by decide +kernel
theorem dX6_count_51 : decode cX6_count 51 = .ok (.getfield 47, 3) := by decide +kernel
theorem dX6_count_54 : decode cX6_count 54 = .ok (.ireturn, 1) := by decide +kernel
theorem dX6_count_55 : decode cX6_count 55 = .ok (.aload_n 0, 1) := by decide +kernel
theorem dX6_count_56 : decode cX6_count 56 = .ok (.iconst 1, 1) := by decide +kernel
theorem dX6_count_57 : decode cX6_count 57 = .ok (.invokevirtual 103, 3) := by decide +kernel
theorem dX6_count_60 : decode cX6_count 60 = .ok (.ireturn, 1) := by decide +kernel
theorem dX6_count_61 : decode cX6_count 61 = .ok (.iconst 0, 1) := by decide +kernel
theorem dX6_count_62 : decode cX6_count 62 = .ok (.istore 4, 2) := by decide +kernel
theorem dX6_count_64 : decode cX6_count 64 = .ok (.iload 4, 2) := by decide +kernel
theorem dX6_count_66 : decode cX6_count 66 = .ok (.bipush 8, 2) := by decide +kernel
theorem dX6_count_68 : decode cX6_count 68 = .ok (.if_icmp .ge 24, 3) := by decide +kernel
theorem dX6_count_71 : decode cX6_count 71 = .ok (.lload_n 2, 1) := by decide +kernel
theorem dX6_count_72 : decode cX6_count 72 = .ok (.aload_n 0, 1) := by decide +kernel
theorem dX6_count_73 : decode cX6_count 73 = .ok (.getfield 13, 3) := by decide +kernel
theorem dX6_count_76 : decode cX6_count 76 = .ok (.bipush 9, 2) := by decide +kernel
theorem dX6_count_78 : decode cX6_count 78 = .ok (.iload 4, 2) := by decide +kernel
theorem dX6_count_80 : decode cX6_count 80 = .ok (.imul, 1) := by decide +kernel
theorem dX6_count_81 : decode cX6_count 81 = .ok (.iconst 3, 1) := by decide +kernel
theorem dX6_count_82 : decode cX6_count 82 = .ok (.iadd, 1) := by decide +kernel
theorem dX6_count_83 : decode cX6_count 83 = .ok (.laload, 1) := by decide +kernel
theorem dX6_count_84 : decode cX6_count 84 = .ok (.ladd, 1) := by decide +kernel
theorem dX6_count_85 : decode cX6_count 85 = .ok (.lstore_n 2, 1) := by decide +kernel
theorem dX6_count_86 : decode cX6_count 86 = .ok (.iinc 4 1, 3) := by decide +kernel
theorem dX6_count_89 : decode cX6_count 89 = .ok (.goto (-25), 3) := by decide +kernel
theorem dX6_count_92 : decode cX6_count 92 = .ok (.lload_n 2, 1) := by decide +kernel
theorem dX6_count_93 : decode cX6_count 93 = .ok (.l2i, 1) := by decide +kernel
theorem dX6_count_94 : decode cX6_count 94 = .ok (.ireturn, 1) := by decide +kernel
theorem dX6_count_95 : decode cX6_count 95 = .ok (.aload_n 0, 1) := by decide +kernel
theorem dX6_count_96 : decode cX6_count 96 = .ok (.getfield 100, 3) := by decide +kernel
theorem dX6_count_99 : decode cX6_count 99 = .ok (.ireturn, 1) := by decide +kernel
theorem dX6_count_100 : decode cX6_count 100 = .ok (.iconst (-1), 1) := by decide +kernel
theorem dX6_count_101 : decode cX6_count 101 = .ok (.ireturn, 1) := by decide +kernel
theorem dJ6_bitCount_0f7a4_0 : decode cJ6_bitCount_0f7a4 0 = .ok (.iload_n 0, 1) := by decide +kernel
theorem dJ6_bitCount_0f7a4_1 : decode cJ6_bitCount_0f7a4 1 = .ok (.iload_n 0, 1) := by decide +kernel
theorem dJ6_bitCount_0f7a4_2 : decode cJ6_bitCount_0f7a4 2 = .ok (.iconst 1, 1) := by decide +kernel
theorem dJ6_bitCount_0f7a4_3 : decode cJ6_bitCount_0f7a4 3 = .ok (.iushr, 1) := by decide +kernel
theorem dJ6_bitCount_0f7a4_4 : decode cJ6_bitCount_0f7a4 4 = .ok (.ldc_w 265, 3) := by decide +kernel
theorem dJ6_bitCount_0f7a4_7 : decode cJ6_bitCount_0f7a4 7 = .ok (.iand, 1) := by decide +kernel
theorem dJ6_bitCount_0f7a4_8 : decode cJ6_bitCount_0f7a4 8 = .ok (.isub, 1) := by decide +kernel
theorem dJ6_bitCount_0f7a4_9 : decode cJ6_bitCount_0f7a4 9 = .ok (.istore_n 0, 1) := by decide +kernel
theorem dJ6_bitCount_0f7a4_10 : decode cJ6_bitCount_0f7a4 10 = .ok (.iload_n 0, 1) := by decide +kernel
theorem dJ6_bitCount_0f7a4_11 : decode cJ6_bitCount_0f7a4 11 = .ok (.ldc_w 266, 3) := by decide +kernel
theorem dJ6_bitCount_0f7a4_14 : decode cJ6_bitCount_0f7a4 14 = .ok (.iand, 1) := by decide +kernel
theorem dJ6_bitCount_0f7a4_15 : decode cJ6_bitCount_0f7a4 15 = .ok (.iload_n 0, 1) := by decide +kernel
theorem dJ6_bitCount_0f7a4_16 : decode cJ6_bitCount_0f7a4 16 = .ok (.iconst 2, 1) := by decide +kernel
theorem dJ6_bitCount_0f7a4_17 : decode cJ6_bitCount_0f7a4 17 = .ok (.iushr, 1) := by decide +kernel
theorem dJ6_bitCount_0f7a4_18 : decode cJ6_bitCount_0f7a4 18 = .ok (.ldc_w 266, 3) := by decide +kernel
theorem dJ6_bitCount_0f7a4_21 : decode cJ6_bitCount_0f7a4 21 = .ok (.iand, 1) := by decide +kernel
theorem dJ6_bitCount_0f7a4_22 : decode cJ6_bitCount_0f7a4 22 = .ok (.iadd, 1) := by decide +kernel
theorem dJ6_bitCount_0f7a4_23 : decode cJ6_bitCount_0f7a4 23 = .ok (.istore_n 0, 1) := by decide +kernel
theorem dJ6_bitCount_0f7a4_24 : decode cJ6_bitCount_0f7a4 24 = .ok (.iload_n 0, 1) := by decide +kernel
theorem dJ6_bitCount_0f7a4_25 : decode cJ6_bitCount_0f7a4 25 = .ok (.iload_n 0, 1) := by decide +kernel
theorem dJ6_bitCount_0f7a4_26 : decode cJ6_bitCount_0f7a4 26 = .ok (.iconst 4, 1) := by decide +kernel
theorem dJ6_bitCount_0f7a4_27 : decode cJ6_bitCount_0f7a4 27 = .ok (.iushr, 1) := by decide +kernel
theorem dJ6_bitCount_0f7a4_28 : decode cJ6_bitCount_0f7a4 28 = .ok (.iadd, 1) := by decide +kernel
theorem dJ6_bitCount_0f7a4_29 : decode cJ6_bitCount_0f7a4 29 = .ok (.ldc_w 267, 3) := by decide +kernel
theorem dJ6_bitCount_0f7a4_32 : decode cJ6_bitCount_0f7a4 32 = .ok (.iand, 1) := by decide +kernel
theorem dJ6_bitCount_0f7a4_33 : decode cJ6_bitCount_0f7a4 33 = .ok (.istore_n 0, 1) := by decide +kernel
theorem dJ6_bitCount_0f7a4_34 : decode cJ6_bitCount_0f7a4 34 = .ok (.iload_n 0, 1) := by decide +kernel
theorem dJ6_bitCount_0f7a4_35 : decode cJ6_bitCount_0f7a4 35 = .ok (.iload_n 0, 1) := by decide +kernel
theorem dJ6_bitCount_0f7a4_36 : decode cJ6_bitCount_0f7a4 36 = .ok (.bipush 8, 2) := by decide +kernel
theorem dJ6_bitCount_0f7a4_38 : decode cJ6_bitCount_0f7a4 38 = .ok (.iushr, 1) := by decide +kernel
theorem dJ6_bitCount_0f7a4_39 : decode cJ6_bitCount_0f7a4 39 = .ok (.iadd, 1) := by decide +kernel
theorem dJ6_bitCount_0f7a4_40 : decode cJ6_bitCount_0f7a4 40 = .ok (.istore_n 0, 1) := by decide +kernel
theorem dJ6_bitCount_0f7a4_41 : decode cJ6_bitCount_0f7a4 41 = .ok (.iload_n 0, 1) := by decide +kernel
theorem dJ6_bitCount_0f7a4_42 : decode cJ6_bitCount_0f7a4 42 = .ok (.iload_n 0, 1) := by decide +kernel
theorem dJ6_bitCount_0f7a4_43 : decode cJ6_bitCount_0f7a4 43 = .ok (.bipush 16, 2) := by decide +kernel
theorem dJ6_bitCount_0f7a4_45 : decode cJ6_bitCount_0f7a4 45 = .ok (.iushr, 1) := by decide +kernel
theorem dJ6_bitCount_0f7a4_46 : decode cJ6_bitCount_0f7a4 46 = .ok (.iadd, 1) := by decide +kernel
theorem dJ6_bitCount_0f7a4_47 : decode cJ6_bitCount_0f7a4 47 = .ok (.istore_n 0, 1) := by decide +kernel
theorem dJ6_bitCount_0f7a4_48 : decode cJ6_bitCount_0f7a4 48 = .ok (.iload_n 0, 1) := by decide +kernel
theorem dJ6_bitCount_0f7a4_49 : decode cJ6_bitCount_0f7a4 49 = .ok (.bipush 63, 2) := by decide +kernel
theorem dJ6_bitCount_0f7a4_51 : decode cJ6_bitCount_0f7a4 51 = .ok (.iand, 1) := by decide +kernel
theorem dJ6_bitCount_0f7a4_52 : decode cJ6_bitCount_0f7a4 52 = .ok (.ireturn, 1) := by decide +kernel
theorem dJ9_max_7cf53_0 : decode cJ9_max_7cf53 0 = .ok (.iload_n 0, 1) := by decide +kernel
theorem dJ9_max_7cf53_1 : decode cJ9_max_7cf53 1 = .ok (.iload_n 1, 1) := by decide +kernel
theorem dJ9_max_7cf53_2 : decode cJ9_max_7cf53 2 = .ok (.if_icmp .lt 7, 3) := by decide +kernel
theorem dJ9_max_7cf53_5 : decode cJ9_max_7cf53 5 = .ok (.iload_n 0, 1) := by decide +kernel
theorem dJ9_max_7cf53_6 : decode cJ9_max_7cf53 6 = .ok (.goto 4, 3) := by decide +kernel
theorem dJ9_max_7cf53_9 : decode cJ9_max_7cf53 9 = .ok (.iload_n 1, 1) := by decide +kernel
theorem dJ9_max_7cf53_10 : decode cJ9_max_7cf53 10 = .ok (.ireturn, 1) := by decide +kernel
theorem dJ9_min_7cf53_0 : decode cJ9_min_7cf53 0 = .ok (.iload_n 0, 1) := by decide +kernel
theorem dJ9_min_7cf53_1 : decode cJ9_min_7cf53 1 = .ok (.iload_n 1, 1) := by decide +kernel
theorem dJ9_min_7cf53_2 : decode cJ9_min_7cf53 2 = .ok (.if_icmp .gt 7, 3) := by decide +kernel
theorem dJ9_min_7cf53_5 : decode cJ9_min_7cf53 5 = .ok (.iload_n 0, 1) := by decide +kernel
theorem dJ9_min_7cf53_6 : decode cJ9_min_7cf53 6 = .ok (.goto 4, 3) := by decide +kernel
theorem dJ9_min_7cf53_9 : decode cJ9_min_7cf53 9 = .ok (.iload_n 1, 1) := by decide +kernel
theorem dJ9_min_7cf53_10 : decode cJ9_min_7cf53 10 = .ok (.ireturn, 1) := by decide +kernel
theorem dJ9_min_f86c9_0 : decode cJ9_min_f86c9 0 = .ok (.lload_n 0, 1) := by decide +kernel
theorem dJ9_min_f86c9_1 : decode cJ9_min_f86c9 1 = .ok (.lload_n 2, 1) := by decide +kernel
theorem dJ9_min_f86c9_2 : decode cJ9_min_f86c9 2 = .ok (.lcmp, 1) := by decide +kernel
theorem dJ9_min_f86c9_3 : decode cJ9_min_f86c9 3 = .ok (.ifCond .gt 7, 3) := by decide +kernel
theorem dJ9_min_f86c9_6 : decode cJ9_min_f86c9 6 = .ok (.lload_n 0, 1) := by decide +kernel
theorem dJ9_min_f86c9_7 : decode cJ9_min_f86c9 7 = .ok (.goto 4, 3) := by decide +kernel
theorem dJ9_min_f86c9_10 : decode cJ9_min_f86c9 10 = .ok (.lload_n 2, 1) := by decide +kernel
theorem dJ9_min_f86c9_11 : decode cJ9_min_f86c9 11 = .ok (.lreturn, 1) := by decide +kernel
theorem dJ7_fill_53178_0 : decode cJ7_fill_53178 0 = .ok (.iconst 0, 1) := by decide +kernel
theorem dJ7_fill_53178_1 : decode cJ7_fill_53178 1 = .ok (.istore_n 2, 1) := by decide +kernel
theorem dJ7_fill_53178_2 : decode cJ7_fill_53178 2 = .ok (.aload_n 0, 1) := by decide +kernel
theorem dJ7_fill_53178_3 : decode cJ7_fill_53178 3 = .ok (.arraylength, 1) := by decide +kernel
theorem dJ7_fill_53178_4 : decode cJ7_fill_53178 4 = .ok (.istore_n 3, 1) := by decide +kernel
theorem dJ7_fill_53178_5 : decode cJ7_fill_53178 5 = .ok (.iload_n 2, 1) := by decide +kernel
theorem dJ7_fill_53178_6 : decode cJ7_fill_53178 6 = .ok (.iload_n 3, 1) := by decide +kernel
theorem dJ7_fill_53178_7 : decode cJ7_fill_53178 7 = .ok (.if_icmp .ge 13, 3) := by decide +kernel
theorem dJ7_fill_53178_10 : decode cJ7_fill_53178 10 = .ok (.aload_n 0, 1) := by decide +kernel
theorem dJ7_fill_53178_11 : decode cJ7_fill_53178 11 = .ok (.iload_n 2, 1) := by decide +kernel
theorem dJ7_fill_53178_12 : decode cJ7_fill_53178 12 = .ok (.iload_n 1, 1) := by decide +kernel
theorem dJ7_fill_53178_13 : decode cJ7_fill_53178 13 = .ok (.iastore, 1) := by decide +kernel
theorem dJ7_fill_53178_14 : decode cJ7_fill_53178 14 = .ok (.iinc 2 1, 3) := by decide +kernel
theorem dJ7_fill_53178_17 : decode cJ7_fill_53178 17 = .ok (.goto (-12), 3) := by decide +kernel
theorem dJ7_fill_53178_20 : decode cJ7_fill_53178 20 = .ok (.return_, 1) := by decide +kernel
end
section
/-- what an object holds: its int fields and arrays, its long ones, by the field's number and the place -/
abbrev ob_T : Type := (Nat → Nat → Int32) × (Nat → Nat → Int64)
def ob_I (w : ob_T) (f : Nat) (g : Nat → Int32) : ob_T := (fun k => if k = f then g else w.1 k, w.2)
def ob_L (w : ob_T) (f : Nat) (g : Nat → Int64) : ob_T := (w.1, fun k => if k = f then g else w.2 k)
abbrev tyL (cy : Nat → ClassId) : List (ClassId × FieldType) := [(cy 0, .int), (cy 1, .long), (cy 2, .byte), (cy 3, .object RX4)]
/-- Mines -/
def o_X0 (cy : Nat → ClassId) (h : Nat) (a : Nat → Nat) (w : ob_T) : va_W := [(h, .inr (0, [.ref (a 0), .ref (a 1), .ref (a 2)])), (a 0, .inl (cy 0, 100, .inl (w.1 0))), (a 1, .inl (cy 0, 100, .inl (w.1 1))), (a 2, .inl (cy 0, 100, .inl (w.1 2)))]
/-- Mover -/
def o_X1 (cy : Nat → ClassId) (h : Nat) (a : Nat → Nat) (w : ob_T) : va_W := [(h, .inr (1, [.ref (a 0), .ref (a 1)])), (a 0, .inl (cy 0, 8, .inl (w.1 0))), (a 1, .inl (cy 1, 8, .inr (.inl (w.2 1))))]
/-- Reader -/
def o_X2 (cy : Nat → ClassId) (h : Nat) (a : Nat → Nat) (w : ob_T) : va_W := [(h, .inr (2, [.ref (a 0), .ref (a 1), .ref (a 2), .int (w.1 3 0)])), (a 2, .inl (cy 0, 7, .inl (w.1 2)))]
/-- Text -/
def o_X3 (cy : Nat → ClassId) (h : Nat) (a : Nat → Nat) (w : ob_T) : va_W := [(h, .inr (3, [.ref (a 0), .int (w.1 1 0)])), (a 0, .inl (cy 2, 400, .inl (w.1 0)))]
/-- World -/
def o_X4 (cy : Nat → ClassId) (h : Nat) (a : Nat → Nat) (w : ob_T) : va_W := [(h, .inr (4, [.ref (a 0), .ref (a 1), .ref (a 2), .ref (a 3), .ref (a 4), .ref (a 5), .ref (a 6), .ref (a 7), .ref (a 8), .int (w.1 9 0), .int (w.1 10 0), .int (w.1 11 0), .long (w.2 12 0), .long (w.2 13 0), .int (w.1 14 0), .int (w.1 15 0), .int (w.1 16 0)])), (a 0, .inl (cy 0, 8, .inl (w.1 0))), (a 1, .inl (cy 0, 8, .inl (w.1 1))), (a 2, .inl (cy 0, 8, .inl (w.1 2))), (a 3, .inl (cy 0, 8, .inl (w.1 3))), (a 4, .inl (cy 0, 8, .inl (w.1 4))), (a 5, .inl (cy 0, 8, .inl (w.1 5))), (a 6, .inl (cy 0, 8, .inl (w.1 6))), (a 7, .inl (cy 1, 8, .inr (.inl (w.2 7)))), (a 8, .inl (cy 1, 8, .inr (.inl (w.2 8))))]
/-- TwoMetals -/
def o_X5 (cy : Nat → ClassId) (h : Nat) (a : Nat → Nat) (w : ob_T) : va_W := [(h, .inr (5, [.ref (a 0), .ref (a 1), .ref (a 2), .ref (a 3), .ref (a 4), .ref (a 5), .ref (a 6), .int (w.1 7 0)])), (a 6, .inl (cy 3, 2, .inr (.inr (.inr (.inr (fun j => some (a (10 + j))))))))]
/-- TwoMetalsModel -/
def o_X6 (cy : Nat → ClassId) (h : Nat) (a : Nat → Nat) (w : ob_T) : va_W := [(h, .inr (6, [.int (w.1 0 0), .ref (a 1), .ref (a 2), .ref (a 3), .ref (a 4), .ref (a 5), .ref (a 6), .int (w.1 7 0), .int (w.1 8 0), .ref (a 9), .ref (a 10)])), (a 1, .inl (cy 0, 400, .inl (w.1 1))), (a 2, .inl (cy 1, 360, .inr (.inl (w.2 2)))), (a 3, .inl (cy 1, 15, .inr (.inl (w.2 3)))), (a 4, .inl (cy 0, 2, .inl (w.1 4))), (a 5, .inl (cy 0, 2, .inl (w.1 5))), (a 6, .inl (cy 0, 360, .inl (w.1 6))), (a 9, .inl (cy 0, 7, .inl (w.1 9))), (a 10, .inl (cy 0, 8, .inl (w.1 10)))]
/-- an array of ints by itself -/
def o_X7 (cy : Nat → ClassId) (n : Nat) (h : Nat) (w : ob_T) : va_W := [(h, .inl (cy 0, n, .inl (w.1 0)))]
/-- a number or a state gets a name -/
def bnd {α β : Type} (v : α) (f : α → Option β) : Option β := f v
theorem bn_at {α β : Type} {v x : α} {f : α → Option β} {R : β} (e : x = v) (h : bnd v f = some R) : f x = some R := by subst e; exact h
theorem bn_ob {α β : Type} {v : α} {f : α → Option β} {R : β} {P : α → Prop} (h : bnd v f = some R) (hP : P v) : ∃ x, P x ∧ f x = some R := ⟨v, hP, h⟩
theorem bn_call {α β : Type} {x : Option α} {f : α → Option β} {R : β} (h : Option.bind x f = some R) : ∃ r, x = some r ∧ f r = some R := Option.bind_eq_some_iff.mp h
theorem ck_in {i : Int32} {n : Nat} {β : Type} {x : Option β} {R : β} (h : (if (i < 0 ∨ n ≤ i.toNatClampNeg) then none else x) = some R) : vp_in i n ∧ x = some R := by
  by_cases c : (i < 0 ∨ n ≤ i.toNatClampNeg)
  · rw [if_pos c] at h; cases h
  · rw [if_neg c] at h; exact ⟨c, h⟩
theorem ck_dv {y : Int64} {β : Type} {x : Option β} {R : β} (h : (if y = 0 then none else x) = some R) : ¬ y = 0 ∧ x = some R := by
  by_cases c : y = 0
  · rw [if_pos c] at h; cases h
  · rw [if_neg c] at h; exact ⟨c, h⟩
theorem ck_dvi {y : Int32} {β : Type} {x : Option β} {R : β} (h : (if y = 0 then none else x) = some R) : ¬ y = 0 ∧ x = some R := by
  by_cases c : y = 0
  · rw [if_pos c] at h; cases h
  · rw [if_neg c] at h; exact ⟨c, h⟩
theorem ck_zb {v : Int32} {β : Type} {x : Option β} {R : β} (h : (if v &&& 1 = v then x else none) = some R) : narrow .boolean (.int v) = .int v ∧ x = some R := by
  by_cases c : v &&& 1 = v
  · rw [if_pos c] at h; exact ⟨by simp [narrow, c], h⟩
  · rw [if_neg c] at h; cases h
theorem va_D_adr {A : Nat → Prop} {ws ws' : va_W} (hD : va_D A ws) (h : ws'.map Prod.fst = ws.map Prod.fst) : va_D A ws' := by
  have at' : ∀ (i : Nat) (p : Nat × va_E), ws'[i]? = some p → ∃ p0 : Nat × va_E, ws[i]? = some p0 ∧ p0.1 = p.1 := by
    intro i p hp
    have h1 : (ws'.map Prod.fst)[i]? = some p.1 := by rw [List.getElem?_map, hp]; rfl
    rw [h, List.getElem?_map] at h1
    cases hq : ws[i]? with
    | none => rw [hq] at h1; cases h1
    | some q => rw [hq] at h1; exact ⟨q, rfl, Option.some.inj h1⟩
  refine ⟨fun i j p q hp hq e => ?_, fun k q hq => ?_⟩
  · obtain ⟨p0, g1, g2⟩ := at' i p hp
    obtain ⟨q0, g3, g4⟩ := at' j q hq
    exact hD.1 i j p0 q0 g1 g3 (by rw [g2, g4]; exact e)
  · obtain ⟨q0, g3, g4⟩ := at' k q hq
    rw [← g4]
    exact hD.2 k q0 g3
abbrev rmN (F Lc : Nat) : Room := { frames := F, cells := 0, slots := 0, locals := Lc }
def cPre (dC : Nat → ClassId) (dI : Nat → Nat → Nat) (cy : Nat → ClassId) (ws : va_W) (sz : Nat) (U : State) : Prop := U.heap.size = sz ∧ va_P (dC, dI) vwCl ws U.heap ∧ va_K (dC, dI) vwCl (tyL cy) U ∧ va_D (fun _ => True) ws
def cPost (dC : Nat → ClassId) (dI : Nat → Nat → Nat) (cy : Nat → ClassId) (ws0 ws1 : va_W) (sz : Nat) (t : State) : Prop := va_P (dC, dI) vwCl ws1 t.heap ∧ va_K (dC, dI) vwCl (tyL cy) t ∧ va_D (va_A ws0 sz) ws1
theorem cPre_blind {dC : Nat → ClassId} {dI : Nat → Nat → Nat} {cy : Nat → ClassId} {av : List Value} {ws : va_W} {sz : Nat} : FrameBlind (va_Pc av (cPre dC dI cy ws sz)) := by
  intro a U g mk q
  obtain ⟨q0, q1, qP, qK, qD⟩ := q
  exact ⟨q0, q1, qP, va_K.moved (u := U) (U := U.calling g mk a) (Vm.Alike.refl U.vm) qK, qD⟩
section MT
variable {l : Launch} {dC : Nat → ClassId} {dI : Nat → Nat → Nat} {cy : Nat → ClassId} {y : MethodName} {ws ws' : List Cond} {F Lc : Nat} {cc : ByteArray} {maxL : Nat} {av : List Value} {ws0 ws1 : va_W} {sz : Nat}
theorem mt_i {R0 : Int32} (hy : plainName y.cls = true) (hw : ws = Cond.code y cc maxL (some .int) :: ws') (hlen : (lg_sl av).length ≤ maxL) (hadr : ws1.map Prod.fst = ws0.map Prod.fst)
    (body : ∀ (p : Program) (e : Env) (s : State) (m : MethodId) (below : List Frame) (meth : Method) (c : Code) (Q : State → Prop) (A : Nat → Prop), p.tables.exec = Jvm.exec → c.code = cc → c.maxLocals = maxL → s.vm.findClass y.cls = some m.cls → (∀ w ∈ ws, w.before av.toArray s = true) → va_K (dC, dI) vwCl (tyL cy) s → (∀ q : Nat, s.heap.size ≤ q → A q) → va_D A ws0 → va_P (dC, dI) vwCl ws0 s.heap →
      (∀ (pc : Nat) (ls : Array Slot) (H : Heap) (locs : List Loc), decode cc pc = .ok (.ireturn, 1) → va_P (dC, dI) vwCl ws1 H → va_S A s.heap H locs → W p l e (rmN F Lc) s m av.toArray below meth c H locs 0 0 Q (F0 m pc ls [.int R0])) →
      ∀ (ls : Array Slot), lv_has ls maxL (lv_args 0 av) → W p l e (rmN F Lc) s m av.toArray below meth c s.heap [] 0 0 Q (F0 m 0 ls [])) :
    Met l y ws (rmN F Lc) (va_Pc av (cPre dC dI cy ws0 sz)) (va_Qi (fun (r : Int32) (_ : Unit) => r = R0) (fun _ => cPost dC dI cy ws0 ws1 sz) (va_A ws0 sz)) 0 0 (va_A ws0 sz) := by
  refine Met.ofW (cc := cc) (maxL := maxL) (ret := some .int) hy hw ?_
  intro p e s m args below meth c s₁ B hml hv
  obtain ⟨rfl, hsz, hP, hK, hD0⟩ := hv
  have hts := atoms_spec (ws := ws) B.pre
  have hown : s.vm.findClass y.cls = some m.cls := findClass_of_methodNamed B.named
  subst hsz
  have hD := hD0.self (sz := s.heap.size)
  have hl := lv_entry av (n := maxL) hlen
  rw [lg_entry_eq]
  refine body p e s m below meth c _ (va_A ws0 s.heap.size) B.exec B.bytes hml hown hts hK (fun q h => Or.inr h) hD hP ?_ _ hl
  intro pc ls H locs hdg hP1 hS
  exact W.iret B.exec B.bytes B.returns (fun t ht hW => ⟨⟨R0, (), rfl, rfl, by rw [ht]; exact hP1, va_K.moved hW.alike hK, va_D_adr hD hadr⟩, hS.F ht⟩) hS.2.2 hdg B.notSynchronized
theorem mt_z {R0 : Int32} (hy : plainName y.cls = true) (hw : ws = Cond.code y cc maxL (some .boolean) :: ws') (hlen : (lg_sl av).length ≤ maxL) (hadr : ws1.map Prod.fst = ws0.map Prod.fst)
    (body : ∀ (p : Program) (e : Env) (s : State) (m : MethodId) (below : List Frame) (meth : Method) (c : Code) (Q : State → Prop) (A : Nat → Prop), p.tables.exec = Jvm.exec → c.code = cc → c.maxLocals = maxL → s.vm.findClass y.cls = some m.cls → (∀ w ∈ ws, w.before av.toArray s = true) → va_K (dC, dI) vwCl (tyL cy) s → (∀ q : Nat, s.heap.size ≤ q → A q) → va_D A ws0 → va_P (dC, dI) vwCl ws0 s.heap →
      (∀ (pc : Nat) (ls : Array Slot) (H : Heap) (locs : List Loc), decode cc pc = .ok (.ireturn, 1) → narrow .boolean (.int R0) = .int R0 → va_P (dC, dI) vwCl ws1 H → va_S A s.heap H locs → W p l e (rmN F Lc) s m av.toArray below meth c H locs 0 0 Q (F0 m pc ls [.int R0])) →
      ∀ (ls : Array Slot), lv_has ls maxL (lv_args 0 av) → W p l e (rmN F Lc) s m av.toArray below meth c s.heap [] 0 0 Q (F0 m 0 ls [])) :
    Met l y ws (rmN F Lc) (va_Pc av (cPre dC dI cy ws0 sz)) (va_Qi (fun (r : Int32) (_ : Unit) => r = R0) (fun _ => cPost dC dI cy ws0 ws1 sz) (va_A ws0 sz)) 0 0 (va_A ws0 sz) := by
  refine Met.ofW (cc := cc) (maxL := maxL) (ret := some .boolean) hy hw ?_
  intro p e s m args below meth c s₁ B hml hv
  obtain ⟨rfl, hsz, hP, hK, hD0⟩ := hv
  have hts := atoms_spec (ws := ws) B.pre
  have hown : s.vm.findClass y.cls = some m.cls := findClass_of_methodNamed B.named
  subst hsz
  have hD := hD0.self (sz := s.heap.size)
  have hl := lv_entry av (n := maxL) hlen
  rw [lg_entry_eq]
  refine body p e s m below meth c _ (va_A ws0 s.heap.size) B.exec B.bytes hml hown hts hK (fun q h => Or.inr h) hD hP ?_ _ hl
  intro pc ls H locs hdg hnar hP1 hS
  exact W.zret B.exec B.bytes B.returns hnar (fun t ht hW => ⟨⟨R0, (), rfl, rfl, by rw [ht]; exact hP1, va_K.moved hW.alike hK, va_D_adr hD hadr⟩, hS.F ht⟩) hS.2.2 hdg B.notSynchronized
theorem mt_l {R0 : Int64} (hy : plainName y.cls = true) (hw : ws = Cond.code y cc maxL (some .long) :: ws') (hlen : (lg_sl av).length ≤ maxL) (hadr : ws1.map Prod.fst = ws0.map Prod.fst)
    (body : ∀ (p : Program) (e : Env) (s : State) (m : MethodId) (below : List Frame) (meth : Method) (c : Code) (Q : State → Prop) (A : Nat → Prop), p.tables.exec = Jvm.exec → c.code = cc → c.maxLocals = maxL → s.vm.findClass y.cls = some m.cls → (∀ w ∈ ws, w.before av.toArray s = true) → va_K (dC, dI) vwCl (tyL cy) s → (∀ q : Nat, s.heap.size ≤ q → A q) → va_D A ws0 → va_P (dC, dI) vwCl ws0 s.heap →
      (∀ (pc : Nat) (ls : Array Slot) (H : Heap) (locs : List Loc), decode cc pc = .ok (.lreturn, 1) → va_P (dC, dI) vwCl ws1 H → va_S A s.heap H locs → W p l e (rmN F Lc) s m av.toArray below meth c H locs 0 0 Q (F0 m pc ls [.long R0])) →
      ∀ (ls : Array Slot), lv_has ls maxL (lv_args 0 av) → W p l e (rmN F Lc) s m av.toArray below meth c s.heap [] 0 0 Q (F0 m 0 ls [])) :
    Met l y ws (rmN F Lc) (va_Pc av (cPre dC dI cy ws0 sz)) (va_Ql (fun (r : Int64) (_ : Unit) => r = R0) (fun _ => cPost dC dI cy ws0 ws1 sz) (va_A ws0 sz)) 0 0 (va_A ws0 sz) := by
  refine Met.ofW (cc := cc) (maxL := maxL) (ret := some .long) hy hw ?_
  intro p e s m args below meth c s₁ B hml hv
  obtain ⟨rfl, hsz, hP, hK, hD0⟩ := hv
  have hts := atoms_spec (ws := ws) B.pre
  have hown : s.vm.findClass y.cls = some m.cls := findClass_of_methodNamed B.named
  subst hsz
  have hD := hD0.self (sz := s.heap.size)
  have hl := lv_entry av (n := maxL) hlen
  rw [lg_entry_eq]
  refine body p e s m below meth c _ (va_A ws0 s.heap.size) B.exec B.bytes hml hown hts hK (fun q h => Or.inr h) hD hP ?_ _ hl
  intro pc ls H locs hdg hP1 hS
  exact W.lret B.exec B.bytes B.returns (fun t ht hW => ⟨⟨R0, (), rfl, rfl, by rw [ht]; exact hP1, va_K.moved hW.alike hK, va_D_adr hD hadr⟩, hS.F ht⟩) hS.2.2 hdg B.notSynchronized
theorem mt_v (hy : plainName y.cls = true) (hw : ws = Cond.code y cc maxL none :: ws') (hlen : (lg_sl av).length ≤ maxL) (hadr : ws1.map Prod.fst = ws0.map Prod.fst)
    (body : ∀ (p : Program) (e : Env) (s : State) (m : MethodId) (below : List Frame) (meth : Method) (c : Code) (Q : State → Prop) (A : Nat → Prop), p.tables.exec = Jvm.exec → c.code = cc → c.maxLocals = maxL → s.vm.findClass y.cls = some m.cls → (∀ w ∈ ws, w.before av.toArray s = true) → va_K (dC, dI) vwCl (tyL cy) s → (∀ q : Nat, s.heap.size ≤ q → A q) → va_D A ws0 → va_P (dC, dI) vwCl ws0 s.heap →
      (∀ (pc : Nat) (ls : Array Slot) (H : Heap) (locs : List Loc), decode cc pc = .ok (.return_, 1) → va_P (dC, dI) vwCl ws1 H → va_S A s.heap H locs → W p l e (rmN F Lc) s m av.toArray below meth c H locs 0 0 Q (F0 m pc ls [])) →
      ∀ (ls : Array Slot), lv_has ls maxL (lv_args 0 av) → W p l e (rmN F Lc) s m av.toArray below meth c s.heap [] 0 0 Q (F0 m 0 ls [])) :
    Met l y ws (rmN F Lc) (va_Pc av (cPre dC dI cy ws0 sz)) (va_Qv (fun (_ : Unit) => True) (fun _ => cPost dC dI cy ws0 ws1 sz) (va_A ws0 sz)) 0 0 (va_A ws0 sz) := by
  refine Met.ofW (cc := cc) (maxL := maxL) (ret := none) hy hw ?_
  intro p e s m args below meth c s₁ B hml hv
  obtain ⟨rfl, hsz, hP, hK, hD0⟩ := hv
  have hts := atoms_spec (ws := ws) B.pre
  have hown : s.vm.findClass y.cls = some m.cls := findClass_of_methodNamed B.named
  subst hsz
  have hD := hD0.self (sz := s.heap.size)
  have hl := lv_entry av (n := maxL) hlen
  rw [lg_entry_eq]
  refine body p e s m below meth c _ (va_A ws0 s.heap.size) B.exec B.bytes hml hown hts hK (fun q h => Or.inr h) hD hP ?_ _ hl
  intro pc ls H locs hdg hP1 hS
  exact W.vret B.exec B.bytes B.returns (fun t ht hW => ⟨⟨(), rfl, trivial, by rw [ht]; exact hP1, va_K.moved hW.alike hK, va_D_adr hD hadr⟩, hS.F ht⟩) hS.2.2 hdg B.notSynchronized
end MT
section CA
variable {p : Program} {l : Launch} {e : Env} {R : Room} {s : State} {m : MethodId} {args : Array Value} {below : List Frame} {meth : Method} {c : Code} {H : Heap} {locs : List Loc} {cells slots : Nat} {Q : State → Prop}
variable {dC : Nat → ClassId} {dI : Nat → Nat → Nat} {cy : Nat → ClassId} {cc : ByteArray} {nL : Nat} {Ts : List Cond} {own : String} {A : Nat → Prop} {ws wc wr w1 wn : va_W}
variable {y : MethodName} {wsy : List Cond} {F Lc maxL index n b : Nat} {bytes : ByteArray} {ret : Option FieldType} {C : String} {As rest st : List Value} {ls : Array Slot} {pc : Nat}
theorem ca_vi {R0 : Int32} (S : CallFix p m c cc nL s args Ts own) (hK : va_K (dC, dI) vwCl (tyL cy) s) (hA : ∀ q : Nat, s.heap.size ≤ q → A q) (hD : va_D A ws) (hP : va_P (dC, dI) vwCl ws H) (hS : va_S A s.heap H locs)
    (isC isR perm : List Nat) (hM : ∀ sz, Met l y wsy (rmN F Lc) (va_Pc (.ref b :: As) (cPre dC dI cy wc sz)) (va_Qi (fun (r : Int32) (_ : Unit) => r = R0) (fun _ => cPost dC dI cy wc w1 sz) (va_A wc sz)) 0 0 (va_A wc sz))
    (hC : isC.map (fun i => ws[i]?) = wc.map some) (hR : isR.map (fun i => ws[i]?) = wr.map some) (hnC : va_nd isC = true) (hn : va_nd isR = true) (hdis : ∀ i ∈ isR, i ∉ isC) (hpm : perm.filterMap (fun i => (wr ++ w1)[i]?) = wn)
    (cw : CallW R s args own C index y bytes maxL ret wsy (rmN F Lc) 0 0 n) (ci q0 : Nat) {q : vw_C} {fs : List Value} (hcl : vwCl[ci]? = some q) (hq : q.1 = C) (hrc : wc[q0]? = some (b, .inr (ci, fs)))
    (hlen : As.length = n) (hls : ls.size = nL) (hst : st = As.reverse ++ .ref b :: rest) (hW : (rest.map fun v => v.category).sum ≤ 8) (hdg : decode cc pc = .ok (.invokevirtual index, 3)) (hf : cells ≤ R.cells ∧ slots ≤ R.slots)
    (kk : ∀ (H1 : Heap) (locs1 : List Loc), va_P (dC, dI) vwCl wn H1 → va_S A s.heap H1 locs1 → W p l e R s m args below meth c H1 locs1 cells slots Q (F0 m (pc + 3) ls (.int R0 :: rest))) : W p l e R s m args below meth c H locs cells slots Q (F0 m pc ls st) := by
  subst hq
  have hDc : va_D A wc := hD.sub isC hnC hC
  have hPc : va_P (dC, dI) vwCl wc H := fun k x hx => by
    have h1 : (isC.map (fun i => ws[i]?))[k]? = some (some x) := by rw [hC, List.getElem?_map, hx]; rfl
    rw [List.getElem?_map] at h1
    cases hi : isC[k]? with
    | none => rw [hi] at h1; cases h1
    | some i => rw [hi] at h1; exact hP i x (Option.some.inj h1)
  have hFc := va_free (wc := wc) hD hS hA isC hC
  refine va_calli (va_runV (As := As) (rest := rest) S (hM H.size) cw ⟨cPre_blind, va_recv hK hPc hcl hrc, fun U hU hW => ⟨rfl, by rw [hU], by rw [hU]; exact hPc, va_K.moved hW.alike hK, hDc.weaken (fun _ _ _ _ => trivial)⟩⟩ rfl hlen hls hst (lv_room hW) hdg hf) hS (fun q _ h => hFc q h) hFc (fun r u t H1 locs ht hvm hw hB hz1 hk1 hS => ?_)
  obtain ⟨hP1, hK1, hD1⟩ := hB
  rw [ht] at hP1
  obtain ⟨hP2, hD2⟩ := va_join (wr := wr) (w1 := w1) hP hD isC isR hC hR hn hdis hk1 hFc hP1 hD1
  subst hw
  exact kk H1 locs (hP2.sub perm hpm) hS
theorem ca_vl {R0 : Int64} (S : CallFix p m c cc nL s args Ts own) (hK : va_K (dC, dI) vwCl (tyL cy) s) (hA : ∀ q : Nat, s.heap.size ≤ q → A q) (hD : va_D A ws) (hP : va_P (dC, dI) vwCl ws H) (hS : va_S A s.heap H locs)
    (isC isR perm : List Nat) (hM : ∀ sz, Met l y wsy (rmN F Lc) (va_Pc (.ref b :: As) (cPre dC dI cy wc sz)) (va_Ql (fun (r : Int64) (_ : Unit) => r = R0) (fun _ => cPost dC dI cy wc w1 sz) (va_A wc sz)) 0 0 (va_A wc sz))
    (hC : isC.map (fun i => ws[i]?) = wc.map some) (hR : isR.map (fun i => ws[i]?) = wr.map some) (hnC : va_nd isC = true) (hn : va_nd isR = true) (hdis : ∀ i ∈ isR, i ∉ isC) (hpm : perm.filterMap (fun i => (wr ++ w1)[i]?) = wn)
    (cw : CallW R s args own C index y bytes maxL ret wsy (rmN F Lc) 0 0 n) (ci q0 : Nat) {q : vw_C} {fs : List Value} (hcl : vwCl[ci]? = some q) (hq : q.1 = C) (hrc : wc[q0]? = some (b, .inr (ci, fs)))
    (hlen : As.length = n) (hls : ls.size = nL) (hst : st = As.reverse ++ .ref b :: rest) (hW : (rest.map fun v => v.category).sum ≤ 8) (hdg : decode cc pc = .ok (.invokevirtual index, 3)) (hf : cells ≤ R.cells ∧ slots ≤ R.slots)
    (kk : ∀ (H1 : Heap) (locs1 : List Loc), va_P (dC, dI) vwCl wn H1 → va_S A s.heap H1 locs1 → W p l e R s m args below meth c H1 locs1 cells slots Q (F0 m (pc + 3) ls (.long R0 :: rest))) : W p l e R s m args below meth c H locs cells slots Q (F0 m pc ls st) := by
  subst hq
  have hDc : va_D A wc := hD.sub isC hnC hC
  have hPc : va_P (dC, dI) vwCl wc H := fun k x hx => by
    have h1 : (isC.map (fun i => ws[i]?))[k]? = some (some x) := by rw [hC, List.getElem?_map, hx]; rfl
    rw [List.getElem?_map] at h1
    cases hi : isC[k]? with
    | none => rw [hi] at h1; cases h1
    | some i => rw [hi] at h1; exact hP i x (Option.some.inj h1)
  have hFc := va_free (wc := wc) hD hS hA isC hC
  refine va_calll (va_runV (As := As) (rest := rest) S (hM H.size) cw ⟨cPre_blind, va_recv hK hPc hcl hrc, fun U hU hW => ⟨rfl, by rw [hU], by rw [hU]; exact hPc, va_K.moved hW.alike hK, hDc.weaken (fun _ _ _ _ => trivial)⟩⟩ rfl hlen hls hst (lv_room hW) hdg hf) hS (fun q _ h => hFc q h) hFc (fun r u t H1 locs ht hvm hw hB hz1 hk1 hS => ?_)
  obtain ⟨hP1, hK1, hD1⟩ := hB
  rw [ht] at hP1
  obtain ⟨hP2, hD2⟩ := va_join (wr := wr) (w1 := w1) hP hD isC isR hC hR hn hdis hk1 hFc hP1 hD1
  subst hw
  exact kk H1 locs (hP2.sub perm hpm) hS
theorem ca_vv (S : CallFix p m c cc nL s args Ts own) (hK : va_K (dC, dI) vwCl (tyL cy) s) (hA : ∀ q : Nat, s.heap.size ≤ q → A q) (hD : va_D A ws) (hP : va_P (dC, dI) vwCl ws H) (hS : va_S A s.heap H locs)
    (isC isR perm : List Nat) (hM : ∀ sz, Met l y wsy (rmN F Lc) (va_Pc (.ref b :: As) (cPre dC dI cy wc sz)) (va_Qv (fun (_ : Unit) => True) (fun _ => cPost dC dI cy wc w1 sz) (va_A wc sz)) 0 0 (va_A wc sz))
    (hC : isC.map (fun i => ws[i]?) = wc.map some) (hR : isR.map (fun i => ws[i]?) = wr.map some) (hnC : va_nd isC = true) (hn : va_nd isR = true) (hdis : ∀ i ∈ isR, i ∉ isC) (hpm : perm.filterMap (fun i => (wr ++ w1)[i]?) = wn)
    (cw : CallW R s args own C index y bytes maxL ret wsy (rmN F Lc) 0 0 n) (ci q0 : Nat) {q : vw_C} {fs : List Value} (hcl : vwCl[ci]? = some q) (hq : q.1 = C) (hrc : wc[q0]? = some (b, .inr (ci, fs)))
    (hlen : As.length = n) (hls : ls.size = nL) (hst : st = As.reverse ++ .ref b :: rest) (hW : (rest.map fun v => v.category).sum ≤ 8) (hdg : decode cc pc = .ok (.invokevirtual index, 3)) (hf : cells ≤ R.cells ∧ slots ≤ R.slots)
    (kk : ∀ (H1 : Heap) (locs1 : List Loc), va_P (dC, dI) vwCl wn H1 → va_S A s.heap H1 locs1 → W p l e R s m args below meth c H1 locs1 cells slots Q (F0 m (pc + 3) ls rest)) : W p l e R s m args below meth c H locs cells slots Q (F0 m pc ls st) := by
  subst hq
  have hDc : va_D A wc := hD.sub isC hnC hC
  have hPc : va_P (dC, dI) vwCl wc H := fun k x hx => by
    have h1 : (isC.map (fun i => ws[i]?))[k]? = some (some x) := by rw [hC, List.getElem?_map, hx]; rfl
    rw [List.getElem?_map] at h1
    cases hi : isC[k]? with
    | none => rw [hi] at h1; cases h1
    | some i => rw [hi] at h1; exact hP i x (Option.some.inj h1)
  have hFc := va_free (wc := wc) hD hS hA isC hC
  refine va_callv (va_runV (As := As) (rest := rest) S (hM H.size) cw ⟨cPre_blind, va_recv hK hPc hcl hrc, fun U hU hW => ⟨rfl, by rw [hU], by rw [hU]; exact hPc, va_K.moved hW.alike hK, hDc.weaken (fun _ _ _ _ => trivial)⟩⟩ rfl hlen hls hst (lv_room hW) hdg hf) hS (fun q _ h => hFc q h) hFc (fun u t H1 locs ht hvm hw hB hz1 hk1 hS => ?_)
  obtain ⟨hP1, hK1, hD1⟩ := hB
  rw [ht] at hP1
  obtain ⟨hP2, hD2⟩ := va_join (wr := wr) (w1 := w1) hP hD isC isR hC hR hn hdis hk1 hFc hP1 hD1
  exact kk H1 locs (hP2.sub perm hpm) hS
theorem ca_si {R0 : Int32} (S : CallFix p m c cc nL s args Ts own) (hK : va_K (dC, dI) vwCl (tyL cy) s) (hA : ∀ q : Nat, s.heap.size ≤ q → A q) (hD : va_D A ws) (hP : va_P (dC, dI) vwCl ws H) (hS : va_S A s.heap H locs)
    (isC isR perm : List Nat) (hM : ∀ sz, Met l y wsy (rmN F Lc) (va_Pc As (cPre dC dI cy wc sz)) (va_Qi (fun (r : Int32) (_ : Unit) => r = R0) (fun _ => cPost dC dI cy wc w1 sz) (va_A wc sz)) 0 0 (va_A wc sz))
    (hC : isC.map (fun i => ws[i]?) = wc.map some) (hR : isR.map (fun i => ws[i]?) = wr.map some) (hnC : va_nd isC = true) (hn : va_nd isR = true) (hdis : ∀ i ∈ isR, i ∉ isC) (hpm : perm.filterMap (fun i => (wr ++ w1)[i]?) = wn)
    (cw : CallB R s args own index y bytes maxL ret wsy (rmN F Lc) 0 0 n ∧ (Cond.static y).before args s = true)
    (hlen : As.length = n) (hls : ls.size = nL) (hst : st = As.reverse ++ rest) (hW : (rest.map fun v => v.category).sum ≤ 8) (hdg : decode cc pc = .ok (.invokestatic index, 3)) (hf : cells ≤ R.cells ∧ slots ≤ R.slots)
    (kk : ∀ (H1 : Heap) (locs1 : List Loc), va_P (dC, dI) vwCl wn H1 → va_S A s.heap H1 locs1 → W p l e R s m args below meth c H1 locs1 cells slots Q (F0 m (pc + 3) ls (.int R0 :: rest))) : W p l e R s m args below meth c H locs cells slots Q (F0 m pc ls st) := by
  have hDc : va_D A wc := hD.sub isC hnC hC
  have hPc : va_P (dC, dI) vwCl wc H := fun k x hx => by
    have h1 : (isC.map (fun i => ws[i]?))[k]? = some (some x) := by rw [hC, List.getElem?_map, hx]; rfl
    rw [List.getElem?_map] at h1
    cases hi : isC[k]? with
    | none => rw [hi] at h1; cases h1
    | some i => rw [hi] at h1; exact hP i x (Option.some.inj h1)
  have hFc := va_free (wc := wc) hD hS hA isC hC
  refine va_calli (va_runS (As := As) (rest := rest) S (hM H.size) cw ⟨cPre_blind, fun U hU hW => ⟨rfl, by rw [hU], by rw [hU]; exact hPc, va_K.moved hW.alike hK, hDc.weaken (fun _ _ _ _ => trivial)⟩⟩ rfl hlen hls hst (lv_room hW) hdg hf) hS (fun q _ h => hFc q h) hFc (fun r u t H1 locs ht hvm hw hB hz1 hk1 hS => ?_)
  obtain ⟨hP1, hK1, hD1⟩ := hB
  rw [ht] at hP1
  obtain ⟨hP2, hD2⟩ := va_join (wr := wr) (w1 := w1) hP hD isC isR hC hR hn hdis hk1 hFc hP1 hD1
  subst hw
  exact kk H1 locs (hP2.sub perm hpm) hS
theorem ca_sl {R0 : Int64} (S : CallFix p m c cc nL s args Ts own) (hK : va_K (dC, dI) vwCl (tyL cy) s) (hA : ∀ q : Nat, s.heap.size ≤ q → A q) (hD : va_D A ws) (hP : va_P (dC, dI) vwCl ws H) (hS : va_S A s.heap H locs)
    (isC isR perm : List Nat) (hM : ∀ sz, Met l y wsy (rmN F Lc) (va_Pc As (cPre dC dI cy wc sz)) (va_Ql (fun (r : Int64) (_ : Unit) => r = R0) (fun _ => cPost dC dI cy wc w1 sz) (va_A wc sz)) 0 0 (va_A wc sz))
    (hC : isC.map (fun i => ws[i]?) = wc.map some) (hR : isR.map (fun i => ws[i]?) = wr.map some) (hnC : va_nd isC = true) (hn : va_nd isR = true) (hdis : ∀ i ∈ isR, i ∉ isC) (hpm : perm.filterMap (fun i => (wr ++ w1)[i]?) = wn)
    (cw : CallB R s args own index y bytes maxL ret wsy (rmN F Lc) 0 0 n ∧ (Cond.static y).before args s = true)
    (hlen : As.length = n) (hls : ls.size = nL) (hst : st = As.reverse ++ rest) (hW : (rest.map fun v => v.category).sum ≤ 8) (hdg : decode cc pc = .ok (.invokestatic index, 3)) (hf : cells ≤ R.cells ∧ slots ≤ R.slots)
    (kk : ∀ (H1 : Heap) (locs1 : List Loc), va_P (dC, dI) vwCl wn H1 → va_S A s.heap H1 locs1 → W p l e R s m args below meth c H1 locs1 cells slots Q (F0 m (pc + 3) ls (.long R0 :: rest))) : W p l e R s m args below meth c H locs cells slots Q (F0 m pc ls st) := by
  have hDc : va_D A wc := hD.sub isC hnC hC
  have hPc : va_P (dC, dI) vwCl wc H := fun k x hx => by
    have h1 : (isC.map (fun i => ws[i]?))[k]? = some (some x) := by rw [hC, List.getElem?_map, hx]; rfl
    rw [List.getElem?_map] at h1
    cases hi : isC[k]? with
    | none => rw [hi] at h1; cases h1
    | some i => rw [hi] at h1; exact hP i x (Option.some.inj h1)
  have hFc := va_free (wc := wc) hD hS hA isC hC
  refine va_calll (va_runS (As := As) (rest := rest) S (hM H.size) cw ⟨cPre_blind, fun U hU hW => ⟨rfl, by rw [hU], by rw [hU]; exact hPc, va_K.moved hW.alike hK, hDc.weaken (fun _ _ _ _ => trivial)⟩⟩ rfl hlen hls hst (lv_room hW) hdg hf) hS (fun q _ h => hFc q h) hFc (fun r u t H1 locs ht hvm hw hB hz1 hk1 hS => ?_)
  obtain ⟨hP1, hK1, hD1⟩ := hB
  rw [ht] at hP1
  obtain ⟨hP2, hD2⟩ := va_join (wr := wr) (w1 := w1) hP hD isC isR hC hR hn hdis hk1 hFc hP1 hD1
  subst hw
  exact kk H1 locs (hP2.sub perm hpm) hS
theorem ca_sv (S : CallFix p m c cc nL s args Ts own) (hK : va_K (dC, dI) vwCl (tyL cy) s) (hA : ∀ q : Nat, s.heap.size ≤ q → A q) (hD : va_D A ws) (hP : va_P (dC, dI) vwCl ws H) (hS : va_S A s.heap H locs)
    (isC isR perm : List Nat) (hM : ∀ sz, Met l y wsy (rmN F Lc) (va_Pc As (cPre dC dI cy wc sz)) (va_Qv (fun (_ : Unit) => True) (fun _ => cPost dC dI cy wc w1 sz) (va_A wc sz)) 0 0 (va_A wc sz))
    (hC : isC.map (fun i => ws[i]?) = wc.map some) (hR : isR.map (fun i => ws[i]?) = wr.map some) (hnC : va_nd isC = true) (hn : va_nd isR = true) (hdis : ∀ i ∈ isR, i ∉ isC) (hpm : perm.filterMap (fun i => (wr ++ w1)[i]?) = wn)
    (cw : CallB R s args own index y bytes maxL ret wsy (rmN F Lc) 0 0 n ∧ (Cond.static y).before args s = true)
    (hlen : As.length = n) (hls : ls.size = nL) (hst : st = As.reverse ++ rest) (hW : (rest.map fun v => v.category).sum ≤ 8) (hdg : decode cc pc = .ok (.invokestatic index, 3)) (hf : cells ≤ R.cells ∧ slots ≤ R.slots)
    (kk : ∀ (H1 : Heap) (locs1 : List Loc), va_P (dC, dI) vwCl wn H1 → va_S A s.heap H1 locs1 → W p l e R s m args below meth c H1 locs1 cells slots Q (F0 m (pc + 3) ls rest)) : W p l e R s m args below meth c H locs cells slots Q (F0 m pc ls st) := by
  have hDc : va_D A wc := hD.sub isC hnC hC
  have hPc : va_P (dC, dI) vwCl wc H := fun k x hx => by
    have h1 : (isC.map (fun i => ws[i]?))[k]? = some (some x) := by rw [hC, List.getElem?_map, hx]; rfl
    rw [List.getElem?_map] at h1
    cases hi : isC[k]? with
    | none => rw [hi] at h1; cases h1
    | some i => rw [hi] at h1; exact hP i x (Option.some.inj h1)
  have hFc := va_free (wc := wc) hD hS hA isC hC
  refine va_callv (va_runS (As := As) (rest := rest) S (hM H.size) cw ⟨cPre_blind, fun U hU hW => ⟨rfl, by rw [hU], by rw [hU]; exact hPc, va_K.moved hW.alike hK, hDc.weaken (fun _ _ _ _ => trivial)⟩⟩ rfl hlen hls hst (lv_room hW) hdg hf) hS (fun q _ h => hFc q h) hFc (fun u t H1 locs ht hvm hw hB hz1 hk1 hS => ?_)
  obtain ⟨hP1, hK1, hD1⟩ := hB
  rw [ht] at hP1
  obtain ⟨hP2, hD2⟩ := va_join (wr := wr) (w1 := w1) hP hD isC isR hC hR hn hdis hk1 hFc hP1 hD1
  exact kk H1 locs (hP2.sub perm hpm) hS
end CA
theorem sw_ne {x v : Int32} {z : Int} (h : ¬ x = v) (hz : v.toInt = z) : ¬ x.toInt = z := fun q => h (Int32.toInt_inj.mp (q.trans hz.symm))
end
section
theorem ydX4_weigh : yX4_weigh.cls ≠ "java/lang/invoke/MethodHandle" ∧ yX4_weigh.cls ≠ "java/lang/invoke/VarHandle" ∧ (parseMethodDescriptor yX4_weigh.desc).map (fun d => d.parameters.length) = some 0 := by decide +kernel
def mX4_weigh (fu : Nat) (w0 : ob_T) : Option (ob_T) := (if 0 < (lg_cmp (w0.2 12 0) (0 : Int64)) then (if ((1000 : Int64) * (w0.2 12 0)) = 0 then none else (bnd (ob_I w0 15 (fun _ => (if (1000000 : Int64) < ((((w0.1 14 0).toInt64) * (w0.2 13 0)) / ((1000 : Int64) * (w0.2 12 0))) then (1000000 : Int64) else ((((w0.1 14 0).toInt64) * (w0.2 13 0)) / ((1000 : Int64) * (w0.2 12 0)))).toInt32)) (fun (w2 : ob_T) => some w2))) else (bnd (ob_I w0 15 (fun _ => (1000000 : Int32))) (fun (w3 : ob_T) => some w3)))
set_option maxHeartbeats 4000000 in
set_option maxRecDepth 100000 in
theorem kcX4_weigh (l : Launch) (dC : Nat → ClassId) (dI : Nat → Nat → Nat) (cy : Nat → ClassId) (fu : Nat) (h0 : Nat) (a0 : Nat → Nat) (w0 : ob_T) (sz : Nat) (R : ob_T) (hm : mX4_weigh fu w0 = some R) : Met l yX4_weigh wsX4_weigh (rmN 1 30) (va_Pc [.ref h0] (cPre dC dI cy ((o_X4 cy h0 a0 w0)) sz)) (va_Qv (fun (_ : Unit) => True) (fun _ => cPost dC dI cy ((o_X4 cy h0 a0 w0)) ((o_X4 cy h0 a0 R)) sz) (va_A ((o_X4 cy h0 a0 w0)) sz)) 0 0 (va_A ((o_X4 cy h0 a0 w0)) sz) := by
  refine mt_v (cc := cX4_weigh) (maxL := 1) (by decide) rfl (Nat.le_of_ble_eq_true rfl) rfl ?_
  intro p e s m below meth c Q A hx hb hml hown hts hK hA hD hP hret ls hl
  have hown : s.vm.findClass RX4 = some m.cls := hown
  have hl : lv_has ls 1 [(0, .ref h0)] := hl
  have hDa : ∀ v0 : ob_T, va_D A ((o_X4 cy h0 a0 v0)) := fun _ => va_D_adr hD rfl
  have i4 : ∀ w ∈ wsX40, w ∈ wsX4_weigh := fun _ h => List.mem_cons_of_mem _ (List.mem_append_right _ h)
  have hS : va_S A s.heap s.heap [] := va_S.rf
  unfold mX4_weigh at hm
  refine lv_aload_n hx hb dX4_weigh_0 rfl (lv_at hl 0 rfl) ?_
  refine va_get (D := (dC, dI)) (ci := 4) (v := .long (w0.2 12 0)) (C := RX4) (T := TX4) (N := 17) hx hb hts i4 hown hK hP 0 rfl rfl 12 (by decide) (hts (.fieldLink RX4 50 "TwoMetals$World" "marketGold" "J") (List.mem_of_getElem? (i := 1) rfl)) (fun _ h9 => h9) rfl dX4_weigh_1 ?_
  refine lv_lconst (v := (0 : Int64)) hx hb dX4_weigh_4 (by decide) ?_
  refine W.lcmp hx hb dX4_weigh_5 ?_
  refine lv_if_gt (tgt := 16) hx hb dX4_weigh_6 (by decide) (fun hc => ?_) (fun hc => ?_)
  · replace hm := (if_pos hc).symm.trans hm
    refine lv_aload_n hx hb dX4_weigh_16 rfl (lv_at hl 0 rfl) ?_
    refine lv_aload_n hx hb dX4_weigh_17 rfl (lv_at hl 0 rfl) ?_
    refine va_get (D := (dC, dI)) (ci := 4) (v := .int (w0.1 14 0)) (C := RX4) (T := TX4) (N := 17) hx hb hts i4 hown hK hP 0 rfl rfl 14 (by decide) (hts (.fieldLink RX4 57 "TwoMetals$World" "scarcity" "I") (List.mem_of_getElem? (i := 4) rfl)) (fun _ h9 => h9) rfl dX4_weigh_18 ?_
    refine lv_i2l (v := (w0.1 14 0).toInt64) hx hb dX4_weigh_21 rfl ?_
    refine lv_aload_n hx hb dX4_weigh_22 rfl (lv_at hl 0 rfl) ?_
    refine va_get (D := (dC, dI)) (ci := 4) (v := .long (w0.2 13 0)) (C := RX4) (T := TX4) (N := 17) hx hb hts i4 hown hK hP 0 rfl rfl 13 (by decide) (hts (.fieldLink RX4 54 "TwoMetals$World" "marketSilver" "J") (List.mem_of_getElem? (i := 5) rfl)) (fun _ h9 => h9) rfl dX4_weigh_23 ?_
    refine lv_lmul hx hb dX4_weigh_26 ?_
    refine lv_ldc2 (v := (1000 : Int64)) hx hb hown (hts (.constantLong RX4 73 (1000)) (List.mem_of_getElem? (i := 6) rfl)) dX4_weigh_27 ?_
    refine lv_aload_n hx hb dX4_weigh_30 rfl (lv_at hl 0 rfl) ?_
    refine va_get (D := (dC, dI)) (ci := 4) (v := .long (w0.2 12 0)) (C := RX4) (T := TX4) (N := 17) hx hb hts i4 hown hK hP 0 rfl rfl 12 (by decide) (hts (.fieldLink RX4 50 "TwoMetals$World" "marketGold" "J") (List.mem_of_getElem? (i := 1) rfl)) (fun _ h9 => h9) rfl dX4_weigh_31 ?_
    refine lv_lmul hx hb dX4_weigh_34 ?_
    obtain ⟨hz1, hm⟩ := ck_dv hm
    refine lv_ldiv hx hb dX4_weigh_35 hz1 ?_
    refine lv_ldc2 (v := (1000000 : Int64)) hx hb hown (hts (.constantLong RX4 81 (1000000)) (List.mem_of_getElem? (i := 7) rfl)) dX4_weigh_36 ?_
    refine va_mmin_long hx hb (hml.trans hl.1.symm) hown (hts (.methodLink RX4 83 Lib.MathLoose.min_long.x) (List.mem_of_getElem? (i := 8) rfl)) (hts (.static Lib.MathLoose.min_long.x) (List.mem_of_getElem? (i := 9) rfl)) (hts (.initialized "java/lang/Math") (List.mem_of_getElem? (i := 10) rfl)) (hts (.code Lib.MathLoose.min_long.x Lib.MathLoose.min_long.code 4 (some .long)) (List.mem_of_getElem? (i := 11) rfl)) (Nat.le_of_ble_eq_true rfl) (Nat.le_of_ble_eq_true rfl) (Nat.zero_le _) (Nat.zero_le _) dX4_weigh_39 ?_
    refine lv_l2i (v := (if (1000000 : Int64) < ((((w0.1 14 0).toInt64) * (w0.2 13 0)) / ((1000 : Int64) * (w0.2 12 0))) then (1000000 : Int64) else ((((w0.1 14 0).toInt64) * (w0.2 13 0)) / ((1000 : Int64) * (w0.2 12 0)))).toInt32) hx hb dX4_weigh_42 rfl ?_
    refine va_put (D := (dC, dI)) (ci := 4) (v := .int ((if (1000000 : Int64) < ((((w0.1 14 0).toInt64) * (w0.2 13 0)) / ((1000 : Int64) * (w0.2 12 0))) then (1000000 : Int64) else ((((w0.1 14 0).toInt64) * (w0.2 13 0)) / ((1000 : Int64) * (w0.2 12 0)))).toInt32)) (ty := .int) (C := RX4) (T := TX4) (N := 17) hx hb hts i4 tyX4 tyX4_ok nmX4 hown hK hP (hDa _) hS 0 rfl rfl 15 (by decide) (hts (.fieldLink RX4 61 "TwoMetals$World" "price" "I") (List.mem_of_getElem? (i := 3) rfl)) (fun _ h9 => h9) rfl (tyX4_ok 15 (by decide)) rfl rfl (Nat.le_of_ble_eq_true rfl) dX4_weigh_43 (fun H locs hP _ hS => ?_)
    have hP : va_P (dC, dI) vwCl ((o_X4 cy h0 a0 (ob_I w0 15 (fun _ => (if (1000000 : Int64) < ((((w0.1 14 0).toInt64) * (w0.2 13 0)) / ((1000 : Int64) * (w0.2 12 0))) then (1000000 : Int64) else ((((w0.1 14 0).toInt64) * (w0.2 13 0)) / ((1000 : Int64) * (w0.2 12 0)))).toInt32)))) H := hP
    obtain ⟨w2, hP, hm⟩ := bn_ob (P := fun zz => va_P (dC, dI) vwCl ((o_X4 cy h0 a0 zz)) H) hm hP
    obtain rfl := Option.some.inj hm
    exact hret 46 ls _ _ dX4_weigh_46 hP hS
  replace hm := (if_neg hc).symm.trans hm
  refine lv_aload_n hx hb dX4_weigh_9 rfl (lv_at hl 0 rfl) ?_
  refine lv_ldc (v := (1000000 : Int32)) hx hb hown (hts (.constant RX4 60 (1000000)) (List.mem_of_getElem? (i := 2) rfl)) dX4_weigh_10 ?_
  refine va_put (D := (dC, dI)) (ci := 4) (v := .int (1000000 : Int32)) (ty := .int) (C := RX4) (T := TX4) (N := 17) hx hb hts i4 tyX4 tyX4_ok nmX4 hown hK hP (hDa _) hS 0 rfl rfl 15 (by decide) (hts (.fieldLink RX4 61 "TwoMetals$World" "price" "I") (List.mem_of_getElem? (i := 3) rfl)) (fun _ h9 => h9) rfl (tyX4_ok 15 (by decide)) rfl rfl (Nat.le_of_ble_eq_true rfl) dX4_weigh_12 (fun H locs hP _ hS => ?_)
  have hP : va_P (dC, dI) vwCl ((o_X4 cy h0 a0 (ob_I w0 15 (fun _ => (1000000 : Int32))))) H := hP
  obtain ⟨w3, hP, hm⟩ := bn_ob (P := fun zz => va_P (dC, dI) vwCl ((o_X4 cy h0 a0 zz)) H) hm hP
  obtain rfl := Option.some.inj hm
  exact hret 15 ls _ _ dX4_weigh_15 hP hS
end
