/-! ===== PURE: numbers ===== -/
theorem l32_0 : (0 : Int32) = nI 0 := rfl
theorem l32_1 : (1 : Int32) = nI 1 := rfl
theorem l32_2 : (2 : Int32) = nI 2 := rfl
theorem l32_3 : (3 : Int32) = nI 3 := rfl
theorem l32_4 : (4 : Int32) = nI 4 := rfl
theorem l32_5 : (5 : Int32) = nI 5 := rfl
theorem l32_6 : (6 : Int32) = nI 6 := rfl
theorem l32_7 : (7 : Int32) = nI 7 := rfl
theorem l32_8 : (8 : Int32) = nI 8 := rfl
theorem l32_9 : (9 : Int32) = nI 9 := rfl
theorem l32_10 : (10 : Int32) = nI 10 := rfl
theorem l32_72 : (72 : Int32) = nI 72 := rfl
theorem l32_99 : (99 : Int32) = nI 99 := rfl
theorem l32_1000 : (1000 : Int32) = nI 1000 := rfl
theorem l32_99999 : (99999 : Int32) = nI 99999 := rfl
theorem l32_1000000 : (1000000 : Int32) = nI 1000000 := rfl
theorem l64_0 : (0 : Int64) = lN 0 := rfl
theorem l64_1 : (1 : Int64) = lN 1 := rfl
theorem l64_7 : (7 : Int64) = lN 7 := rfl
theorem l64_999 : (999 : Int64) = lN 999 := rfl
theorem l64_1000 : (1000 : Int64) = lN 1000 := rfl
theorem l64_1000000 : (1000000 : Int64) = lN 1000000 := rfl
theorem nI_toL {n : Nat} (h : n < 2147483648) : (nI n).toInt64 = lN n := nI_l (by omega)
theorem lN_toI (n : Nat) : (lN n).toInt32 = nI n := lN_i n
theorem nI_mulN (a b : Nat) : nI a * nI b = nI (a * b) := pk_mul a b
theorem nI_addN (a b : Nat) : nI a + nI b = nI (a + b) := nI_add a b
theorem nI_subN {a b : Nat} (h : b ≤ a) : nI a - nI b = nI (a - b) := pk_sub h
theorem lN_mulN (a b : Nat) : lN a * lN b = lN (a * b) := lN_mul a b
theorem lN_addN (a b : Nat) : lN a + lN b = lN (a + b) := lN_add a b
theorem lN_subN {a b : Nat} (h : b ≤ a) : lN a - lN b = lN (a - b) := lN_sub h
theorem nI_ltN {a b : Nat} (ha : a < 2147483648) (hb : b < 2147483648) : (nI a < nI b) = (a < b) := propext (nI_ltI (by omega) (by omega))
theorem nI_leN {a b : Nat} (ha : a < 2147483648) (hb : b < 2147483648) : (nI a ≤ nI b) = (a ≤ b) := propext (nI_leI (by omega) (by omega))
theorem nI_eqN {a b : Nat} (ha : a < 2147483648) (hb : b < 2147483648) : (nI a = nI b) = (a = b) := propext (nI_eq (by omega) (by omega))
theorem lN_ltN {a b : Nat} (ha : a < 9223372036854775808) (hb : b < 9223372036854775808) : (lN a < lN b) = (a < b) := propext (pk_lLT (by omega) (by omega))
theorem lN_leN {a b : Nat} (ha : a < 9223372036854775808) (hb : b < 9223372036854775808) : (lN a ≤ lN b) = (a ≤ b) := propext (pk_lLE (by omega) (by omega))
theorem lN_eqN {a b : Nat} (ha : a < 9223372036854775808) (hb : b < 9223372036854775808) : (lN a = lN b) = (a = b) := propext (pk_lEQ (by omega) (by omega))
theorem lN_divN {a b : Nat} (ha : a < 9223372036854775808) (h0 : 0 < b) (hb : b < 9223372036854775808) : lN a / lN b = lN (a / b) := pk_lDiv (by omega) h0 (by omega)
theorem nI_clN {n : Nat} (h : n < 2147483648) : (nI n).toNatClampNeg = n := nI_clamp (by omega)
theorem lg_geN (x y : Int64) : (nI 0 ≤ lg_cmp x y) = (y ≤ x) := propext (lg_cmp_ge x y)
theorem lg_leN (x y : Int64) : (lg_cmp x y ≤ nI 0) = (x ≤ y) := propext (lg_cmp_le x y)
theorem lg_gtN (x y : Int64) : (nI 0 < lg_cmp x y) = (y < x) := propext (lg_cmp_gt x y)
theorem lg_ltN (x y : Int64) : (lg_cmp x y < nI 0) = (x < y) := propext (lg_cmp_lt x y)
theorem lg_eqN (x y : Int64) : (lg_cmp x y = nI 0) = (x = y) := propext (lg_cmp_eq x y)
theorem bnd_eq {α β : Type} (v : α) (f : α → Option β) : bnd v f = f v := rfl
theorem bind_sm {α β : Type} (a : α) (f : α → Option β) : Option.bind (some a) f = f a := rfl
theorem obI_1 (w : ob_T) (f : Nat) (g : Nat → Int32) (k : Nat) : (ob_I w f g).1 k = if k = f then g else w.1 k := rfl
theorem obI_2 (w : ob_T) (f : Nat) (g : Nat → Int32) : (ob_I w f g).2 = w.2 := rfl
theorem obL_1 (w : ob_T) (f : Nat) (g : Nat → Int64) : (ob_L w f g).1 = w.1 := rfl
theorem obL_2 (w : ob_T) (f : Nat) (g : Nat → Int64) (k : Nat) : (ob_L w f g).2 k = if k = f then g else w.2 k := rfl
theorem ix_no {k N : Nat} (h : k < N) (hN : N < 2147483648) : (nI k < nI 0 ∨ N ≤ (nI k).toNatClampNeg) = False := by
  rw [nI_clN (by omega), nI_ltN (by omega) (by omega)]
  exact eq_false (by omega)
theorem ix_no0 {k N : Nat} (h : k < N) (hN : N < 2147483648) : (nI k < 0 ∨ N ≤ (nI k).toNatClampNeg) = False := ix_no h hN
/-! ===== PURE: the world as numbers: V n f (realm n; f: 0 R, 1 C, 2 W, 3 gold, 4 silver, 5 F, 6 mints, 7 limps, 8 stop and one), M f (0 gold, 1 silver, 2 year), K ===== -/
def rt (K : Nat) (M : Nat → Nat) : Nat := if M 0 = 0 then 1000000 else if 1000000 < K * M 1 / (1000 * M 0) then 1000000 else K * M 1 / (1000 * M 0)
theorem rt_le (K : Nat) (M : Nat → Nat) : rt K M ≤ 1000000 := by
  unfold rt
  split
  · omega
  · split <;> omega
/-- bounds: what a number of a world may be; gold in all G, silver in all S -/
def okV (V : Nat → Nat → Nat) : Prop := ∀ n, n < 8 → (V n 0 = 0 ∨ (1000 ≤ V n 0 ∧ V n 0 ≤ 99999)) ∧ V n 1 ≤ 999 ∧ V n 2 ≤ 200 ∧ V n 3 < 100000000 ∧ V n 4 < 1000000000000 ∧ V n 5 ≤ 999 ∧ V n 6 ≤ 1 ∧ V n 7 ≤ 1 ∧ V n 8 ≤ 10000 ∧ (V n 0 = 0 → V n 3 = 0 ∧ V n 4 = 0 ∧ V n 6 = 0 ∧ V n 7 = 0)
def okM (M : Nat → Nat) : Prop := M 0 < 100000000 ∧ M 1 < 1000000000000 ∧ M 2 < 100000
def okK (K : Nat) : Prop := 1 ≤ K ∧ K ≤ 9999
/-- the reference's slot b holds the world -/
def rfW (y : ob_T) (b : Nat) (V : Nat → Nat → Nat) (M : Nat → Nat) : Prop := (∀ n, n < 8 → (∀ f, f < 8 → y.2 2 (72 * b + 9 * n + f) = lN (V n f)) ∧ y.2 2 (72 * b + 9 * n + 8) = lN (V n 8) - 1) ∧ ∀ f, f < 3 → y.2 3 (3 * b + f) = lN (M f)
theorem km_lt {K : Nat} {M : Nat → Nat} (hM : okM M) (hK : okK K) : K * M 1 < 10000000000000000 := by
  have h1 : K * M 1 ≤ 9999 * M 1 := Nat.mul_le_mul_right _ hK.2
  have := hM.2.1
  omega
theorem p6_ratio (fu : Nat) {y : ob_T} {V : Nat → Nat → Nat} {M : Nat → Nat} {K : Nat} (h : rfW y 0 V M) (hK : y.1 4 0 = nI K) (oM : okM M) (oK : okK K) : mX6_ratio fu y = some (lN (rt K M)) := by
  have m0 : y.2 3 0 = lN (M 0) := h.2 0 (by omega)
  have m1 : y.2 3 1 = lN (M 1) := h.2 1 (by omega)
  have hkm := km_lt oM oK
  obtain ⟨o0, o1, o2⟩ := oM
  have hk2 := oK.2
  have hq : K * M 1 / (1000 * M 0) ≤ K * M 1 := Nat.div_le_self _ _
  unfold mX6_ratio rt
  simp only [l32_0, l32_1, l64_0, l64_1000, l64_1000000]
  simp (disch := omega) only [↓ix_no, ↓reduceIte, nI_clN, m0, m1, hK, lg_eqN, lg_leN, nI_toL, lN_mulN, lN_eqN, bnd_eq]
  by_cases e : M 0 = 0
  · rw [if_pos e, if_pos e]
  · rw [if_neg e, if_neg e]
    have e2 : ¬ 1000 * M 0 = 0 := by omega
    rw [if_neg e2]
    rw [lN_divN (by omega) (by omega) (by omega)]
    simp (disch := omega) only [lN_leN]
    by_cases e3 : K * M 1 / (1000 * M 0) ≤ 1000000
    · rw [if_pos e3, if_neg (Nat.not_lt.mpr e3)]
    · rw [if_neg e3, if_pos (Nat.not_le.mp e3)]
