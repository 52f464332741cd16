/-! ===== PURE: the relation of class and reference between calls ===== -/
def sgn (c : Nat) : Int32 := (nI c).toInt8.toInt32
def txR (t y : ob_T) : Prop := ∃ len, len ≤ 400 ∧ t.1 1 0 = nI len ∧ y.1 0 0 = nI len ∧ ∀ k, k < len → ∃ c, c < 256 ∧ t.1 0 k = sgn c ∧ y.1 1 k = nI c
def ylR (w : ob_T) : Prop := ∀ n, n < 8 → ∃ q, q ≤ 999 ∧ w.1 3 n = nI q
def Rq (n : Nat) (o tx rw mn nw k1 k2 y : ob_T) : Prop := ∃ (D E0 E1 : sp_D) (K kc : Nat), okK K ∧ okN n D ∧ clW nw D.1 D.2 K ∧ rfW y 0 D.1 D.2 ∧ y.1 4 0 = nI K ∧ kc ≤ 2 ∧ o.1 7 0 = nI kc ∧ y.1 7 0 = nI kc ∧ (0 < kc → okN n E0 ∧ clW k1 E0.1 E0.2 K ∧ rfW y 1 E0.1 E0.2) ∧ (1 < kc → okN n E1 ∧ clW k2 E1.1 E1.2 K ∧ rfW y 2 E1.1 E1.2) ∧ txR tx y ∧ mnR mn y ∧ ylR rw
def Rl (n : Nat) (z : Nat → ob_T) : Prop := Rq n (z 0) (z 1) (z 3) (z 6) (z 7) (z 9) (z 10) (z 11)
theorem txR_y {t y y' : ob_T} (h : txR t y) (e0 : y'.1 0 = y.1 0) (e1 : y'.1 1 = y.1 1) : txR t y' := by
  unfold txR at *
  rw [e0, e1]; exact h
theorem mnR_y {v y y' : ob_T} (h : mnR v y) (e5 : y'.1 5 = y.1 5) (e6 : y'.1 6 = y.1 6) : mnR v y' := by
  unfold mnR mnL at *
  rw [e5, e6]; exact h
theorem Rq_Q {n : Nat} {o tx rw mn nw k1 k2 y y' : ob_T} (h : Rq n o tx rw mn nw k1 k2 y) (q : rfQ y y') : Rq (n + 1) o tx rw mn nw k1 k2 y' := by
  obtain ⟨D, E0, E1, K, kc, oK, oN, cW, rW, rK, hkc, hk5, hk6, h0, h1, hT, hM, hY⟩ := h
  refine ⟨D, E0, E1, K, kc, oK, okN_mono oN (by omega), cW, q.2 0 _ _ (by omega) rW, by rw [q.1 4 (by omega)]; exact rK, hkc, hk5, by rw [q.1 7 (by omega)]; exact hk6, fun h => ?_, fun h => ?_, txR_y hT (q.1 0 (by omega)) (q.1 1 (by omega)), mnR_y hM (q.1 5 (by omega)) (q.1 6 (by omega)), hY⟩
  · obtain ⟨a, b, c⟩ := h0 h
    exact ⟨okN_mono a (by omega), b, q.2 1 _ _ (by omega) c⟩
  · obtain ⟨a, b, c⟩ := h1 h
    exact ⟨okN_mono a (by omega), b, q.2 2 _ _ (by omega) c⟩
theorem Rq_s {n : Nat} {o tx rw mn nw k1 k2 y : ob_T} (h : Rq n o tx rw mn nw k1 k2 y) : Rq (n + 1) o tx rw mn nw k1 k2 y := Rq_Q h rfQ_rf
/-- the class's world is another one, the reference's too; slots 1 and 2 stay -/
theorem Rq_D {n : Nat} {o tx rw mn nw k1 k2 y : ob_T} (h : Rq n o tx rw mn nw k1 k2 y) {K : Nat} (hK : y.1 4 0 = nI K) (oK : okK K) {nw' y' : ob_T} {D' : sp_D} (oN : okN (n + 1) D') (cW : clW nw' D'.1 D'.2 K) (rW : rfW y' 0 D'.1 D'.2) (q1 : ∀ f, f ≠ 10 → y'.1 f = y.1 f) (q2 : ∀ c V M, 1 ≤ c → c < 3 → rfW y c V M → rfW y' c V M) : Rq (n + 1) o tx rw mn nw' k1 k2 y' := by
  obtain ⟨D, E0, E1, K2, kc, oK2, oN2, cW2, rW2, rK, hkc, hk5, hk6, h0, h1, hT, hM, hY⟩ := h
  have e : K2 = K := by
    have h1 := oK2.2
    have h2 := oK.2
    have : nI K2 = nI K := rK.symm.trans hK
    rw [nI_eqN (by omega) (by omega)] at this
    exact this
  subst e
  refine ⟨D', E0, E1, K2, kc, oK, oN, cW, rW, by rw [q1 4 (by omega)]; exact rK, hkc, hk5, by rw [q1 7 (by omega)]; exact hk6, fun h => ?_, fun h => ?_, txR_y hT (q1 0 (by omega)) (q1 1 (by omega)), mnR_y hM (q1 5 (by omega)) (q1 6 (by omega)), hY⟩
  · obtain ⟨a, b, c⟩ := h0 h
    exact ⟨okN_mono a (by omega), b, q2 1 _ _ (by omega) (by omega) c⟩
  · obtain ⟨a, b, c⟩ := h1 h
    exact ⟨okN_mono a (by omega), b, q2 2 _ _ (by omega) (by omega) c⟩
/-! numbers given to a call -/
theorem i64_ltN {p : Int32} {a : Nat} (ha : a < 2147483648) : (p.toInt64 < lN a) = (p < nI a) := by
  apply propext
  rw [Int64.lt_iff_toInt_lt, Int32.lt_iff_toInt_lt, Int32.toInt_toInt64, nI_toInt (by omega), pk_lT (by omega)]
theorem i64_gtN {p : Int32} {a : Nat} (ha : a < 2147483648) : (lN a < p.toInt64) = (nI a < p) := by
  apply propext
  rw [Int64.lt_iff_toInt_lt, Int32.lt_iff_toInt_lt, Int32.toInt_toInt64, nI_toInt (by omega), pk_lT (by omega)]
theorem p6_inI (fu : Nat) (p : Int32) {a b : Nat} (ha : a < 2147483648) (hb : b < 2147483648) : mX6_in fu p.toInt64 (lN a) (lN b) = some (if p < nI a then 0 else if nI b < p then 0 else 1) := by
  unfold mX6_in
  simp only [l32_0, l32_1, lg_ltN, lg_gtN, i64_ltN ha, i64_gtN hb]
  by_cases h1 : p < nI a
  · rw [if_pos h1, if_pos h1]
  · rw [if_neg h1, if_neg h1]
    by_cases h2 : nI b < p
    · rw [if_pos h2, if_pos h2]
    · rw [if_neg h2, if_neg h2]
/-- 0 or 1 -/
def is01 (p : Int32) : Int32 := if p < nI 0 then 0 else if nI 1 < p then 0 else 1
theorem nI_ne {a b : Nat} (ha : a < 2147483648) (hb : b < 2147483648) (h : a ≠ b) : ¬ nI a = nI b := by rw [nI_eqN ha hb]; exact h
theorem is01_c (p : Int32) : is01 p = 0 ∨ (is01 p = 1 ∧ (p = nI 0 ∨ p = nI 1)) := by
  unfold is01
  rcases pk_ix p (n := 2) (by omega) with h | h | ⟨j, h1, h2⟩
  · left; rw [if_pos (show p < nI 0 from h)]
  · by_cases h2 : p < nI 0
    · left; rw [if_pos h2]
    · left
      rw [if_neg h2, if_pos (show nI 1 < p from Int32.lt_of_lt_of_le (by decide) h)]
  · subst h2
    by_cases e : j = 0
    · subst e; exact Or.inr ⟨by decide, Or.inl rfl⟩
    · have : j = 1 := by omega
      subst this; exact Or.inr ⟨by decide, Or.inr rfl⟩
theorem p5_01 (fu : Nat) (p : Int32) : mX5_isZeroOrOne fu p = some (is01 p) := by
  unfold mX5_isZeroOrOne
  rcases is01_c p with h | ⟨h, h1 | h1⟩
  · rw [h]
    have h0 : ¬ p = 0 := by intro e; rw [e] at h; exact absurd h (by decide)
    have h1 : ¬ p = 1 := by intro e; rw [e] at h; exact absurd h (by decide)
    rw [if_neg h0, if_neg h1]
  · subst h1; rfl
  · subst h1; rfl
theorem p6_01 (fu : Nat) (p : Int32) : mX6_in fu p.toInt64 0 1 = some (is01 p) := p6_inI fu p (a := 0) (b := 1) (by omega) (by omega)
def isYr (p : Int32) : Int32 := if p < nI 1 then 0 else if nI 100 < p then 0 else 1
theorem isYr_c (p : Int32) : isYr p = 0 ∨ (isYr p = 1 ∧ ∃ n, 1 ≤ n ∧ n ≤ 100 ∧ p = nI n) := by
  unfold isYr
  rcases pk_ix p (n := 101) (by omega) with h | h | ⟨j, h1, h2⟩
  · left; rw [if_pos (Int32.lt_trans h (by decide))]
  · left
    by_cases h2 : p < nI 1
    · rw [if_pos h2]
    · rw [if_neg h2, if_pos (Int32.lt_of_lt_of_le (by decide) h)]
  · subst h2
    by_cases e : j = 0
    · subst e; exact Or.inl (by decide)
    · refine Or.inr ⟨?_, j, by omega, by omega, rfl⟩
      rw [if_neg (by rw [nI_ltN (by omega) (by omega)]; omega), if_neg (by rw [nI_ltN (by omega) (by omega)]; omega)]
theorem p5_yr (fu : Nat) (p : Int32) : mX5_isSpanOfYears fu p = some (isYr p) := by
  unfold mX5_isSpanOfYears isYr
  by_cases h1 : p < nI 1
  · rw [if_pos h1, if_pos (show p < 1 from h1)]
  · rw [if_neg h1, if_neg (show ¬ p < 1 from h1)]
    by_cases h2 : nI 100 < p
    · rw [if_pos h2, if_pos (show 100 < p from h2)]
    · rw [if_neg h2, if_neg (show ¬ 100 < p from h2)]
theorem p6_yr (fu : Nat) (p : Int32) : mX6_areYears fu p = some (isYr p) := by
  unfold mX6_areYears
  have := p6_inI fu p (a := 1) (b := 100) (by omega) (by omega)
  rw [show (1 : Int64) = lN 1 from rfl, show (100 : Int64) = lN 100 from rfl, this, bind_sm]
  show (if (isYr p) &&& 1 = isYr p then some (isYr p) else none) = _
  rcases isYr_c p with h | ⟨h, -⟩ <;> rw [h] <;> rfl
def isRt (p : Int32) : Int32 := if p < nI 1000 then 0 else if nI 99999 < p then 0 else 1
theorem isRt_c (p : Int32) : isRt p = 0 ∨ (isRt p = 1 ∧ ∃ r, 1000 ≤ r ∧ r ≤ 99999 ∧ p = nI r) := by
  unfold isRt
  rcases pk_ix p (n := 100000) (by omega) with h | h | ⟨j, h1, h2⟩
  · left; rw [if_pos (Int32.lt_trans h (by decide))]
  · left
    by_cases h2 : p < nI 1000
    · rw [if_pos h2]
    · rw [if_neg h2, if_pos (Int32.lt_of_lt_of_le (by decide) h)]
  · subst h2
    by_cases e : j < 1000
    · left; rw [if_pos (by rw [nI_ltN (by omega) (by omega)]; exact e)]
    · refine Or.inr ⟨?_, j, by omega, by omega, rfl⟩
      rw [if_neg (by rw [nI_ltN (by omega) (by omega)]; omega), if_neg (by rw [nI_ltN (by omega) (by omega)]; omega)]
theorem p5_rt (fu : Nat) (p : Int32) : mX5_isLaw fu p = some (isRt p) := by
  unfold mX5_isLaw isRt
  by_cases h1 : p < nI 1000
  · rw [if_pos h1, if_pos (show p < 1000 from h1)]
  · rw [if_neg h1, if_neg (show ¬ p < 1000 from h1)]
    by_cases h2 : nI 99999 < p
    · rw [if_pos h2, if_pos (show 99999 < p from h2)]
    · rw [if_neg h2, if_neg (show ¬ 99999 < p from h2)]
theorem p6_rt (fu : Nat) (p : Int32) : mX6_isRatio fu p = some (isRt p) := by
  unfold mX6_isRatio
  have := p6_inI fu p (a := 1000) (b := 99999) (by omega) (by omega)
  rw [show (1000 : Int64) = lN 1000 from rfl, show (99999 : Int64) = lN 99999 from rfl, this, bind_sm]
  show (if (isRt p) &&& 1 = isRt p then some (isRt p) else none) = _
  rcases isRt_c p with h | ⟨h, -⟩ <;> rw [h] <;> rfl
theorem p6_isRealmNo (fu : Nat) (y : ob_T) (p : Int32) (h : ¬ ∃ n, n < 8 ∧ p = nI n) : mX6_isRealm fu y p = some 0 := by
  unfold mX6_isRealm
  have := p6_inI fu p (a := 0) (b := 7) (by omega) (by omega)
  rw [l64_0, l64_7, this, bind_sm]
  rcases pk_ix p (n := 8) (by omega) with h1 | h1 | h1
  · rw [if_pos (show p < nI 0 from h1)]; rfl
  · by_cases h2 : p < nI 0
    · rw [if_pos h2]; rfl
    · rw [if_neg h2, if_pos (Int32.lt_of_lt_of_le (show nI 7 < nI 8 by decide) h1)]; rfl
  · exact absurd h1 h
/-- a realm that is told, or both say that it is none -/
theorem both_has (fu : Nat) {w y : ob_T} {D : sp_D} {K : Nat} (c : clW w D.1 D.2 K) (r : rfW y 0 D.1 D.2) (od : okD D) (p : Int32) : (mX4_has fu w p = some 0 ∧ mX6_isRealm fu y p = some 0) ∨ (mX4_has fu w p = some 1 ∧ mX6_isRealm fu y p = some 1 ∧ ∃ n, n < 8 ∧ p = nI n ∧ D.1 n 0 ≠ 0) := by
  by_cases h : ∃ n, n < 8 ∧ p = nI n
  · obtain ⟨n, hn, rfl⟩ := h
    rw [p4_has fu c hn, p6_isRealm fu r (okD_V od) hn]
    by_cases e : D.1 n 0 = 0
    · rw [if_pos e]; exact Or.inl ⟨rfl, rfl⟩
    · rw [if_neg e]; exact Or.inr ⟨rfl, rfl, n, hn, rfl, e⟩
  · exact Or.inl ⟨p4_hasNo fu w p h, p6_isRealmNo fu y p h⟩
