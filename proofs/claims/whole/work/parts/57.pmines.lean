/-! ===== PURE: mines ===== -/
/-- of the first m rows that of the latest year up to a, of these the last -/
def mn_pk (Y : Nat → Nat) (a : Nat) : Nat → Option Nat
  | 0 => none
  | m + 1 => if Y m ≤ a then (match mn_pk Y a m with | none => some m | some i => if Y i ≤ Y m then some m else some i) else mn_pk Y a m
def mn_at (Y : Nat → Nat) (r : Nat) : Nat → Option Nat
  | 0 => none
  | m + 1 => if Y m = r then some m else mn_at Y r m
def mn_v (A : Nat → Nat) : Option Nat → Nat
  | none => 0
  | some i => A i
theorem pk_of {Y : Nat → Nat} {a : Nat} : ∀ (m : Nat) (i : Nat), mn_pk Y a m = some i → i < m ∧ Y i ≤ a := by
  intro m
  induction m with
  | zero => intro i h; exact absurd h (by simp [mn_pk])
  | succ m ih =>
    intro i h
    unfold mn_pk at h
    by_cases e : Y m ≤ a
    · rw [if_pos e] at h
      cases hp : mn_pk Y a m with
      | none => rw [hp] at h; simp at h; subst h; exact ⟨by omega, e⟩
      | some k =>
        rw [hp] at h
        have hk := ih k hp
        simp only at h
        by_cases e2 : Y k ≤ Y m
        · rw [if_pos e2] at h; simp at h; subst h; exact ⟨by omega, e⟩
        · rw [if_neg e2] at h; simp at h; subst h; exact ⟨by omega, hk.2⟩
    · rw [if_neg e] at h
      have hk := ih i h
      exact ⟨by omega, hk.2⟩
theorem at_of {Y : Nat → Nat} {r : Nat} : ∀ (m : Nat) (i : Nat), mn_at Y r m = some i → i < m ∧ Y i = r := by
  intro m
  induction m with
  | zero => intro i h; exact absurd h (by simp [mn_at])
  | succ m ih =>
    intro i h
    unfold mn_at at h
    by_cases e : Y m = r
    · rw [if_pos e] at h; simp at h; subst h; exact ⟨by omega, e⟩
    · rw [if_neg e] at h
      have hk := ih i h
      exact ⟨by omega, hk.2⟩
theorem pk_big {Y : Nat → Nat} {a b : Nat} : ∀ (m : Nat), (∀ k, k < m → Y k ≤ a ∧ Y k ≤ b) → mn_pk Y a m = mn_pk Y b m := by
  intro m
  induction m with
  | zero => intro _; rfl
  | succ m ih =>
    intro h
    unfold mn_pk
    rw [ih (fun k hk => h k (by omega)), if_pos (h m (by omega)).1, if_pos (h m (by omega)).2]
theorem pk_at {Y : Nat → Nat} {r : Nat} : ∀ (m : Nat), mn_pk Y r m = match mn_at Y r m with | some i => some i | none => if r = 0 then none else mn_pk Y (r - 1) m := by
  intro m
  induction m with
  | zero => unfold mn_pk mn_at; simp
  | succ m ih =>
    by_cases e : Y m = r
    · have h1 : mn_at Y r (m + 1) = some m := by unfold mn_at; rw [if_pos e]
      rw [h1]
      unfold mn_pk
      rw [if_pos (by omega)]
      cases hp : mn_pk Y r m with
      | none => rfl
      | some k =>
        have := (pk_of m k hp).2
        simp only
        rw [if_pos (by omega)]
    · have h1 : mn_at Y r (m + 1) = mn_at Y r m := by rw [mn_at, if_neg e]
      rw [h1]
      by_cases e2 : Y m ≤ r
      · have e3 : Y m ≤ r - 1 := by omega
        have e4 : ¬ r = 0 := by omega
        rw [mn_pk, if_pos e2, ih]
        cases ha : mn_at Y r m with
        | none =>
          simp only [if_neg e4]
          rw [mn_pk, if_pos e3]
        | some k =>
          have := (at_of m k ha).2
          simp only
          rw [if_neg (by omega)]
      · rw [mn_pk, if_neg e2, ih]
        cases ha : mn_at Y r m with
        | none =>
          by_cases e4 : r = 0
          · simp only [if_pos e4]
          · simp only [if_neg e4]
            rw [mn_pk, if_neg (by omega)]
        | some k => rfl
/-- the reference's list: m rows at o -/
def mnL (y : ob_T) (o m : Nat) (Y A B : Nat → Nat) : Prop := ∀ k, k < m → (Y k ≤ 99 ∧ A k ≤ 9999 ∧ B k ≤ 9999) ∧ y.1 6 (o + 3 * k) = nI (Y k) ∧ y.1 6 (o + 3 * k + 1) = nI (A k) ∧ y.1 6 (o + 3 * k + 2) = nI (B k)
/-- the class's rows against the reference's list -/
def mnR (v y : ob_T) : Prop := ∃ (m : Nat) (Y A B : Nat → Nat), m < 60 ∧ y.1 5 0 = nI m ∧ mnL y 0 m Y A B ∧ ∀ r, r < 100 → v.1 1 r = nI (mn_v A (mn_pk Y r m)) ∧ v.1 2 r = nI (mn_v B (mn_pk Y r m))
def mn_M (M : Nat → Nat) (g s : Nat) : Nat → Nat := fun f => if f = 0 then M 0 + g else if f = 1 then M 1 + 1000 * s else M f
theorem mn_v_le {Y A : Nat → Nat} {a m : Nat} (h : ∀ k, k < m → A k ≤ 9999) : mn_v A (mn_pk Y a m) ≤ 9999 := by
  cases e : mn_pk Y a m with
  | none => exact Nat.zero_le _
  | some i => exact h i (pk_of m i e).1
theorem pk_clamp {Y : Nat → Nat} {a m : Nat} (h : ∀ k, k < m → Y k ≤ 99) : mn_pk Y (if 99 < a then 99 else a) m = mn_pk Y a m := by
  by_cases e : 99 < a
  · rw [if_pos e]
    exact pk_big m (fun k hk => by have := h k hk; omega)
  · rw [if_neg e]
theorem p0_bringTo (fu : Nat) {v y w : ob_T} {D : sp_D} {K m : Nat} {Y A B : Nat → Nat} (hc : clW w D.1 D.2 K) (oK : okK K) (oM : okM D.2) (hL : mnL y 0 m Y A B) (hR : ∀ r, r < 100 → v.1 1 r = nI (mn_v A (mn_pk Y r m)) ∧ v.1 2 r = nI (mn_v B (mn_pk Y r m))) (oM' : okM (mn_M D.2 (mn_v A (mn_pk Y (D.2 2) m)) (mn_v B (mn_pk Y (D.2 2) m)))) : ∃ w', mX0_bringTo fu v w = some w' ∧ clW w' D.1 (mn_M D.2 (mn_v A (mn_pk Y (D.2 2) m)) (mn_v B (mn_pk Y (D.2 2) m))) K := by
  obtain ⟨a0, a1, a2, a3, a4⟩ := hc.2.2
  have q2 := oM.2.2
  have hb := hR (if 99 < D.2 2 then 99 else D.2 2) (by split <;> omega)
  rw [pk_clamp (fun k hk => (hL k hk).1.1)] at hb
  have hA := mn_v_le (Y := Y) (A := A) (a := D.2 2) (m := m) (fun k hk => (hL k hk).1.2.1)
  have hB := mn_v_le (Y := Y) (A := B) (a := D.2 2) (m := m) (fun k hk => (hL k hk).1.2.2)
  generalize hg : mn_v A (mn_pk Y (D.2 2) m) = g at hb hA oM' ⊢
  generalize hs : mn_v B (mn_pk Y (D.2 2) m) = s at hb hB oM' ⊢
  have hx : (if (0 : Int32) < (if (99 : Int32) < (w.1 16 0) then (99 : Int32) else (w.1 16 0)) then (if (99 : Int32) < (w.1 16 0) then (99 : Int32) else (w.1 16 0)) else (0 : Int32)) = nI (if 99 < D.2 2 then 99 else D.2 2) := by
    rw [a4, l32_99, l32_0]
    simp (disch := omega) only [nI_ltN]
    by_cases e : 99 < D.2 2
    · simp only [if_pos e]; rfl
    · simp only [if_neg e]
      simp (disch := omega) only [nI_ltN]
      by_cases e2 : 0 < D.2 2
      · rw [if_pos e2]
      · rw [if_neg e2, show D.2 2 = 0 by omega]
  unfold mX0_bringTo
  rw [bnd_eq, hx, l32_0, l64_1000]
  have hlt : (if 99 < D.2 2 then 99 else D.2 2) < 100 := by split <;> omega
  generalize hr : (if 99 < D.2 2 then 99 else D.2 2) = r at hb hlt ⊢
  simp (disch := omega) only [↓ix_no, ↓reduceIte, nI_clN, hb.1, hb.2, nI_toL, bnd_eq, a0, lN_addN, lN_mulN]
  have eW := p4_weigh fu (M := mn_M D.2 g s) (K := K) (w := ob_L (ob_L w 12 fun _ => lN (D.2 0 + g)) 13 fun _ => (ob_L w 12 fun _ => lN (D.2 0 + g)).2 13 0 + lN (1000 * s)) rfl (by show w.2 13 0 + lN (1000 * s) = _; rw [a1, lN_addN]; rfl) a2 oM' oK
  rw [eW]
  refine ⟨_, rfl, ⟨hc.1, hc.2.1, rfl, ?_, a2, rfl, a4⟩⟩
  show w.2 13 0 + lN (1000 * s) = _
  rw [a1, lN_addN]; rfl
def mn_I : Option Nat → Int32
  | none => -4
  | some i => nI i
theorem mn_I_no {i : Nat} (h : i < 1000) : ¬ nI i = (-4 : Int32) := by
  intro e
  have h1 : nI 0 ≤ nI i := by rw [nI_leN (by omega) (by omega)]; omega
  rw [e] at h1
  exact absurd h1 (by decide)
theorem p6_bring_loop (fu : Nat) {y : ob_T} {V : Nat → Nat → Nat} {M : Nat → Nat} {m : Nat} {Y A B : Nat → Nat} (hm : m < 60) (h5 : y.1 5 0 = nI m) (hL : mnL y 0 m Y A B) (hW : rfW y 0 V M) (oM : okM M) : ∀ (j : Nat), j ≤ m → ∀ (nn : Nat), j < nn → ∃ y', bX6_goYear_5 fu nn y (mn_I (mn_pk Y (M 2) (m - j))) (nI (m - j)) = bX6_goYear_121 fu y' ∧ rfW y' 0 V (mn_M M (mn_v A (mn_pk Y (M 2) m)) (mn_v B (mn_pk Y (M 2) m))) ∧ rfY y y' := by
  have m0 : y.2 3 0 = lN (M 0) := hW.2 0 (by omega)
  have m1 : y.2 3 1 = lN (M 1) := hW.2 1 (by omega)
  have m2 : y.2 3 2 = lN (M 2) := hW.2 2 (by omega)
  have q2 := oM.2.2
  intro j
  induction j with
  | zero =>
    intro _ nn hnn
    obtain ⟨q, rfl⟩ : ∃ q, nn = q + 1 := ⟨nn - 1, by omega⟩
    rw [Nat.sub_zero, bX6_goYear_5_s]
    simp only [l32_0, l32_1, l32_2, l32_3, l64_1000]
    simp (disch := omega) only [↓ix_no, ↓reduceIte, nI_clN, h5, nI_leN, Nat.le_refl]
    cases e : mn_pk Y (M 2) m with
    | none =>
      rw [show mn_I none = -4 from rfl, if_pos rfl]
      refine ⟨y, rfl, ⟨hW.1, fun f hf => ?_⟩, rfY_rf⟩
      rw [hW.2 f hf]
      unfold mn_M mn_v
      by_cases e0 : f = 0
      · rw [if_pos e0, e0]; rfl
      · by_cases e1 : f = 1
        · rw [if_neg e0, if_pos e1, e1]; rfl
        · rw [if_neg e0, if_neg e1]
    | some i =>
      have hi := (pk_of m i e).1
      obtain ⟨⟨k1, k2, k3⟩, k4, k5, k6⟩ := hL i hi
      rw [Nat.zero_add] at k4 k5 k6
      rw [show mn_I (some i) = nI i from rfl, if_neg (mn_I_no (by omega))]
      simp only [nI_mulN, nI_addN]
      simp (disch := omega) only [↓ix_no, ↓reduceIte, nI_clN, k5, m0, bnd_eq, nI_toL, lN_addN]
      have u1 : (ob_L y 3 (vp_updL (y.2 3) 0 (lN (M 0 + A i)))).2 3 1 = lN (M 1) := by rw [obL_2, if_pos rfl, updL_at, if_neg (by omega)]; exact m1
      have u2 : (ob_L y 3 (vp_updL (y.2 3) 0 (lN (M 0 + A i)))).1 6 (3 * i + 2) = nI (B i) := k6
      rw [u1, u2, nI_toL (by omega), lN_mulN, lN_addN]
      have r1 := rf_upd3 (rf_upd3 hW 0 (M 0 + A i)) 1 (M 1 + 1000 * B i)
      refine ⟨_, rfl, ?_, rfY_tr (rfY_upd3 (by omega) _) (rfY_upd3 (by omega) _)⟩
      have e3 : (fun g => if g = 1 then M 1 + 1000 * B i else if g = 0 then M 0 + A i else M g) = mn_M M (A i) (B i) := by
        funext g
        unfold mn_M
        by_cases z0 : g = 0
        · subst z0; simp
        · simp [z0]
      rw [e3] at r1
      exact r1
  | succ j ih =>
    intro hj nn hnn
    obtain ⟨q, rfl⟩ : ∃ q, nn = q + 1 := ⟨nn - 1, by omega⟩
    have hk : m - (j + 1) < m := by omega
    have hk1 : m - j = m - (j + 1) + 1 := by omega
    have IH := ih (by omega) q (by omega)
    rw [hk1] at IH
    generalize m - (j + 1) = k at hk IH
    obtain ⟨⟨k1, k2, k3⟩, k4, k5, k6⟩ := hL k hk
    rw [Nat.zero_add] at k4 k5 k6
    rw [bX6_goYear_5_s]
    simp only [l32_0, l32_1, l32_2, l32_3, l64_1000, nI_mulN, bX6_goYear_64, bnd_eq, nI_addN]
    simp (disch := omega) only [↓ix_no, ↓reduceIte, nI_clN, h5, nI_leN, k4, m2, nI_toL, lg_gtN, lN_ltN]
    rw [if_neg (by omega)]
    by_cases e : Y k ≤ M 2
    · rw [if_neg (by omega)]
      cases hp : mn_pk Y (M 2) k with
      | none =>
        have e2 : mn_pk Y (M 2) (k + 1) = some k := by rw [mn_pk, if_pos e, hp]
        rw [e2] at IH
        rw [show mn_I none = -4 from rfl, if_pos rfl]
        exact IH
      | some i =>
        have hi := pk_of k i hp
        obtain ⟨⟨i1, i2, i3⟩, i4, i5, i6⟩ := hL i (by omega)
        rw [Nat.zero_add] at i4
        rw [show mn_I (some i) = nI i from rfl, if_neg (mn_I_no (by omega))]
        simp only [nI_mulN]
        simp (disch := omega) only [↓ix_no, ↓reduceIte, nI_clN, i4, nI_ltN]
        by_cases e3 : Y i ≤ Y k
        · have e2 : mn_pk Y (M 2) (k + 1) = some k := by rw [mn_pk, if_pos e, hp]; simp only [if_pos e3]
          rw [e2] at IH
          rw [if_neg (by omega)]
          exact IH
        · have e2 : mn_pk Y (M 2) (k + 1) = some i := by rw [mn_pk, if_pos e, hp]; simp only [if_neg e3]
          rw [e2] at IH
          rw [if_pos (by omega)]
          exact IH
    · have e2 : mn_pk Y (M 2) (k + 1) = mn_pk Y (M 2) k := by rw [mn_pk, if_neg e]
      rw [e2] at IH
      rw [if_pos (by omega)]
      exact IH
