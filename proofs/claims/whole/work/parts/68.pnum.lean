/-! ===== PURE: numbers of a text ===== -/
def rdR (len : Nat) (T : Nat → Nat) (t y : ob_T) : Prop := len ≤ 400 ∧ t.1 1 0 = nI len ∧ y.1 0 0 = nI len ∧ ∀ k, k < len → T k < 256 ∧ t.1 0 k = sgn (T k) ∧ y.1 1 k = nI (T k)
def ch (len : Nat) (T : Nat → Nat) (k : Nat) : Nat := if k < len then T k else 0
def dg (c : Nat) : Prop := 48 ≤ c ∧ c ≤ 57
theorem ch_lt {len : Nat} {T : Nat → Nat} {t y : ob_T} (h : rdR len T t y) (k : Nat) : ch len T k < 256 := by
  unfold ch
  split
  · rename_i q; exact (h.2.2.2 k q).1
  · omega
theorem p6_byteAt (fu : Nat) {len : Nat} {T : Nat → Nat} {t y : ob_T} (h : rdR len T t y) {a : Nat} (ha : a < 100000) : mX6_byteAt fu y (nI a) = some (nI (ch len T a)) := by
  have hl := h.1
  unfold mX6_byteAt ch
  rw [h.2.2.1]
  simp (disch := omega) only [nI_leN]
  by_cases e : a < len
  · rw [if_neg (by omega), if_pos e]
    simp (disch := omega) only [↓ix_no0, ↓reduceIte, nI_clN, (h.2.2.2 a e).2.2]
  · rw [if_pos (by omega), if_neg e]; rfl
theorem fig_dec : ∀ c, c < 256 → mX2_isFigure 0 (sgn c) = some (if 48 ≤ c ∧ c ≤ 57 then 1 else 0) := by decide +kernel
theorem p2_fig (fu : Nat) {c : Nat} (h : c < 256) : mX2_isFigure fu (sgn c) = some (if 48 ≤ c ∧ c ≤ 57 then 1 else 0) := fig_dec c h
theorem sgn_lo : ∀ c, c < 128 → sgn c = nI c := by decide +kernel
theorem sgn_eq : ∀ c, c < 256 → ∀ s, s < 128 → (sgn c = nI s ↔ c = s) := by decide +kernel
theorem p6_inD (fu : Nat) {c : Nat} (h : c < 256) : mX6_in fu (nI c).toInt64 48 57 = some (if 48 ≤ c ∧ c ≤ 57 then 1 else 0) := by
  have := p6_inI fu (nI c) (a := 48) (b := 57) (by omega) (by omega)
  rw [show (48 : Int64) = lN 48 from rfl, show (57 : Int64) = lN 57 from rfl, this]
  simp (disch := omega) only [nI_ltN]
  congr 1
  repeat' split
  all_goals first | rfl | (exfalso; omega)
/-- only the place has changed -/
def kp8 (y y' : ob_T) : Prop := y'.2 = y.2 ∧ ∀ f, f ≠ 8 → y'.1 f = y.1 f
/-- only the place and the numbers -/
def kp9 (y y' : ob_T) : Prop := y'.2 = y.2 ∧ ∀ f, f ≠ 8 → f ≠ 9 → y'.1 f = y.1 f
theorem kp9_rf {y : ob_T} : kp9 y y := ⟨rfl, fun _ _ _ => rfl⟩
theorem kp9_tr {a b c : ob_T} (h : kp9 a b) (g : kp9 b c) : kp9 a c := ⟨g.1.trans h.1, fun f p q => (g.2 f p q).trans (h.2 f p q)⟩
theorem kp8_rf {y : ob_T} : kp8 y y := ⟨rfl, fun _ _ => rfl⟩
theorem kp8_tr {a b c : ob_T} (h : kp8 a b) (g : kp8 b c) : kp8 a c := ⟨g.1.trans h.1, fun f p => (g.2 f p).trans (h.2 f p)⟩
theorem kp8_9 {a b : ob_T} (h : kp8 a b) : kp9 a b := ⟨h.1, fun f p _ => h.2 f p⟩
theorem kp8_o (y : ob_T) (x : Int32) : kp8 y (ob_I y 8 (fun _ => x)) := ⟨rfl, fun f hf => by show (if f = 8 then _ else y.1 f) = _; rw [if_neg hf]⟩
theorem kp9_o (y : ob_T) (g : Nat → Int32) : kp9 y (ob_I y 9 g) := ⟨rfl, fun f _ hf => by show (if f = 9 then _ else y.1 f) = _; rw [if_neg hf]⟩
theorem rdR_9 {len : Nat} {T : Nat → Nat} {t y y' : ob_T} (h : rdR len T t y) (k : kp9 y y') : rdR len T t y' := by
  unfold rdR at *
  rw [k.2 0 (by omega) (by omega), k.2 1 (by omega) (by omega)]
  exact h
theorem num_loop (fu : Nat) {len : Nat} {T : Nat → Nat} {t : ob_T} (k2 : ob_T → Int32 → Int32 → Option (Int32 × ob_T)) (l1 : Int32) {i : Nat} : ∀ (j : Nat), j ≤ 5 → ∀ (nn nn' : Nat) (r y : ob_T) (a v : Nat), j < nn → j + 1 < nn' → rdR len T t y → a ≤ len → r.1 3 0 = nI a → y.1 8 0 = nI a → v < 10 ^ (5 - j) →
    ∃ (n' v' a' : Nat) (r' y' : ob_T), 5 - j ≤ n' ∧ n' ≤ 5 ∧ v' < 100000 ∧ a' = a + (n' - (5 - j)) ∧ a' ≤ len ∧ bX2_readNumber_5 fu t nn r (nI i) (nI (5 - j)) (nI v) = bX2_readNumber_72 fu t r' (nI i) (nI n') (nI v') ∧ r'.1 3 0 = nI a' ∧ (∀ f, f ≠ 3 → r'.1 f = r.1 f) ∧ y'.1 8 0 = nI a' ∧ kp8 y y' ∧ ((¬ dg (ch len T a') ∧ bX6_figures_12 fu k2 nn' y l1 (nI i) (nI (5 - j)) (nI v) = bX6_figures_74 fu k2 y' l1 (nI i) (nI n') (nI v')) ∨ (dg (ch len T a') ∧ ∃ y'', kp8 y y'' ∧ bX6_figures_12 fu k2 nn' y l1 (nI i) (nI (5 - j)) (nI v) = some (0, y''))) := by
  have six : ∀ (w : ob_T) (x : Int32), bX6_figures_74 fu k2 w l1 (nI i) (nI 6) x = some (0, w) := by
    intro w x
    unfold bX6_figures_74
    have := p6_inI fu (nI 6) (a := 1) (b := 5) (by omega) (by omega)
    rw [show (1 : Int64) = lN 1 from rfl, show (5 : Int64) = lN 5 from rfl, this, bind_sm]
    rfl
  intro j
  induction j with
  | zero =>
    intro _ nn nn' r y a v hnn hnn' hr hal ra ya hv
    obtain ⟨q, rfl⟩ : ∃ q, nn = q + 1 := ⟨nn - 1, by omega⟩
    obtain ⟨q', rfl⟩ : ∃ q, nn' = q + 2 := ⟨nn' - 2, by omega⟩
    have hl := hr.1
    have hc := ch_lt hr a
    refine ⟨5, v, a, r, y, by omega, by omega, hv, by omega, hal, ?_, ra, fun _ _ => rfl, ya, kp8_rf, ?_⟩
    · rw [bX2_readNumber_5_s, if_pos (by decide)]
    · by_cases e : 48 ≤ ch len T a ∧ ch len T a ≤ 57
      · refine Or.inr ⟨e, ?_⟩
        rw [bX6_figures_12_s, ya, p6_byteAt fu hr (by omega), bind_sm, p6_inD fu hc, bind_sm, if_pos e, if_neg (by decide), if_neg (by decide), bind_sm, bnd_eq, bnd_eq, bnd_eq]
        have k8 := kp8_o y (y.1 8 0 + 1)
        have hr2 := rdR_9 hr (kp8_9 k8)
        have ya2 : (ob_I y 8 (fun _ => y.1 8 0 + 1)).1 8 0 = nI (a + 1) := by show y.1 8 0 + 1 = _; rw [ya, l32_1, nI_addN]
        have hc2 := ch_lt hr2 (a + 1)
        rw [ya] at ya2 k8 hr2
        refine ⟨ob_I y 8 (fun _ => nI a + 1), k8, ?_⟩
        rw [bX6_figures_12_s, ya2, p6_byteAt fu hr2 (by omega), bind_sm, p6_inD fu hc2, bind_sm]
        have e6 : nI (5 - 0) + (1 : Int32) = nI 6 := by decide
        rw [e6, six]
        by_cases e2 : 48 ≤ ch len T (a + 1) ∧ ch len T (a + 1) ≤ 57
        · rw [if_pos e2, if_neg (by decide), if_pos (by decide)]
        · rw [if_neg e2, if_pos rfl]
      · refine Or.inl ⟨e, ?_⟩
        rw [bX6_figures_12_s, ya, p6_byteAt fu hr (by omega), bind_sm, p6_inD fu hc, bind_sm, if_neg e, if_pos rfl]
  | succ j ih =>
    intro hj nn nn' r y a v hnn hnn' hr hal ra ya hv
    obtain ⟨q, rfl⟩ : ∃ q, nn = q + 1 := ⟨nn - 1, by omega⟩
    obtain ⟨q', rfl⟩ : ∃ q, nn' = q + 1 := ⟨nn' - 1, by omega⟩
    have hl := hr.1
    have hc := ch_lt hr a
    have IH := ih (by omega) q q'
    rw [show 5 - j = 5 - (j + 1) + 1 by omega] at IH
    have hn : 5 - (j + 1) < 5 := by omega
    generalize 5 - (j + 1) = n at hn hv IH
    have hpow : 10 ^ (n + 1) = 10 * 10 ^ n := by rw [Nat.pow_succ, Nat.mul_comm]
    have hpl : 10 ^ (n + 1) ≤ 10 ^ 5 := Nat.pow_le_pow_right (by omega) (by omega)
    have h105 : 10 ^ 5 = 100000 := by decide
    have n5 : ¬ ((5 : Int32) ≤ nI n) := by rw [l32_5, nI_leN (by omega) (by omega)]; omega
    have n6 : ¬ ((6 : Int32) ≤ nI n) := by rw [l32_6, nI_leN (by omega) (by omega)]; omega
    by_cases e : 48 ≤ ch len T a ∧ ch len T a ≤ 57
    · have hal2 : a < len := by
        rcases Nat.lt_or_ge a len with g | g
        · exact g
        · unfold ch at e; rw [if_neg (by omega)] at e; omega
      have hT := hr.2.2.2 a hal2
      have ec : ch len T a = T a := by unfold ch; rw [if_pos hal2]
      rw [ec] at e
      have ts : t.1 0 a = nI (T a) := by rw [hT.2.1, sgn_lo _ (by omega)]
      have k8 := kp8_o y (nI (a + 1))
      obtain ⟨n', v', a', r', y', g1, g2, g3, g4, g5, g6, g7, g8, g9, g10, g11⟩ := IH (ob_I r 3 (fun _ => nI (a + 1))) (ob_I y 8 (fun _ => nI (a + 1))) (a + 1) (10 * v + (T a - 48)) (by omega) (by omega) (rdR_9 hr (kp8_9 k8)) (by omega) rfl rfl (by omega)
      refine ⟨n', v', a', r', y', by omega, g2, g3, by omega, g5, ?_, g7, fun f hf => ?_, g9, kp8_tr k8 g10, ?_⟩
      · rw [bX2_readNumber_5_s, if_neg n5, ra, hr.2.1, if_neg (by rw [nI_leN (by omega) (by omega)]; omega)]
        simp (disch := omega) only [↓ix_no0, ↓reduceIte, nI_clN]
        rw [hT.2.1, p2_fig fu hT.1, bind_sm, if_pos e, if_neg (by decide), ← hT.2.1, ts]
        simp only [bnd_eq, l32_10, l32_1, show (48 : Int32) = nI 48 from rfl, nI_mulN]
        rw [nI_subN e.1, nI_addN, nI_addN, nI_addN, show v * 10 + (T a - 48) = 10 * v + (T a - 48) by omega]
        exact g6
      · rw [g8 f hf]
        show (if f = 3 then _ else r.1 f) = _
        rw [if_neg hf]
      · have step : bX6_figures_12 fu k2 (q' + 1) y l1 (nI i) (nI n) (nI v) = bX6_figures_12 fu k2 q' (ob_I y 8 (fun _ => nI (a + 1))) l1 (nI i) (nI (n + 1)) (nI (10 * v + (T a - 48))) := by
          rw [bX6_figures_12_s, ya, p6_byteAt fu hr (by omega), bind_sm, p6_inD fu hc, bind_sm, ec, if_pos e, if_neg (by decide), if_neg n6, bind_sm]
          simp only [bnd_eq, l32_10, l32_1, show (48 : Int32) = nI 48 from rfl, nI_mulN, nI_addN]
          rw [nI_subN (by omega), show 10 * v + T a - 48 = 10 * v + (T a - 48) by omega]
        rw [step]
        rcases g11 with ⟨h1, h2⟩ | ⟨h1, y'', h2, h3⟩
        · exact Or.inl ⟨h1, h2⟩
        · exact Or.inr ⟨h1, y'', kp8_tr k8 h2, h3⟩
    · refine ⟨n, v, a, r, y, by omega, by omega, by omega, by omega, hal, ?_, ra, fun _ _ => rfl, ya, kp8_rf, Or.inl ⟨e, ?_⟩⟩
      · rw [bX2_readNumber_5_s, if_neg n5, ra, hr.2.1]
        by_cases hal2 : a < len
        · have hT := hr.2.2.2 a hal2
          have ec : ch len T a = T a := by unfold ch; rw [if_pos hal2]
          rw [ec] at e
          rw [if_neg (by rw [nI_leN (by omega) (by omega)]; omega)]
          simp (disch := omega) only [↓ix_no0, ↓reduceIte, nI_clN]
          rw [hT.2.1, p2_fig fu hT.1, bind_sm, if_neg e, if_pos rfl]
        · rw [if_pos (by rw [nI_leN (by omega) (by omega)]; omega)]
      · rw [bX6_figures_12_s, ya, p6_byteAt fu hr (by omega), bind_sm, p6_inD fu hc, bind_sm, if_neg e, if_pos rfl]
/-- one number, and the sign behind it -/
theorem num_one (fu : Nat) (hfu : 100 ≤ fu) {len : Nat} {T : Nat → Nat} {t r y : ob_T} (kc : ob_T → Int32 → Int32 → Option (Int32 × ob_T)) (kr : ob_T → Int32 → Int32 → Option (Int32 × ob_T)) {i due s a : Nat} (hi : i < due) (hd : due ≤ 7) (hs : s = if due ≤ i + 1 then 59 else 44) (hr : rdR len T t y) (hal : a ≤ len) (ra : r.1 3 0 = nI a) (ya : y.1 8 0 = nI a) :
    ∃ r' y', kp9 y y' ∧ ((∃ a' v, a + 2 ≤ a' ∧ a' ≤ len ∧ v ≤ 99999 ∧ bX2_readNumbers_27 fu t kc r (nI due) (nI i) (nI s) = kc r' (nI due) (nI (i + 1)) ∧ bX6_figures_12 fu kr fu y (nI due) (nI i) 0 0 = kr y' (nI due) (nI (i + 1)) ∧ r'.1 3 0 = nI a' ∧ y'.1 8 0 = nI a' ∧ r'.1 2 = upd (r.1 2) i (nI v) ∧ y'.1 9 = upd (y.1 9) i (nI v)) ∨ (bX2_readNumbers_27 fu t kc r (nI due) (nI i) (nI s) = some (0, r') ∧ bX6_figures_12 fu kr fu y (nI due) (nI i) 0 0 = some (0, y'))) := by
  have hl := hr.1
  obtain ⟨n', v', a', r', y', g1, g2, g3, g4, g5, g6, g7, g8, g9, g10, g11⟩ := num_loop fu kr (nI due) (i := i) 5 (by omega) fu fu r y a 0 (by omega) (by omega) hr hal ra ya (by decide)
  rw [show 5 - 5 = 0 by omega] at g1 g4 g6 g11
  have hs7 : s = 59 ∨ s = 44 := by rw [hs]; split <;> omega
  have hrd : mX2_readNumber fu r t (nI i) = some (if n' = 0 then 0 else 1, ob_I r' 2 (upd (r'.1 2) i (nI v'))) := by
    unfold mX2_readNumber
    refine g6.trans ?_
    unfold bX2_readNumber_72
    simp (disch := omega) only [↓ix_no0, ↓reduceIte, nI_clN, bnd_eq]
    by_cases e : n' = 0
    · rw [if_pos (by rw [e]; decide), if_pos e]
    · rw [if_neg (by rw [l32_0, nI_leN (by omega) (by omega)]; omega), if_neg e]
  have h10 := kp8_9 g10
  have hr2 := rdR_9 hr h10
  have hc := ch_lt hr2 a'
  unfold bX2_readNumbers_27
  rw [hrd, bind_sm]
  have hsg : mX2_readSign fu (ob_I r' 2 (upd (r'.1 2) i (nI v'))) t (nI s) = if ch len T a' = s then some (1, ob_I (ob_I r' 2 (upd (r'.1 2) i (nI v'))) 3 (fun _ => nI (a' + 1))) else some (0, ob_I r' 2 (upd (r'.1 2) i (nI v'))) := by
    unfold mX2_readSign
    have e3 : (ob_I r' 2 (upd (r'.1 2) i (nI v'))).1 3 0 = nI a' := g7
    rw [e3, hr.2.1]
    by_cases hal2 : a' < len
    · have hT := hr.2.2.2 a' hal2
      have ec : ch len T a' = T a' := by unfold ch; rw [if_pos hal2]
      rw [if_neg (by rw [nI_leN (by omega) (by omega)]; omega), ec]
      simp (disch := omega) only [↓ix_no0, ↓reduceIte, nI_clN, bnd_eq, l32_1, nI_addN, hT.2.1]
      have hiff := sgn_eq (T a') hT.1 s (by omega)
      by_cases e : T a' = s
      · rw [if_pos (hiff.mpr e), if_pos e]
      · rw [if_neg (fun h => e (hiff.mp h)), if_neg e]
    · have ec : ch len T a' = 0 := by unfold ch; rw [if_neg hal2]
      rw [if_pos (by rw [nI_leN (by omega) (by omega)]; omega), ec, if_neg (by omega)]
  rcases g11 with ⟨h1, h2⟩ | ⟨h1, y'', h2, h3⟩
  · by_cases en : n' = 0
    · -- no figure
      refine ⟨ob_I r' 2 (upd (r'.1 2) i (nI v')), y', h10, Or.inr ⟨?_, ?_⟩⟩
      · rw [if_pos en, if_pos rfl]
      · refine h2.trans ?_
        unfold bX6_figures_74
        rw [en]
        have := p6_inI fu (nI 0) (a := 1) (b := 5) (by omega) (by omega)
        rw [show (1 : Int64) = lN 1 from rfl, show (5 : Int64) = lN 5 from rfl, this, bind_sm]
        rfl
    · have h74 : bX6_figures_74 fu kr y' (nI due) (nI i) (nI n') (nI v') = bX6_figures_108 fu kr y' (nI due) (nI i) (nI v') (nI s) (nI (ch len T a')) := by
        unfold bX6_figures_74
        have := p6_inI fu (nI n') (a := 1) (b := 5) (by omega) (by omega)
        rw [show (1 : Int64) = lN 1 from rfl, show (5 : Int64) = lN 5 from rfl, this, bind_sm, if_neg (show ¬ nI n' < nI 1 by rw [nI_ltN (by omega) (by omega)]; omega), if_neg (show ¬ nI 5 < nI n' by rw [nI_ltN (by omega) (by omega)]; omega), if_neg (show ¬ ((1 : Int32) = 0) by decide), g9, p6_byteAt fu hr2 (by omega), bind_sm, l32_1, nI_subN (by omega)]
        by_cases e : due ≤ i + 1
        · rw [if_pos (by rw [nI_leN (by omega) (by omega)]; omega), hs, if_pos e]; rfl
        · rw [if_neg (by rw [nI_leN (by omega) (by omega)]; omega), hs, if_neg e]; rfl
      rw [if_neg en]
      simp only
      rw [if_neg (show ¬ ((1 : Int32) = 0) by decide), hsg]
      by_cases es : ch len T a' = s
      · have hal2 : a' < len := by
          rcases Nat.lt_or_ge a' len with g | g
          · exact g
          · unfold ch at es; rw [if_neg (by omega)] at es; omega
        rw [if_pos es, bind_sm]
        simp only
        rw [if_neg (by decide), bnd_eq, l32_1, nI_addN]
        refine ⟨ob_I (ob_I r' 2 (upd (r'.1 2) i (nI v'))) 3 (fun _ => nI (a' + 1)), ob_I (ob_I y' 9 (upd (y'.1 9) i (nI v'))) 8 (fun _ => nI (a' + 1)), ?_, Or.inl ⟨a' + 1, v', by omega, by omega, by omega, rfl, ?_, rfl, rfl, ?_, ?_⟩⟩
        · exact kp9_tr h10 (kp9_tr (kp9_o _ _) (kp8_9 (kp8_o _ _)))
        · refine h2.trans (h74.trans ?_)
          unfold bX6_figures_108
          rw [if_pos (by rw [es])]
          simp (disch := omega) only [↓ix_no0, ↓reduceIte, nI_clN, bnd_eq, l32_1, nI_addN]
          have e8 : (ob_I y' 9 (upd (y'.1 9) i (nI v'))).1 8 0 = nI a' := g9
          rw [e8, nI_addN]
        · show upd (r'.1 2) i (nI v') = _
          rw [g8 2 (by omega)]
        · show upd (y'.1 9) i (nI v') = _
          rw [g10.2 9 (by omega)]
      · rw [if_neg es, bind_sm]
        refine ⟨_, y', h10, Or.inr ⟨rfl, ?_⟩⟩
        refine h2.trans (h74.trans ?_)
        unfold bX6_figures_108
        rw [if_neg (by rw [nI_eqN (by omega) (by omega)]; exact es)]
  · -- a sixth figure
    have es : ¬ ch len T a' = s := by
      unfold dg at h1
      omega
    refine ⟨ob_I r' 2 (upd (r'.1 2) i (nI v')), y'', kp8_9 h2, Or.inr ⟨?_, h3⟩⟩
    by_cases en : n' = 0
    · rw [if_pos en, if_pos rfl]
    · rw [if_neg en]
      simp only
      rw [if_neg (show ¬ ((1 : Int32) = 0) by decide), hsg, if_neg es, bind_sm]
      rfl
theorem num_all (fu : Nat) (hfu : 100 ≤ fu) {len : Nat} {T : Nat → Nat} {t : ob_T} {due : Nat} (hd : due ≤ 7) : ∀ (j : Nat), j ≤ due → ∀ (nn nn' : Nat) (r y : ob_T) (a : Nat), j < nn → j < nn' → rdR len T t y → a ≤ len → r.1 3 0 = nI a → y.1 8 0 = nI a → (∀ q, q < due - j → ∃ v, v ≤ 99999 ∧ r.1 2 q = nI v ∧ y.1 9 q = nI v) →
    ∃ r' y', kp9 y y' ∧ ((∃ a', a + 2 * j ≤ a' ∧ a' ≤ len ∧ bX2_readNumbers_2 fu t nn r (nI due) (nI (due - j)) = some (1, r') ∧ bX6_figures_2 fu nn' y (nI due) (nI (due - j)) = some (1, y') ∧ r'.1 3 0 = nI a' ∧ y'.1 8 0 = nI a' ∧ ∀ q, q < due → ∃ v, v ≤ 99999 ∧ r'.1 2 q = nI v ∧ y'.1 9 q = nI v) ∨ (bX2_readNumbers_2 fu t nn r (nI due) (nI (due - j)) = some (0, r') ∧ bX6_figures_2 fu nn' y (nI due) (nI (due - j)) = some (0, y'))) := by
  intro j
  induction j with
  | zero =>
    intro _ nn nn' r y a hnn hnn' hr hal ra ya hN
    obtain ⟨q, rfl⟩ : ∃ q, nn = q + 1 := ⟨nn - 1, by omega⟩
    obtain ⟨q', rfl⟩ : ∃ q, nn' = q + 1 := ⟨nn' - 1, by omega⟩
    refine ⟨r, y, kp9_rf, Or.inl ⟨a, by omega, hal, ?_, ?_, ra, ya, fun q hq => hN q (by omega)⟩⟩
    · rw [bX2_readNumbers_2_s, if_pos (by rw [nI_leN (by omega) (by omega)]; omega)]
    · rw [bX6_figures_2_s, if_pos (by rw [nI_leN (by omega) (by omega)]; omega)]
  | succ j ih =>
    intro hj nn nn' r y a hnn hnn' hr hal ra ya hN
    obtain ⟨q, rfl⟩ : ∃ q, nn = q + 1 := ⟨nn - 1, by omega⟩
    obtain ⟨q', rfl⟩ : ∃ q, nn' = q + 1 := ⟨nn' - 1, by omega⟩
    have hi : due - (j + 1) < due := by omega
    have IH := ih (by omega) q q'
    rw [show due - j = due - (j + 1) + 1 by omega] at IH
    generalize due - (j + 1) = i at hi IH hN
    have hcls : bX2_readNumbers_2 fu t (q + 1) r (nI due) (nI i) = bX2_readNumbers_27 fu t (bX2_readNumbers_2 fu t q) r (nI due) (nI i) (nI (if due ≤ i + 1 then 59 else 44)) := by
      rw [bX2_readNumbers_2_s, if_neg (by rw [nI_leN (by omega) (by omega)]; omega), if_neg (by rw [l32_7, nI_leN (by omega) (by omega)]; omega), l32_1, nI_addN]
      by_cases e : due ≤ i + 1
      · rw [if_pos (by rw [nI_leN (by omega) (by omega)]; exact e), if_pos e]; rfl
      · rw [if_neg (by rw [nI_leN (by omega) (by omega)]; exact e), if_neg e]; rfl
    have href : bX6_figures_2 fu (q' + 1) y (nI due) (nI i) = bX6_figures_12 fu (bX6_figures_2 fu q') fu y (nI due) (nI i) 0 0 := by
      rw [bX6_figures_2_s, if_neg (by rw [nI_leN (by omega) (by omega)]; omega)]
    rw [hcls, href]
    obtain ⟨r1, y1, k1, c⟩ := num_one fu hfu (bX2_readNumbers_2 fu t q) (bX6_figures_2 fu q') (i := i) (due := due) (s := if due ≤ i + 1 then 59 else 44) hi hd rfl hr hal ra ya
    rcases c with ⟨a1, v, c1, c2, c3, c4, c5, c6, c7, c8, c9⟩ | ⟨c1, c2⟩
    · obtain ⟨r2, y2, k2, d⟩ := IH r1 y1 a1 (by omega) (by omega) (rdR_9 hr k1) c2 c6 c7 (fun p hp => by
        rw [c8, c9, updI_at, updI_at]
        by_cases e : p = i
        · rw [if_pos e, if_pos e]; exact ⟨v, c3, rfl, rfl⟩
        · rw [if_neg e, if_neg e]; exact hN p (by omega))
      refine ⟨r2, y2, kp9_tr k1 k2, ?_⟩
      rw [c4, c5]
      rcases d with ⟨a', d1, d2, d3, d4, d5, d6, d7⟩ | ⟨d1, d2⟩
      · exact Or.inl ⟨a', by omega, d2, d3, d4, d5, d6, d7⟩
      · exact Or.inr ⟨d1, d2⟩
    · exact ⟨r1, y1, k1, Or.inr ⟨c1, c2⟩⟩
/-- all numbers of an item -/
theorem num_item (fu : Nat) (hfu : 100 ≤ fu) {len : Nat} {T : Nat → Nat} {t r y : ob_T} {due a : Nat} (hd : due ≤ 7) (hr : rdR len T t y) (hal : a ≤ len) (ra : r.1 3 0 = nI a) (ya : y.1 8 0 = nI a) : ∃ r' y', kp9 y y' ∧ ((∃ (a' : Nat) (N : Nat → Nat), a + 2 * due ≤ a' ∧ a' ≤ len ∧ mX2_readNumbers fu r t (nI due) = some (1, r') ∧ mX6_figures fu y (nI due) = some (1, y') ∧ r'.1 3 0 = nI a' ∧ y'.1 8 0 = nI a' ∧ ∀ q, q < due → N q ≤ 99999 ∧ r'.1 2 q = nI (N q) ∧ y'.1 9 q = nI (N q)) ∨ (mX2_readNumbers fu r t (nI due) = some (0, r') ∧ mX6_figures fu y (nI due) = some (0, y'))) := by
  obtain ⟨r', y', k, c⟩ := num_all fu hfu (due := due) hd due (Nat.le_refl _) fu fu r y a (by omega) (by omega) hr hal ra ya (fun q hq => absurd hq (by omega))
  rw [Nat.sub_self] at c
  refine ⟨r', y', k, ?_⟩
  rcases c with ⟨a', c1, c2, c3, c4, c5, c6, c7⟩ | ⟨c1, c2⟩
  · refine Or.inl ⟨a', fun q => (y'.1 9 q).toNatClampNeg, c1, c2, c3, c4, c5, c6, fun q hq => ?_⟩
    obtain ⟨v, v1, v2, v3⟩ := c7 q hq
    simp only
    rw [v3, nI_clN (by omega)]
    exact ⟨v1, v2, rfl⟩
  · exact Or.inr ⟨c1, c2⟩
