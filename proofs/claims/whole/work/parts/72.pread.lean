/-! ===== PURE: a text is read ===== -/
def rdI (len : Nat) (T : Nat → Nat) (a : Nat) (r t w m y : ob_T) : Prop := rdR len T t y ∧ a ≤ len ∧ r.1 3 0 = nI a ∧ y.1 8 0 = nI a ∧ wmI a w m y
def itO (fu len : Nat) (T : Nat → Nat) (a : Nat) (r t w m y : ob_T) : Prop := ∃ r' w' m' y', rdK y y' ∧ ((mX2_readItem fu r w m t = some (1, r', w', m') ∧ mX6_item fu y = some (1, y') ∧ ∃ a', a < a' ∧ rdI len T a' r' t w' m' y') ∨ (mX2_readItem fu r w m t = some (0, r', w', m') ∧ mX6_item fu y = some (0, y') ∧ ylR w'))
theorem item_of (fu : Nat) (hfu : 100 ≤ fu) {len : Nat} {T : Nat → Nat} {a c due : Nat} {r t w m y : ob_T} (hI : rdI len T a r t w m y) (ha : a < len) (hc : T a = c) (hnb : mX2_numbersBehind fu (sgn c) = some (nI due)) (h1 : 1 ≤ due) (h7 : due ≤ 7) (hfail : ∀ u2 y1, mX6_figures fu u2 (nI due) = some (0, y1) → it6 fu (nI c) u2 = some (0, y1)) (hok : ∀ (a' : Nat) (N : Nat → Nat) (r w m u2 y1 : ob_T), a + 1 + 2 * due ≤ a' → a' ≤ 400 → nmI due N r y1 → wmI a w m y1 → mX6_figures fu u2 (nI due) = some (1, y1) → tkO fu c a' r w m u2 y1) : itO fu len T a r t w m y := by
  obtain ⟨hr, hal, ra, ya, hW⟩ := hI
  have hl := hr.1
  obtain ⟨t1, t2, t3⟩ := hr.2.2.2 a ha
  have k8 := kp8_o y (nI (a + 1))
  have k9 := kp8_9 k8
  have href : mX6_item fu y = it6 fu (nI c) (ob_I y 8 (fun _ => nI (a + 1))) := by
    rw [item6_eq, ya, p6_byteAt fu hr (by omega), bind_sm, l32_1, nI_addN]
    unfold ch
    rw [if_pos ha, hc]
  obtain ⟨r', y1, kk, cs⟩ := num_item fu hfu (due := due) (a := a + 1) (r := ob_I r 3 (fun _ => nI (a + 1))) (y := ob_I y 8 (fun _ => nI (a + 1))) h7 (rdR_9 hr k9) (by omega) rfl rfl
  have hcls : mX2_readItem fu r w m t = (Option.bind (mX2_readNumbers fu (ob_I r 3 (fun _ => nI (a + 1))) t (nI due)) (fun (r6 : Int32 × ob_T) => (if r6.1 = 0 then some ((0 : Int32), r6.2, w, m) else (Option.bind (mX2_takeItem fu r6.2 w m (sgn c)) (fun (r7 : Int32 × ob_T × ob_T) => (if r7.1 = 0 then some ((0 : Int32), r6.2, r7.2.1, r7.2.2) else some ((1 : Int32), r6.2, r7.2.1, r7.2.2))))))) := by
    unfold mX2_readItem
    rw [ra]
    simp (disch := omega) only [↓ix_no0, ↓reduceIte, nI_clN]
    rw [bnd_eq, bnd_eq, t2, hc, hnb, bind_sm, if_neg (show ¬ nI due ≤ 0 by rw [l32_0, nI_leN (by omega) (by omega)]; omega), l32_1, nI_addN]
  unfold itO
  rw [hcls, href]
  rcases cs with ⟨a', N, c1, c2, c3, c4, c5, c6, c7⟩ | ⟨c1, c2⟩
  · rw [c3, bind_sm]
    simp only
    rw [if_neg (show ¬ ((1 : Int32) = 0) by decide)]
    have hW1 := wmI_9 hW (kp9_tr k9 kk) (Nat.le_refl a)
    obtain ⟨w', m', y', d⟩ := hok a' N r' w m _ y1 (by omega) (by omega) c7 hW1 c4
    rcases d with ⟨d1, d2, d3, d4, d5, d6, d7⟩ | ⟨d1, d2⟩
    · rw [d1, d2, bind_sm]
      simp only
      rw [if_neg (show ¬ ((1 : Int32) = 0) by decide)]
      refine ⟨r', w', m', y', rdK_tr (rdK_9 (kp9_tr k9 kk)) d7, Or.inl ⟨rfl, rfl, a', by omega, ?_, c2, c5, by rw [d4]; exact c6, d3⟩⟩
      have hr1 := rdR_9 hr (kp9_tr k9 kk)
      unfold rdR at hr1 ⊢
      rw [d5, d6]
      exact hr1
    · rw [d1, d2, bind_sm]
      simp only
      rw [if_pos trivial]
      exact ⟨r', w, m, y1, rdK_9 (kp9_tr k9 kk), Or.inr ⟨rfl, rfl, wmI_yl hW⟩⟩
  · rw [c1, bind_sm, hfail _ _ c2]
    simp only
    rw [if_pos trivial]
    exact ⟨r', w, m, y1, rdK_9 (kp9_tr k9 kk), Or.inr ⟨rfl, rfl, wmI_yl hW⟩⟩
theorem nb_dec : ∀ c, c < 256 → ¬ (c = 103 ∨ c = 107 ∨ c = 108 ∨ c = 109 ∨ c = 114 ∨ c = 115) → mX2_numbersBehind 0 (sgn c) = some (nI 0) := by decide +kernel
theorem item_no (fu : Nat) {len : Nat} {T : Nat → Nat} {a : Nat} {r t w m y : ob_T} (hI : rdI len T a r t w m y) (ha : a < len) (hc : ¬ (T a = 103 ∨ T a = 107 ∨ T a = 108 ∨ T a = 109 ∨ T a = 114 ∨ T a = 115)) : itO fu len T a r t w m y := by
  obtain ⟨hr, hal, ra, ya, hW⟩ := hI
  have hl := hr.1
  obtain ⟨t1, t2, t3⟩ := hr.2.2.2 a ha
  have k8 := kp8_o y (nI (a + 1))
  have href : mX6_item fu y = it6 fu (nI (T a)) (ob_I y 8 (fun _ => nI (a + 1))) := by
    rw [item6_eq, ya, p6_byteAt fu hr (by omega), bind_sm, l32_1, nI_addN]
    unfold ch
    rw [if_pos ha]
  have hnb : mX2_numbersBehind fu (sgn (T a)) = some (nI 0) := nb_dec _ t1 hc
  have hcls : mX2_readItem fu r w m t = some (0, ob_I r 3 (fun _ => nI (a + 1)), w, m) := by
    unfold mX2_readItem
    rw [ra]
    simp (disch := omega) only [↓ix_no0, ↓reduceIte, nI_clN]
    rw [bnd_eq, bnd_eq, t2, hnb, bind_sm, if_pos (show nI 0 ≤ 0 by decide), l32_1, nI_addN]
  have h6 : it6 fu (nI (T a)) (ob_I y 8 (fun _ => nI (a + 1))) = some (0, ob_I y 8 (fun _ => nI (a + 1))) := by
    unfold it6
    rw [if_neg (show ¬ nI (T a) = 103 from nI_ne (b := 103) (by omega) (by omega) (by omega))]
    by_cases h104 : nI (T a) = 104
    · rw [if_pos h104]
    rw [if_neg h104]
    by_cases h105 : nI (T a) = 105
    · rw [if_pos h105]
    rw [if_neg h105]
    by_cases h106 : nI (T a) = 106
    · rw [if_pos h106]
    rw [if_neg h106]
    rw [if_neg (show ¬ nI (T a) = 107 from nI_ne (b := 107) (by omega) (by omega) (by omega)), if_neg (show ¬ nI (T a) = 108 from nI_ne (b := 108) (by omega) (by omega) (by omega)), if_neg (show ¬ nI (T a) = 109 from nI_ne (b := 109) (by omega) (by omega) (by omega))]
    by_cases h110 : nI (T a) = 110
    · rw [if_pos h110]
    rw [if_neg h110]
    by_cases h111 : nI (T a) = 111
    · rw [if_pos h111]
    rw [if_neg h111]
    by_cases h112 : nI (T a) = 112
    · rw [if_pos h112]
    rw [if_neg h112]
    by_cases h113 : nI (T a) = 113
    · rw [if_pos h113]
    rw [if_neg h113]
    rw [if_neg (show ¬ nI (T a) = 114 from nI_ne (b := 114) (by omega) (by omega) (by omega)), if_neg (show ¬ nI (T a) = 115 from nI_ne (b := 115) (by omega) (by omega) (by omega))]
  exact ⟨_, w, m, _, rdK_9 (kp8_9 k8), Or.inr ⟨hcls, href.trans h6, wmI_yl hW⟩⟩
theorem item_step (fu : Nat) (hfu : 100 ≤ fu) {len : Nat} {T : Nat → Nat} {a : Nat} {r t w m y : ob_T} (hI : rdI len T a r t w m y) (ha : a < len) : itO fu len T a r t w m y := by
  have fin : ∀ (b : Int32) (y1 : ob_T), b = 0 → (if b = 0 then some ((0 : Int32), y1) else none) = some (0, y1) := fun b y1 h => if_pos h
  by_cases c1 : T a = 103
  · refine item_of fu hfu hI ha c1 (due := 3) rfl (by omega) (by omega) (fun u2 y1 h => ?_) (fun a' N r w m u2 y1 h1 h2 h3 h4 h5 => tk_g fu hfu (by omega) h2 h3 h4 h5)
    have E6 : it6 fu (nI 103) u2 = (Option.bind (mX6_mineItem fu u2) (fun (r4 : Int32 × ob_T) => (if r4.1 &&& 1 = r4.1 then some (r4.1, r4.2) else none))) := rfl
    have e : mX6_mineItem fu u2 = some (0, y1) := by
      unfold mX6_mineItem
      rw [show (3 : Int32) = nI 3 from rfl, h, bind_sm]
      rfl
    rw [E6, e]
    exact bo_0 _
  by_cases c2 : T a = 107
  · refine item_of fu hfu hI ha c2 (due := 1) rfl (by omega) (by omega) (fun u2 y1 h => ?_) (fun a' N r w m u2 y1 h1 h2 h3 h4 h5 => tk_k fu (by omega) h3 h4 h5)
    show Option.bind (mX6_figures fu u2 (nI 1)) _ = _
    rw [h, bind_sm]
    rfl
  by_cases c3 : T a = 108
  · refine item_of fu hfu hI ha c3 (due := 1) rfl (by omega) (by omega) (fun u2 y1 h => ?_) (fun a' N r w m u2 y1 h1 h2 h3 h4 h5 => tk_l fu (by omega) h3 h4 h5)
    show Option.bind (mX6_figures fu u2 (nI 1)) _ = _
    rw [h, bind_sm]
    rfl
  by_cases c4 : T a = 109
  · refine item_of fu hfu hI ha c4 (due := 2) rfl (by omega) (by omega) (fun u2 y1 h => ?_) (fun a' N r w m u2 y1 h1 h2 h3 h4 h5 => tk_m fu (by omega) h3 h4 h5)
    show Option.bind (mX6_figures fu u2 (nI 2)) _ = _
    rw [h, bind_sm]
    rfl
  by_cases c5 : T a = 114
  · refine item_of fu hfu hI ha c5 (due := 7) rfl (by omega) (by omega) (fun u2 y1 h => ?_) (fun a' N r w m u2 y1 h1 h2 h3 h4 h5 => tk_r fu hfu (by omega) h3 h4 h5)
    have E6 : it6 fu (nI 114) u2 = (Option.bind (mX6_realmItem fu u2) (fun (r34 : Int32 × ob_T) => (if r34.1 &&& 1 = r34.1 then some (r34.1, r34.2) else none))) := rfl
    have e : mX6_realmItem fu u2 = some (0, y1) := by
      unfold mX6_realmItem
      rw [show (7 : Int32) = nI 7 from rfl, h, bind_sm]
      rfl
    rw [E6, e]
    exact bo_0 _
  by_cases c6 : T a = 115
  · refine item_of fu hfu hI ha c6 (due := 2) rfl (by omega) (by omega) (fun u2 y1 h => ?_) (fun a' N r w m u2 y1 h1 h2 h3 h4 h5 => tk_s fu (by omega) h3 h4 h5)
    show Option.bind (mX6_figures fu u2 (nI 2)) _ = _
    rw [h, bind_sm]
    rfl
  exact item_no fu hI ha (by omega)
theorem read_loop (fu : Nat) (hfu : 100 ≤ fu) {len : Nat} {T : Nat → Nat} {t : ob_T} : ∀ (j : Nat) (r w m y : ob_T) (a i nn nn' : Nat), len - a ≤ j → j < nn → j < nn' → i ≤ a → rdI len T a r t w m y → ∃ r' w' m' y', rdK y y' ∧ ((∃ b, b < 400 ∧ bX2_firstFault_21 fu t nn r w m (nI i) = some (nI b, r', w', m') ∧ bX6_readAll_11 fu nn' y = some (nI b, y') ∧ ylR w') ∨ (bX2_firstFault_21 fu t nn r w m (nI i) = bX2_firstFault_60 fu t r' w' m' ∧ bX6_readAll_11 fu nn' y = some (-4, y') ∧ wmI len w' m' y')) := by
  intro j
  induction j with
  | zero =>
    intro r w m y a i nn nn' h1 h2 h3 hi hI
    obtain ⟨q, rfl⟩ : ∃ q, nn = q + 1 := ⟨nn - 1, by omega⟩
    obtain ⟨q', rfl⟩ : ∃ q, nn' = q + 1 := ⟨nn' - 1, by omega⟩
    obtain ⟨hr, hal, ra, ya, hW⟩ := hI
    have hl := hr.1
    have e : a = len := by omega
    subst e
    refine ⟨r, w, m, y, rdK_rf, Or.inr ⟨?_, ?_, hW⟩⟩
    · rw [bX2_firstFault_21_s, ra, hr.2.1]
      by_cases g : (400 : Int32) ≤ nI i
      · rw [if_pos g]
      · rw [if_neg g, if_pos (by rw [nI_leN (by omega) (by omega)]; omega)]
    · rw [bX6_readAll_11_s, ya, hr.2.2.1, if_pos (by rw [nI_leN (by omega) (by omega)]; omega)]
  | succ j ih =>
    intro r w m y a i nn nn' h1 h2 h3 hi hI
    obtain ⟨q, rfl⟩ : ∃ q, nn = q + 1 := ⟨nn - 1, by omega⟩
    obtain ⟨q', rfl⟩ : ∃ q, nn' = q + 1 := ⟨nn' - 1, by omega⟩
    have hI0 := hI
    obtain ⟨hr, hal, ra, ya, hW⟩ := hI
    have hl := hr.1
    rcases Nat.lt_or_ge a len with ha | ha
    · have c400 : ¬ ((400 : Int32) ≤ nI i) := by rw [show (400 : Int32) = nI 400 from rfl, nI_leN (by omega) (by omega)]; omega
      have cl : ¬ (nI len ≤ nI a) := by rw [nI_leN (by omega) (by omega)]; omega
      rw [bX2_firstFault_21_s, bX6_readAll_11_s, ra, ya, hr.2.1, hr.2.2.1, if_neg c400, if_neg cl, if_neg cl]
      simp only [bnd_eq]
      obtain ⟨r', w', m', y', k, c⟩ := item_step fu hfu hI0 ha
      rcases c with ⟨c1, c2, a', c3, c4⟩ | ⟨c1, c2, c3⟩
      · rw [c1, c2, bind_sm, bind_sm]
        simp only
        rw [if_neg (show ¬ ((1 : Int32) = 0) by decide), if_neg (show ¬ ((1 : Int32) = 0) by decide), l32_1, nI_addN]
        obtain ⟨r2, w2, m2, y2, k2, d⟩ := ih r' w' m' y' a' (i + 1) q q' (by omega) (by omega) (by omega) (by omega) c4
        exact ⟨r2, w2, m2, y2, rdK_tr k k2, d⟩
      · rw [c1, c2, bind_sm, bind_sm]
        simp only
        rw [if_pos trivial, if_pos trivial]
        exact ⟨r', w', m', y', k, Or.inl ⟨a, by omega, rfl, rfl, c3⟩⟩
    · have e : a = len := by omega
      subst e
      refine ⟨r, w, m, y, rdK_rf, Or.inr ⟨?_, ?_, hW⟩⟩
      · rw [bX2_firstFault_21_s, ra, hr.2.1]
        by_cases g : (400 : Int32) ≤ nI i
        · rw [if_pos g]
        · rw [if_neg g, if_pos (by rw [nI_leN (by omega) (by omega)]; omega)]
      · rw [bX6_readAll_11_s, ya, hr.2.2.1, if_pos (by rw [nI_leN (by omega) (by omega)]; omega)]
