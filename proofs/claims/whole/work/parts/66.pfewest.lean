/-! ===== STEPS: fewest ===== -/
def sp_cb (t : Nat) : Nat := cn8 (fun i => t.testBit i) 8
theorem cb_pos : ∀ t, t < 256 → 1 ≤ t → 1 ≤ sp_cb t := by decide +kernel
theorem cb_le (t : Nat) : sp_cb t ≤ 8 := cn8_le _ 8
theorem bc_cb (fu : Nat) {t : Nat} (h : t < 256) : mJ6_bitCount_0f7a4 fu (nI t) = some (nI (sp_cb t)) := by rw [bc_fu]; exact bc_dec t h
theorem bits_dec : ∀ t, t < 256 → bX6_bits_4 0 9 (nI 0) (nI t) = some (nI (sp_cb t)) := by decide +kernel
theorem bits_mono (fu fu' : Nat) : ∀ (nn d : Nat) (a x v : Int32), bX6_bits_4 fu nn a x = some v → bX6_bits_4 fu' (nn + d) a x = some v := by
  intro nn
  induction nn with
  | zero => intro d a x v h; exact absurd h (by simp [bX6_bits_4])
  | succ nn ih =>
    intro d a x v h
    rw [bX6_bits_4_s] at h
    rw [show nn + 1 + d = nn + d + 1 by omega, bX6_bits_4_s]
    by_cases e : x = 0
    · rw [if_pos e] at h ⊢; exact h
    · rw [if_neg e] at h ⊢
      simp only [bnd_eq] at h ⊢
      exact ih d _ _ _ h
theorem p6_bits (fu : Nat) (hfu : 9 ≤ fu) {t : Nat} (h : t < 256) : mX6_bits fu (nI t) = some (nI (sp_cb t)) := by
  have := bits_mono 0 fu 9 (fu - 9) _ _ _ (bits_dec t h)
  rw [show 9 + (fu - 9) = fu by omega] at this
  exact this
/-- the set's pact holds -/
def sp_ph (K : Nat) (D : sp_D) (r t : Nat) : Prop := (nI t &&& (nI (bt8 (sp_mint D.1) 8) ^^^ (-1 : Int32))) = 0 ∧ ∃ k', sp_ends K (sp_pD D t r) k' ∧ (nI t &&& (nI (bt8 (sp_hold (sp_it K (sp_pD D t r) k').1 (sp_it K (sp_pD D t r) k').2 K) 8) ^^^ (-1 : Int32))) = 0
theorem ph_told {D : sp_D} (od : okD D) {t : Nat} (ht : t < 256) (h : (nI t &&& (nI (bt8 (sp_mint D.1) 8) ^^^ (-1 : Int32))) = 0) : ∀ k, k < 8 → t.testBit k = true → D.1 k 0 ≠ 0 := by
  obtain ⟨s, s1, s2, s3⟩ := sub_bits (bt8_lt _) h
  rw [nI_eqN (by omega) (by omega)] at s2
  subst s2
  intro k hk hb
  have h6 := s3 k hb
  rw [bt8_tb] at h6
  simp [hk, sp_mint] at h6
  exact fun e => h6 ((okD_V od k hk).2.2.2.2.2.2.2.2.2 e).2.2.1
/-- the answer: the fewest, of these the least bits -/
def isFw (P : Nat → Prop) (a : Int32) : Prop := (a = -4 ∧ ∀ t, 1 ≤ t → t < 256 → ¬ P t) ∨ ∃ s, 1 ≤ s ∧ s < 256 ∧ P s ∧ a = nI s ∧ ∀ t, 1 ≤ t → t < 256 → P t → sp_cb s < sp_cb t ∨ (sp_cb s = sp_cb t ∧ s ≤ t)
theorem isFw_one {P : Nat → Prop} {a b : Int32} (ha : isFw P a) (hb : isFw P b) : a = b := by
  rcases ha with ⟨a1, a2⟩ | ⟨s, s1, s2, s3, s4, s5⟩
  · rcases hb with ⟨b1, b2⟩ | ⟨t, t1, t2, t3, t4, t5⟩
    · rw [a1, b1]
    · exact absurd t3 (a2 t t1 t2)
  · rcases hb with ⟨b1, b2⟩ | ⟨t, t1, t2, t3, t4, t5⟩
    · exact absurd s3 (b2 s s1 s2)
    · have h1 := s5 t t1 t2 t3
      have h2 := t5 s s1 s2 s3
      have : s = t := by omega
      rw [s4, t4, this]
theorem fw_one (fu : Nat) (hfu : 1000000 ≤ fu) (o : ob_T) {nw : ob_T} {K : Nat} (oK : okK K) {D : sp_D} (od : okD D) (hc : clW nw D.1 D.2 K) {r : Nat} (r1 : 1000 ≤ r) (r2 : r ≤ 99999) (k11 : ob_T → ob_T → Int32 → Int32 → Option (Int32 × ob_T × ob_T)) (k19 : ob_T → ob_T → Int32 → Int32 → Int32 → Option (Int32 × ob_T × ob_T)) (v tr : ob_T) (l2 : Int32) {t : Nat} (ht : t < 256) (hs : (nI t &&& (nI (bt8 (sp_mint D.1) 8) ^^^ (-1 : Int32))) = 0) : ∃ v' tr', (sp_ph K D r t ∧ bX5_fewest_53 fu o nw k11 k19 v tr (nI r) l2 (nI t) 1 = some (nI t, v', tr')) ∨ (¬ sp_ph K D r t ∧ bX5_fewest_53 fu o nw k11 k19 v tr (nI r) l2 (nI t) 1 = bX5_fewest_81 fu o nw k11 k19 v' tr' (nI r) l2 (nI t)) := by
  obtain ⟨oP, v', w', c⟩ := p5_tryPact fu hfu o (v := v) (tr := tr) oK od hc ht r1 r2 (ph_told od ht hs)
  refine ⟨v', w', ?_⟩
  unfold bX5_fewest_53 sp_ph
  rw [if_neg (show ¬ ((1 : Int32) = 0) by decide)]
  generalize sp_pD D t r = E at oP c
  rcases c with ⟨k, e1, e2, e3⟩ | ⟨e1, e2⟩
  · have n5 := ends_m5 e1
    have oF := sp_it_ok (K := K) oP k
    rw [e2, bind_sm]
    simp only
    rw [if_neg n5, p5_allHold fu (by omega) o e3 oF, bind_sm]
    by_cases g : nI t &&& (nI (bt8 (sp_hold (sp_it K E k).1 (sp_it K E k).2 K) 8) ^^^ (-1 : Int32)) = 0
    · rw [if_pos g, if_neg (by decide)]
      exact Or.inl ⟨⟨hs, k, e1, g⟩, rfl⟩
    · rw [if_neg g, if_pos rfl]
      refine Or.inr ⟨?_, rfl⟩
      rintro ⟨-, k', f1, f2⟩
      rw [sp_ends_one f1 e1] at f2
      exact g f2
  · rw [e2, bind_sm, if_pos (show ((-5 : Int32), v', w').1 = (-5 : Int32) from rfl)]
    exact Or.inr ⟨by rintro ⟨-, k', f1, f2⟩; exact e1 k' f1, rfl⟩
theorem fw_in (fu : Nat) (hfu : 1000000 ≤ fu) (o : ob_T) {nw : ob_T} {K : Nat} (oK : okK K) {D : sp_D} (od : okD D) (hc : clW nw D.1 D.2 K) {r : Nat} (r1 : 1000 ≤ r) (r2 : r ≤ 99999) (k11 : ob_T → ob_T → Int32 → Int32 → Option (Int32 × ob_T × ob_T)) {size : Nat} (hsz : size ≤ 8) : ∀ (j : Nat), j ≤ 255 → ∀ (nn : Nat) (v tr : ob_T), j < nn → ∃ v' tr', (∃ s, 256 - j ≤ s ∧ s < 256 ∧ sp_ph K D r s ∧ sp_cb s = size ∧ (∀ t, 256 - j ≤ t → t < s → sp_cb t = size → ¬ sp_ph K D r t) ∧ bX5_fewest_19 fu o nw k11 nn v tr (nI r) (nI size) (nI (256 - j)) = some (nI s, v', tr')) ∨ ((∀ t, 256 - j ≤ t → t < 256 → sp_cb t = size → ¬ sp_ph K D r t) ∧ bX5_fewest_19 fu o nw k11 nn v tr (nI r) (nI size) (nI (256 - j)) = k11 v' tr' (nI r) (nI (size + 1))) := by
  intro j
  induction j with
  | zero =>
    intro _ nn v tr hnn
    obtain ⟨q, rfl⟩ : ∃ q, nn = q + 1 := ⟨nn - 1, by omega⟩
    refine ⟨v, tr, Or.inr ⟨fun t h1 h2 => absurd h1 (by omega), ?_⟩⟩
    rw [bX5_fewest_19_s, if_pos (by decide), bnd_eq, l32_1, nI_addN]
  | succ j ih =>
    intro hj nn v tr hnn
    obtain ⟨q, rfl⟩ : ∃ q, nn = q + 1 := ⟨nn - 1, by omega⟩
    have ht : 256 - (j + 1) < 256 := by omega
    have IH := ih (by omega) q
    rw [show 256 - j = 256 - (j + 1) + 1 by omega] at IH
    generalize 256 - (j + 1) = t at ht IH
    have hcb := cb_le t
    -- the set is passed over
    have pass : ∀ (v2 t2 : ob_T), ¬ (sp_cb t = size ∧ sp_ph K D r t) → ∃ v' tr', (∃ s, t ≤ s ∧ s < 256 ∧ sp_ph K D r s ∧ sp_cb s = size ∧ (∀ u, t ≤ u → u < s → sp_cb u = size → ¬ sp_ph K D r u) ∧ bX5_fewest_81 fu o nw k11 (bX5_fewest_19 fu o nw k11 q) v2 t2 (nI r) (nI size) (nI t) = some (nI s, v', tr')) ∨ ((∀ u, t ≤ u → u < 256 → sp_cb u = size → ¬ sp_ph K D r u) ∧ bX5_fewest_81 fu o nw k11 (bX5_fewest_19 fu o nw k11 q) v2 t2 (nI r) (nI size) (nI t) = k11 v' tr' (nI r) (nI (size + 1))) := by
      intro v2 t2 hno
      unfold bX5_fewest_81
      rw [bnd_eq, l32_1, nI_addN]
      obtain ⟨v', tr', c⟩ := IH v2 t2 (by omega)
      refine ⟨v', tr', ?_⟩
      rcases c with ⟨s, c1, c2, c3, c4, c5, c6⟩ | ⟨c1, c2⟩
      · refine Or.inl ⟨s, by omega, c2, c3, c4, fun u h1 h2 h3 h4 => ?_, c6⟩
        rcases Nat.lt_or_ge t u with g | g
        · exact c5 u (by omega) h2 h3 h4
        · have : u = t := by omega
          subst this; exact hno ⟨h3, h4⟩
      · refine Or.inr ⟨fun u h1 h2 h3 h4 => ?_, c2⟩
        rcases Nat.lt_or_ge t u with g | g
        · exact c1 u (by omega) h2 h3 h4
        · have : u = t := by omega
          subst this; exact hno ⟨h3, h4⟩
    rw [bX5_fewest_19_s, show (256 : Int32) = nI 256 from rfl, if_neg (by rw [nI_leN (by omega) (by omega)]; omega), bc_cb fu ht, bind_sm, hc.1.2.1]
    simp (disch := omega) only [nI_eqN]
    by_cases e : sp_cb t = size
    · rw [if_pos e]
      by_cases hs : nI t &&& (nI (bt8 (sp_mint D.1) 8) ^^^ (-1 : Int32)) = 0
      · rw [if_pos hs]
        obtain ⟨v', tr', c⟩ := fw_one fu hfu o oK od hc r1 r2 k11 (bX5_fewest_19 fu o nw k11 q) v tr (nI size) ht hs
        rcases c with ⟨c1, c2⟩ | ⟨c1, c2⟩
        · exact ⟨v', tr', Or.inl ⟨t, Nat.le_refl _, ht, c1, e, fun u h1 h2 => absurd h1 (by omega), c2⟩⟩
        · rw [c2]
          exact pass v' tr' (fun h => c1 h.2)
      · rw [if_neg hs]
        unfold bX5_fewest_53
        rw [if_pos rfl]
        exact pass v tr (fun h => hs h.2.1)
    · rw [if_neg e]
      unfold bX5_fewest_53
      rw [if_pos rfl]
      exact pass v tr (fun h => e h.1)
theorem fw_cls (fu : Nat) (hfu : 1000000 ≤ fu) (o : ob_T) {nw : ob_T} {K : Nat} (oK : okK K) {D : sp_D} (od : okD D) (hc : clW nw D.1 D.2 K) {r : Nat} (r1 : 1000 ≤ r) (r2 : r ≤ 99999) : ∀ (j : Nat), j ≤ 8 → ∀ (nn : Nat) (v tr : ob_T), j < nn → (∀ t, 1 ≤ t → t < 256 → sp_cb t < 9 - j → ¬ sp_ph K D r t) → ∃ a v' tr', bX5_fewest_11 fu o nw nn v tr (nI r) (nI (9 - j)) = some (a, v', tr') ∧ isFw (sp_ph K D r) a := by
  intro j
  induction j with
  | zero =>
    intro _ nn v tr hnn h
    obtain ⟨q, rfl⟩ : ∃ q, nn = q + 1 := ⟨nn - 1, by omega⟩
    refine ⟨_, v, tr, by rw [bX5_fewest_11_s, if_pos (by decide)], Or.inl ⟨rfl, fun t h1 h2 => h t h1 h2 ?_⟩⟩
    have := cb_le t
    omega
  | succ j ih =>
    intro hj nn v tr hnn h
    obtain ⟨q, rfl⟩ : ∃ q, nn = q + 1 := ⟨nn - 1, by omega⟩
    have IH := ih (by omega) q
    have hs : 9 - (j + 1) ≤ 8 := by omega
    rw [show 9 - j = 9 - (j + 1) + 1 by omega] at IH
    generalize 9 - (j + 1) = size at hs IH h
    rw [bX5_fewest_11_s, l32_8, if_neg (by rw [nI_ltN (by omega) (by omega)]; omega)]
    obtain ⟨v', tr', c⟩ := fw_in fu hfu o oK od hc r1 r2 (bX5_fewest_11 fu o nw q) hs 255 (by omega) fu v tr (by omega)
    rw [show 256 - 255 = 1 by omega] at c
    rcases c with ⟨s, c1, c2, c3, c4, c5, c6⟩ | ⟨c1, c2⟩
    · refine ⟨_, v', tr', c6, Or.inr ⟨s, c1, c2, c3, rfl, fun t h1 h2 h3 => ?_⟩⟩
      rcases Nat.lt_or_ge (sp_cb t) size with g | g
      · exact absurd h3 (h t h1 h2 g)
      · rcases Nat.lt_or_ge size (sp_cb t) with g2 | g2
        · left; omega
        · right
          refine ⟨by omega, ?_⟩
          rcases Nat.lt_or_ge t s with g3 | g3
          · exact absurd h3 (c5 t h1 g3 (by omega))
          · exact g3
    · refine Exists.elim (IH v' tr' (by omega) (fun t h1 h2 h3 => ?_)) (fun a ha => ⟨a, ?_⟩)
      · rcases Nat.lt_or_ge (sp_cb t) size with g | g
        · exact h t h1 h2 g
        · exact c1 t h1 h2 (by omega)
      · obtain ⟨v2, t2, g1, g2⟩ := ha
        exact ⟨v2, t2, c2.trans g1, g2⟩
/-- the reference's best so far -/
def isBs (P : Nat → Prop) (l : Nat) (a : Int32) : Prop := (a = -4 ∧ ∀ t, 1 ≤ t → t < l → ¬ P t) ∨ ∃ s, 1 ≤ s ∧ s < l ∧ P s ∧ a = nI s ∧ ∀ t, 1 ≤ t → t < l → P t → sp_cb s < sp_cb t ∨ (sp_cb s = sp_cb t ∧ s ≤ t)
theorem pt_ok {M : Nat → Nat} {set r : Nat} (r1 : 1000 ≤ r) (r2 : r ≤ 99999) : ∀ (j : Nat), j ≤ 8 → ∀ (V : Nat → Nat → Nat), okD (V, M) → (∀ n, n < 8 → set.testBit n = true → V n 0 ≠ 0) → okD (sp_pt set r j V, M) := by
  intro j
  induction j with
  | zero => intro _ V od _; exact od
  | succ j ih =>
    intro hj V od ht
    show okD (sp_pt set r j (if set.testBit (8 - (j + 1)) = true then sp_law V (8 - (j + 1)) r else V), M)
    by_cases e : set.testBit (8 - (j + 1)) = true
    · rw [if_pos e]
      exact ih (by omega) _ (law_ok (D := (V, M)) od (ht _ (by omega) e) r1 r2) (fun k hk2 h => law_0 (ht k hk2 h) r1)
    · rw [if_neg e]
      exact ih (by omega) V od ht
theorem fw_ref (fu : Nat) (hfu : 1000000 ≤ fu) {K : Nat} (oK : okK K) {D : sp_D} (od : okD D) {r : Nat} (r1 : 1000 ≤ r) (r2 : r ≤ 99999) : ∀ (j : Nat), j ≤ 255 → ∀ (nn : Nat) (y : ob_T) (a : Int32), j < nn → rfW y 0 D.1 D.2 → y.1 4 0 = nI K → isBs (sp_ph K D r) (256 - j) a → ∃ b y', bX6_fewest_20 fu nn y (nI r) (nI (bt8 (sp_mint D.1) 8)) a (nI (256 - j)) = some (b, y') ∧ isFw (sp_ph K D r) b ∧ rfQ y y' := by
  intro j
  induction j with
  | zero =>
    intro _ nn y a hnn rW rK hb
    obtain ⟨q, rfl⟩ : ∃ q, nn = q + 1 := ⟨nn - 1, by omega⟩
    exact ⟨a, y, by rw [bX6_fewest_20_s, if_pos (by decide)], hb, rfQ_rf⟩
  | succ j ih =>
    intro hj nn y a hnn rW rK hb
    obtain ⟨q, rfl⟩ : ∃ q, nn = q + 1 := ⟨nn - 1, by omega⟩
    have ht : 256 - (j + 1) < 256 := by omega
    have ht1 : 1 ≤ 256 - (j + 1) := by omega
    have IH := ih (by omega) q
    rw [show 256 - j = 256 - (j + 1) + 1 by omega] at IH
    generalize 256 - (j + 1) = t at ht ht1 IH hb
    have ct := cb_le t
    -- the set is not taken
    have keep : (¬ sp_ph K D r t ∨ ∃ s, s < t ∧ a = nI s ∧ 1 ≤ s ∧ sp_cb s ≤ sp_cb t) → isBs (sp_ph K D r) (t + 1) a := by
      intro h
      rcases hb with ⟨b1, b2⟩ | ⟨s, s1, s2, s3, s4, s5⟩
      · rcases h with h | ⟨s, q1, q2, q3, q4⟩
        · refine Or.inl ⟨b1, fun u h1 h2 => ?_⟩
          rcases Nat.lt_or_ge u t with g | g
          · exact b2 u h1 g
          · have : u = t := by omega
            subst this; exact h
        · rw [b1] at q2; exact absurd q2.symm (m4_nI (by omega))
      · refine Or.inr ⟨s, s1, by omega, s3, s4, fun u h1 h2 h3 => ?_⟩
        rcases Nat.lt_or_ge u t with g | g
        · exact s5 u h1 g h3
        · have : u = t := by omega
          subst this
          rcases h with h | ⟨s', q1, q2, q3, q4⟩
          · exact absurd h3 h
          · rw [s4, nI_eqN (by omega) (by omega)] at q2
            subst q2
            omega
    have goOn : ∀ (y2 : ob_T) (a2 : Int32), rfQ y y2 → isBs (sp_ph K D r) (t + 1) a2 → ∃ b y', bX6_fewest_85 fu (bX6_fewest_20 fu q) y2 (nI r) (nI (bt8 (sp_mint D.1) 8)) (nI t) a2 = some (b, y') ∧ isFw (sp_ph K D r) b ∧ rfQ y y' := by
      intro y2 a2 q1 q2
      unfold bX6_fewest_85
      rw [bnd_eq, l32_1, nI_addN]
      obtain ⟨b, y', c1, c2, c3⟩ := IH y2 a2 (by omega) (q1.2 0 _ _ (by omega) rW) (by rw [q1.1 4 (by omega)]; exact rK) q2
      exact ⟨b, y', c1, c2, rfQ_tr q1 c3⟩
    -- the set is asked
    have ask : (nI t &&& (nI (bt8 (sp_mint D.1) 8) ^^^ (-1 : Int32))) = 0 → (a = -4 ∨ ∃ s, s < t ∧ a = nI s ∧ 1 ≤ s ∧ sp_cb t < sp_cb s) → ∃ b y', bX6_fewest_60 fu (bX6_fewest_20 fu q) y (nI r) (nI (bt8 (sp_mint D.1) 8)) a (nI t) 1 = some (b, y') ∧ isFw (sp_ph K D r) b ∧ rfQ y y' := by
      intro hs ha
      have htold := ph_told od ht hs
      have oP : okD (sp_pD D t r) := pt_ok r1 r2 8 (by omega) D.1 od htold
      obtain ⟨y2, q1, c⟩ := p6_pactOf fu hfu oK rW rK ht r2 (0 : Int32) oP
      have hph : sp_ph K D r t ↔ ∃ k', sp_ends K (sp_pD D t r) k' ∧ (nI t &&& (nI (bt8 (sp_hold (sp_it K (sp_pD D t r) k').1 (sp_it K (sp_pD D t r) k').2 K) 8) ^^^ (-1 : Int32))) = 0 := ⟨fun h => h.2, fun h => ⟨hs, h⟩⟩
      have best : sp_ph K D r t → isBs (sp_ph K D r) (t + 1) (nI t) := by
        intro hp
        refine Or.inr ⟨t, ht1, by omega, hp, rfl, fun u h1 h2 h3 => ?_⟩
        rcases Nat.lt_or_ge u t with g | g
        · rcases hb with ⟨b1, b2⟩ | ⟨s, s1, s2, s3, s4, s5⟩
          · exact absurd h3 (b2 u h1 g)
          · rcases ha with ha | ⟨s', p1, p2, p3, p4⟩
            · rw [s4] at ha; exact absurd ha (m4_nI (by omega))
            · rw [s4, nI_eqN (by omega) (by omega)] at p2
              subst p2
              have := s5 u h1 g h3
              left; omega
        · have : u = t := by omega
          subst this; right; exact ⟨rfl, Nat.le_refl _⟩
      unfold bX6_fewest_60
      rw [if_neg (show ¬ ((1 : Int32) = 0) by decide)]
      generalize sp_pD D t r = E at c hph
      rcases c with ⟨k, e1, e2⟩ | ⟨e1, e2⟩
      · rw [e2, bind_sm]
        unfold sp_pa
        simp only
        rw [if_neg (show ¬ ((0 : Int32) = 1) by decide)]
        by_cases g : nI t &&& (nI (bt8 (sp_hold (sp_it K E k).1 (sp_it K E k).2 K) 8) ^^^ (-1 : Int32)) = 0
        · rw [if_pos g, if_pos rfl]
          exact goOn y2 _ q1 (best (hph.mpr ⟨k, e1, g⟩))
        · rw [if_neg g, if_neg (by decide)]
          refine goOn y2 _ q1 (keep (Or.inl (fun h => ?_)))
          obtain ⟨k', f1, f2⟩ := hph.mp h
          rw [sp_ends_one f1 e1] at f2
          exact g f2
      · rw [e2, bind_sm]
        simp only
        rw [if_neg (by decide)]
        refine goOn y2 _ q1 (keep (Or.inl (fun h => ?_)))
        obtain ⟨k', f1, f2⟩ := hph.mp h
        exact e1 k' f1
    rw [bX6_fewest_20_s, show (256 : Int32) = nI 256 from rfl, if_neg (by rw [nI_leN (by omega) (by omega)]; omega)]
    by_cases hs : nI t &&& (nI (bt8 (sp_mint D.1) 8) ^^^ (-1 : Int32)) = 0
    · rw [if_pos hs]
      have hb' := hb
      rcases hb' with ⟨b1, b2⟩ | ⟨s, s1, s2, s3, s4, s5⟩
      · rw [if_pos b1]
        exact ask hs (Or.inl b1)
      · have cs := cb_le s
        rw [if_neg (by rw [s4]; exact m4_nI (by omega)), p6_bits fu (by omega) ht, bind_sm]
        have hbs : mX6_bits fu a = some (nI (sp_cb s)) := by rw [s4]; exact p6_bits fu (by omega) (by omega)
        rw [hbs, bind_sm]
        simp (disch := omega) only [nI_leN]
        by_cases g : sp_cb s ≤ sp_cb t
        · rw [if_pos g]
          unfold bX6_fewest_60
          rw [if_pos rfl]
          exact goOn y a rfQ_rf (keep (Or.inr ⟨s, s2, s4, s1, g⟩))
        · rw [if_neg g]
          exact ask hs (Or.inr ⟨s, s2, s4, s1, by omega⟩)
    · rw [if_neg hs]
      unfold bX6_fewest_60
      rw [if_pos rfl]
      exact goOn y a rfQ_rf (keep (Or.inl (fun h => hs h.1)))
theorem st_fewest (fu : Nat) (hfu : 1000000 ≤ fu) : sx_fewest fu Rl := by
  intro n z p1 hn hR
  have hR0 : Rq n (z 0) (z 1) (z 3) (z 6) (z 7) (z 9) (z 10) (z 11) := hR
  obtain ⟨D, E0, E1, K, kc, oK, oN, cW, rW, rK, hkc, hk5, hk6, h0, h1, hT, hM, hY⟩ := hR
  have od := oN.1
  have z1 : ¬ ((1 : Int32) = 0) := by decide
  unfold mX5_fewest mX6_fewest
  rw [p5_rt, p6_rt, bind_sm, bind_sm, p6_minting fu (by omega) rW od, bind_sm]
  rcases isRt_c p1 with h | ⟨h, r, r1, r2, rfl⟩
  · rw [h, if_pos rfl, if_pos rfl]; exact ⟨_, _, rfl, rfl, rfl, Rq_s hR0⟩
  rw [h, if_neg z1, if_neg z1]
  obtain ⟨a, v', tr', c1, c2⟩ := fw_cls fu hfu (z 0) oK od cW r1 r2 8 (by omega) fu (z 5) (z 8) (by omega) (fun t g1 g2 g3 => by have := cb_pos t g2 g1; omega)
  obtain ⟨b, y', d1, d2, d3⟩ := fw_ref fu hfu oK od r1 r2 255 (by omega) fu (z 11) (-4) (by omega) rW rK (Or.inl ⟨rfl, fun t g1 g2 => absurd g1 (by omega)⟩)
  have := isFw_one c2 d2
  subst this
  exact ⟨_, _, c1, d1, rfl, Rq_Q hR0 d3⟩
