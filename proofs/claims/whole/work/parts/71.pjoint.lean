/-! ===== PURE: items, class and reference beside each other ===== -/
def it6 (fu : Nat) (r1 : Int32) (u2 : ob_T) : Option (Int32 × ob_T) := (if r1 = (103 : Int32) then (Option.bind (mX6_mineItem fu u2) (fun (r4 : Int32 × ob_T) => (if r4.1 &&& 1 = r4.1 then some (r4.1, r4.2) else none))) else (if r1 = (104 : Int32) then some ((0 : Int32), u2) else (if r1 = (105 : Int32) then some ((0 : Int32), u2) else (if r1 = (106 : Int32) then some ((0 : Int32), u2) else (if r1 = (107 : Int32) then (Option.bind (mX6_figures fu u2 (1 : Int32)) (fun (r10 : Int32 × ob_T) => (if r10.1 = 0 then some ((0 : Int32), r10.2) else (if ((0 : Int32) < 0 ∨ 7 ≤ ((0 : Int32)).toNatClampNeg) then none else (Option.bind (mX6_in fu ((r10.2.1 9 (0 : Int32).toNatClampNeg).toInt64) (1 : Int64) (9999 : Int64)) (fun (r12 : Int32) => (if r12 = 0 then some ((0 : Int32), r10.2) else (if ((1 : Int32) < 0 ∨ 2 ≤ ((1 : Int32)).toNatClampNeg) then none else (bnd (ob_I r10.2 4 (upd (r10.2.1 4) (1 : Int32).toNatClampNeg (r10.2.1 9 (0 : Int32).toNatClampNeg))) (fun (u14 : ob_T) => some ((1 : Int32), u14))))))))))) else (if r1 = (108 : Int32) then (Option.bind (mX6_figures fu u2 (1 : Int32)) (fun (r16 : Int32 × ob_T) => (if r16.1 = 0 then some ((0 : Int32), r16.2) else (if ((0 : Int32) < 0 ∨ 7 ≤ ((0 : Int32)).toNatClampNeg) then none else (Option.bind (mX6_isRead fu r16.2 (r16.2.1 9 (0 : Int32).toNatClampNeg)) (fun (r18 : Int32) => (if r18 = 0 then some ((0 : Int32), r16.2) else (if ((295 : Int32) + ((9 : Int32) * (r16.2.1 9 (0 : Int32).toNatClampNeg)) < 0 ∨ 360 ≤ ((295 : Int32) + ((9 : Int32) * (r16.2.1 9 (0 : Int32).toNatClampNeg))).toNatClampNeg) then none else (bnd (ob_L r16.2 2 (vp_updL (r16.2.2 2) ((295 : Int32) + ((9 : Int32) * (r16.2.1 9 (0 : Int32).toNatClampNeg))).toNatClampNeg (1 : Int64))) (fun (u20 : ob_T) => some ((1 : Int32), u20))))))))))) else (if r1 = (109 : Int32) then (Option.bind (mX6_figures fu u2 (2 : Int32)) (fun (r22 : Int32 × ob_T) => (if r22.1 = 0 then some ((0 : Int32), r22.2) else (if ((0 : Int32) < 0 ∨ 7 ≤ ((0 : Int32)).toNatClampNeg) then none else (if ((12 : Int32) < 0 ∨ 15 ≤ ((12 : Int32)).toNatClampNeg) then none else (bnd (ob_L r22.2 3 (vp_updL (r22.2.2 3) (12 : Int32).toNatClampNeg ((r22.2.1 9 (0 : Int32).toNatClampNeg).toInt64))) (fun (u25 : ob_T) => (if ((1 : Int32) < 0 ∨ 7 ≤ ((1 : Int32)).toNatClampNeg) then none else (if ((13 : Int32) < 0 ∨ 15 ≤ ((13 : Int32)).toNatClampNeg) then none else (bnd (ob_L u25 3 (vp_updL (u25.2 3) (13 : Int32).toNatClampNeg ((1000 : Int64) * ((u25.1 9 (1 : Int32).toNatClampNeg).toInt64)))) (fun (u28 : ob_T) => some ((1 : Int32), u28)))))))))))) else (if r1 = (110 : Int32) then some ((0 : Int32), u2) else (if r1 = (111 : Int32) then some ((0 : Int32), u2) else (if r1 = (112 : Int32) then some ((0 : Int32), u2) else (if r1 = (113 : Int32) then some ((0 : Int32), u2) else (if r1 = (114 : Int32) then (Option.bind (mX6_realmItem fu u2) (fun (r34 : Int32 × ob_T) => (if r34.1 &&& 1 = r34.1 then some (r34.1, r34.2) else none))) else (if r1 = (115 : Int32) then (Option.bind (mX6_figures fu u2 (2 : Int32)) (fun (r37 : Int32 × ob_T) => (if r37.1 = 0 then some ((0 : Int32), r37.2) else (if ((0 : Int32) < 0 ∨ 7 ≤ ((0 : Int32)).toNatClampNeg) then none else (Option.bind (mX6_isRead fu r37.2 (r37.2.1 9 (0 : Int32).toNatClampNeg)) (fun (r39 : Int32) => (if r39 = 0 then some ((0 : Int32), r37.2) else (if ((1 : Int32) < 0 ∨ 7 ≤ ((1 : Int32)).toNatClampNeg) then none else (if (r37.2.1 9 (1 : Int32).toNatClampNeg) ≤ (9999 : Int32) then (if ((296 : Int32) + ((9 : Int32) * (r37.2.1 9 (0 : Int32).toNatClampNeg)) < 0 ∨ 360 ≤ ((296 : Int32) + ((9 : Int32) * (r37.2.1 9 (0 : Int32).toNatClampNeg))).toNatClampNeg) then none else (bnd (ob_L r37.2 2 (vp_updL (r37.2.2 2) ((296 : Int32) + ((9 : Int32) * (r37.2.1 9 (0 : Int32).toNatClampNeg))).toNatClampNeg ((r37.2.1 9 (1 : Int32).toNatClampNeg).toInt64))) (fun (u42 : ob_T) => some ((1 : Int32), u42)))) else some ((0 : Int32), r37.2)))))))))) else some ((0 : Int32), u2))))))))))))))
theorem item6_eq (fu : Nat) (y : ob_T) : mX6_item fu y = Option.bind (mX6_byteAt fu y (y.1 8 0)) (fun (r1 : Int32) => it6 fu r1 (ob_I y 8 (fun _ => y.1 8 0 + (1 : Int32)))) := rfl
/-- world and mines while a text is read, at the class and at the reference -/
def wmI (a : Nat) (w m y : ob_T) : Prop := ∃ (V : Nat → Nat → Nat) (M : Nat → Nat) (K cnt : Nat) (Y A B : Nat → Nat), okR V M ∧ okK K ∧ clP w V M K ∧ rfW y 4 V M ∧ y.1 4 1 = nI K ∧ cnt * 7 ≤ a ∧ y.1 5 1 = nI cnt ∧ mnL y 180 cnt Y A B ∧ mnT m cnt Y A B
theorem wmI_9 {a a' : Nat} {w m y y' : ob_T} (h : wmI a w m y) (k : kp9 y y') (ha : a ≤ a') : wmI a' w m y' := by
  obtain ⟨V, M, K, cnt, Y, A, B, h1, h2, h3, h4, h5, h6, h7, h8, h9⟩ := h
  refine ⟨V, M, K, cnt, Y, A, B, h1, h2, h3, ?_, ?_, by omega, ?_, ?_, h9⟩
  · unfold rfW; rw [k.1]; exact h4
  · rw [k.2 4 (by omega) (by omega)]; exact h5
  · rw [k.2 5 (by omega) (by omega)]; exact h7
  · unfold mnL; rw [k.2 6 (by omega) (by omega)]; exact h8
theorem wmI_yl {a : Nat} {w m y : ob_T} (h : wmI a w m y) : ylR w := by
  obtain ⟨V, M, K, cnt, Y, A, B, h1, h2, h3, h4, h5, h6, h7, h8, h9⟩ := h
  exact h3.1.2.2.2
theorem f_ok {V : Nat → Nat → Nat} {M : Nat → Nat} (h : okR V M) {n f x : Nat} (e0 : V n 0 ≠ 0) (hf : (f = 7 ∧ x = 1) ∨ (f = 8 ∧ x ≤ 10000)) : okR (sp_f V n f x) M := by
  refine ⟨fun k hk => ?_, h.2⟩
  obtain ⟨a, b, c, d, e, f1, g, i, j, l⟩ := h.1 k hk
  unfold sp_f
  rcases hf with ⟨rfl, rfl⟩ | ⟨rfl, hx⟩
  · by_cases z : k = n
    · subst z
      simp
      exact ⟨a, b, c, d, e, f1, g, j, fun q => absurd q e0⟩
    · simp [z]
      exact ⟨a, b, c, d, e, f1, g, i, j, fun q => by have := l q; omega⟩
  · by_cases z : k = n
    · subst z
      simp
      exact ⟨a, b, c, d, e, f1, g, i, hx, fun q => absurd q e0⟩
    · simp [z]
      exact ⟨a, b, c, d, e, f1, g, i, j, fun q => by have := l q; omega⟩
theorem bo_0 (y : ob_T) : Option.bind (some ((0 : Int32), y)) (fun (r : Int32 × ob_T) => (if r.1 &&& 1 = r.1 then some (r.1, r.2) else none)) = some ((0 : Int32), y) := by rw [bind_sm]; exact if_pos (show (0 : Int32) &&& 1 = 0 by decide)
theorem bo_1 (y : ob_T) : Option.bind (some ((1 : Int32), y)) (fun (r : Int32 × ob_T) => (if r.1 &&& 1 = r.1 then some (r.1, r.2) else none)) = some ((1 : Int32), y) := by rw [bind_sm]; exact if_pos (show (1 : Int32) &&& 1 = 1 by decide)
theorem bw_0 (y m : ob_T) : Option.bind (some ((0 : Int32), y)) (fun (r : Int32 × ob_T) => (if r.1 &&& 1 = r.1 then some (r.1, r.2, m) else none)) = some ((0 : Int32), y, m) := by rw [bind_sm]; exact if_pos (show (0 : Int32) &&& 1 = 0 by decide)
theorem bw_1 (y m : ob_T) : Option.bind (some ((1 : Int32), y)) (fun (r : Int32 × ob_T) => (if r.1 &&& 1 = r.1 then some (r.1, r.2, m) else none)) = some ((1 : Int32), y, m) := by rw [bind_sm]; exact if_pos (show (1 : Int32) &&& 1 = 1 by decide)
theorem bm_0 (y w : ob_T) : Option.bind (some ((0 : Int32), y)) (fun (r : Int32 × ob_T) => (if r.1 &&& 1 = r.1 then some (r.1, w, r.2) else none)) = some ((0 : Int32), w, y) := by rw [bind_sm]; exact if_pos (show (0 : Int32) &&& 1 = 0 by decide)
theorem bm_1 (y w : ob_T) : Option.bind (some ((1 : Int32), y)) (fun (r : Int32 × ob_T) => (if r.1 &&& 1 = r.1 then some (r.1, w, r.2) else none)) = some ((1 : Int32), w, y) := by rw [bind_sm]; exact if_pos (show (1 : Int32) &&& 1 = 1 by decide)
/-- what becomes of an item whose numbers are read -/
def tkO (fu c a' : Nat) (r w m u2 y1 : ob_T) : Prop := ∃ w' m' y', (mX2_takeItem fu r w m (sgn c) = some (1, w', m') ∧ it6 fu (nI c) u2 = some (1, y') ∧ wmI a' w' m' y' ∧ y'.1 8 = y1.1 8 ∧ y'.1 0 = y1.1 0 ∧ y'.1 1 = y1.1 1 ∧ rdK y1 y') ∨ (mX2_takeItem fu r w m (sgn c) = some (0, w, m) ∧ it6 fu (nI c) u2 = some (0, y1))
theorem tk_r (fu : Nat) (hfu : 100 ≤ fu) {a a' : Nat} (ha : a ≤ a') {r w m u2 y1 : ob_T} {N : Nat → Nat} (hN : nmI 7 N r y1) (hI : wmI a w m y1) (hf : mX6_figures fu u2 7 = some (1, y1)) : tkO fu 114 a' r w m u2 y1 := by
  obtain ⟨V, M, K, cnt, Y, A, B, h1, h2, h3, h4, h5, h6, h7, h8, h9⟩ := hI
  have E5 : mX2_takeItem fu r w m (sgn 114) = (Option.bind (mX2_takeRealm fu r w) (fun (r21 : Int32 × ob_T) => (if r21.1 &&& 1 = r21.1 then some (r21.1, r21.2, m) else none))) := rfl
  have E6 : it6 fu (nI 114) u2 = (Option.bind (mX6_realmItem fu u2) (fun (r34 : Int32 × ob_T) => (if r34.1 &&& 1 = r34.1 then some (r34.1, r34.2) else none))) := rfl
  unfold tkO
  rw [E5, E6]
  rcases p2_takeRealm fu hN h3 h1 with ⟨g, g1⟩ | ⟨g, w', g1, g2⟩
  · rcases p6_realmItem fu hfu hN h4 h1 hf with ⟨k, k1⟩ | ⟨k, -⟩
    · rw [g1, k1]
      exact ⟨w, m, y1, Or.inr ⟨bw_0 _ _, bo_0 _⟩⟩
    · exact absurd k g
  · rcases p6_realmItem fu hfu hN h4 h1 hf with ⟨k, k1⟩ | ⟨k, y', k1, k2, k3, k4⟩
    · exact absurd g k
    · rw [g1, k1]
      refine ⟨w', m, y', Or.inl ⟨bw_1 _ _, bo_1 _, ⟨sp_new V N, M, K, cnt, Y, A, B, new_ok h1 g (hN 1 (by omega)).1, h2, g2, k2, by rw [k3]; exact h5, by omega, by rw [k3]; exact h7, by unfold mnL; rw [k3]; exact h8, h9⟩, by rw [k3], by rw [k3], by rw [k3], k4⟩⟩
theorem tk_g (fu : Nat) (hfu : 100 ≤ fu) {a a' : Nat} (ha : a + 7 ≤ a') (ha2 : a' ≤ 400) {r w m u2 y1 : ob_T} {N : Nat → Nat} (hN : nmI 3 N r y1) (hI : wmI a w m y1) (hf : mX6_figures fu u2 3 = some (1, y1)) : tkO fu 103 a' r w m u2 y1 := by
  obtain ⟨V, M, K, cnt, Y, A, B, h1, h2, h3, h4, h5, h6, h7, h8, h9⟩ := hI
  have E5 : mX2_takeItem fu r w m (sgn 103) = (Option.bind (mX2_takeMines fu r m) (fun (r2 : Int32 × ob_T) => (if r2.1 &&& 1 = r2.1 then some (r2.1, w, r2.2) else none))) := rfl
  have E6 : it6 fu (nI 103) u2 = (Option.bind (mX6_mineItem fu u2) (fun (r4 : Int32 × ob_T) => (if r4.1 &&& 1 = r4.1 then some (r4.1, r4.2) else none))) := rfl
  unfold tkO
  rw [E5, E6]
  rcases p2_takeMines fu hN h9 with ⟨g, g1⟩ | ⟨g, m', g1, g2⟩
  · rcases p6_mineItem fu hfu hN (by omega) h7 h8 hf with ⟨k, k1⟩ | ⟨k, -⟩
    · rw [g1, k1]
      exact ⟨w, m, y1, Or.inr ⟨bm_0 _ _, bo_0 _⟩⟩
    · exact absurd k g
  · rcases p6_mineItem fu hfu hN (by omega) h7 h8 hf with ⟨k, k1⟩ | ⟨k, y', k1, k2, k3, k4, k5, k6⟩
    · exact absurd g k
    · rw [g1, k1]
      refine ⟨w, m', y', Or.inl ⟨bm_1 _ _, bo_1 _, ⟨V, M, K, cnt + 1, _, _, _, h1, h2, h3, by unfold rfW; rw [k4]; exact h4, by rw [k5 4 (by omega) (by omega)]; exact h5, by omega, k2, k3, g2⟩, k5 8 (by omega) (by omega), k5 0 (by omega) (by omega), k5 1 (by omega) (by omega), k6⟩⟩
theorem tk_l (fu : Nat) {a a' : Nat} (ha : a ≤ a') {r w m u2 y1 : ob_T} {N : Nat → Nat} (hN : nmI 1 N r y1) (hI : wmI a w m y1) (hf : mX6_figures fu u2 1 = some (1, y1)) : tkO fu 108 a' r w m u2 y1 := by
  obtain ⟨V, M, K, cnt, Y, A, B, h1, h2, h3, h4, h5, h6, h7, h8, h9⟩ := hI
  obtain ⟨x0, -, y0⟩ := hN 0 (by omega)
  have E5 : mX2_takeItem fu r w m (sgn 108) = (Option.bind (mX2_takeLimp fu r w) (fun (r11 : Int32 × ob_T) => (if r11.1 &&& 1 = r11.1 then some (r11.1, r11.2, m) else none))) := rfl
  have E6 : it6 fu (nI 108) u2 = (Option.bind (mX6_figures fu u2 (1 : Int32)) (fun (r16 : Int32 × ob_T) => (if r16.1 = 0 then some ((0 : Int32), r16.2) else (if ((0 : Int32) < 0 ∨ 7 ≤ ((0 : Int32)).toNatClampNeg) then none else (Option.bind (mX6_isRead fu r16.2 (r16.2.1 9 (0 : Int32).toNatClampNeg)) (fun (r18 : Int32) => (if r18 = 0 then some ((0 : Int32), r16.2) else (if ((295 : Int32) + ((9 : Int32) * (r16.2.1 9 (0 : Int32).toNatClampNeg)) < 0 ∨ 360 ≤ ((295 : Int32) + ((9 : Int32) * (r16.2.1 9 (0 : Int32).toNatClampNeg))).toNatClampNeg) then none else (bnd (ob_L r16.2 2 (vp_updL (r16.2.2 2) ((295 : Int32) + ((9 : Int32) * (r16.2.1 9 (0 : Int32).toNatClampNeg))).toNatClampNeg (1 : Int64))) (fun (u20 : ob_T) => some ((1 : Int32), u20))))))))))) := rfl
  unfold tkO
  rw [E5, E6, hf, bind_sm]
  simp only
  rw [if_neg (show ¬ ((1 : Int32) = 0) by decide), if_neg (show ¬ ((0 : Int32) < 0 ∨ 7 ≤ ((0 : Int32)).toNatClampNeg) by decide), show (0 : Int32).toNatClampNeg = 0 from rfl, y0, p6_isRead fu h4 h1 x0, bind_sm]
  rcases p2_takeLimp fu hN h3 with ⟨g, g1⟩ | ⟨g, w', g1, g2⟩
  · rw [g1, if_neg g, if_pos rfl]
    exact ⟨w, m, y1, Or.inr ⟨bw_0 _ _, rfl⟩⟩
  · rw [g1, if_pos g, if_neg (show ¬ ((1 : Int32) = 0) by decide)]
    simp only [l32_9, show (295 : Int32) = nI 295 from rfl, nI_mulN, nI_addN, bnd_eq, l64_1]
    simp (disch := omega) only [↓ix_no0, ↓reduceIte, nI_clN]
    have r4 := rf_u4 h4 (show N 0 < 8 by omega) (show 7 < 8 by omega) 1
    rw [show 288 + 9 * N 0 + 7 = 295 + 9 * N 0 by omega] at r4
    exact ⟨w', m, _, Or.inl ⟨bw_1 _ _, rfl, ⟨sp_f V (N 0) 7 1, M, K, cnt, Y, A, B, f_ok h1 g.2 (Or.inl ⟨rfl, rfl⟩), h2, g2, r4, h5, by omega, h7, h8, h9⟩, rfl, rfl, rfl, rdK_2 _ (by omega) _⟩⟩
theorem tk_s (fu : Nat) {a a' : Nat} (ha : a ≤ a') {r w m u2 y1 : ob_T} {N : Nat → Nat} (hN : nmI 2 N r y1) (hI : wmI a w m y1) (hf : mX6_figures fu u2 2 = some (1, y1)) : tkO fu 115 a' r w m u2 y1 := by
  obtain ⟨V, M, K, cnt, Y, A, B, h1, h2, h3, h4, h5, h6, h7, h8, h9⟩ := hI
  obtain ⟨x0, -, y0⟩ := hN 0 (by omega)
  obtain ⟨x1, -, y1'⟩ := hN 1 (by omega)
  have E5 : mX2_takeItem fu r w m (sgn 115) = (Option.bind (mX2_takeStop fu r w) (fun (r24 : Int32 × ob_T) => (if r24.1 &&& 1 = r24.1 then some (r24.1, r24.2, m) else none))) := rfl
  have E6 : it6 fu (nI 115) u2 = (Option.bind (mX6_figures fu u2 (2 : Int32)) (fun (r37 : Int32 × ob_T) => (if r37.1 = 0 then some ((0 : Int32), r37.2) else (if ((0 : Int32) < 0 ∨ 7 ≤ ((0 : Int32)).toNatClampNeg) then none else (Option.bind (mX6_isRead fu r37.2 (r37.2.1 9 (0 : Int32).toNatClampNeg)) (fun (r39 : Int32) => (if r39 = 0 then some ((0 : Int32), r37.2) else (if ((1 : Int32) < 0 ∨ 7 ≤ ((1 : Int32)).toNatClampNeg) then none else (if (r37.2.1 9 (1 : Int32).toNatClampNeg) ≤ (9999 : Int32) then (if ((296 : Int32) + ((9 : Int32) * (r37.2.1 9 (0 : Int32).toNatClampNeg)) < 0 ∨ 360 ≤ ((296 : Int32) + ((9 : Int32) * (r37.2.1 9 (0 : Int32).toNatClampNeg))).toNatClampNeg) then none else (bnd (ob_L r37.2 2 (vp_updL (r37.2.2 2) ((296 : Int32) + ((9 : Int32) * (r37.2.1 9 (0 : Int32).toNatClampNeg))).toNatClampNeg ((r37.2.1 9 (1 : Int32).toNatClampNeg).toInt64))) (fun (u42 : ob_T) => some ((1 : Int32), u42)))) else some ((0 : Int32), r37.2)))))))))) := rfl
  unfold tkO
  rw [E5, E6, hf, bind_sm]
  simp only
  rw [if_neg (show ¬ ((1 : Int32) = 0) by decide), if_neg (show ¬ ((0 : Int32) < 0 ∨ 7 ≤ ((0 : Int32)).toNatClampNeg) by decide), if_neg (show ¬ ((1 : Int32) < 0 ∨ 7 ≤ ((1 : Int32)).toNatClampNeg) by decide), show (0 : Int32).toNatClampNeg = 0 from rfl, show (1 : Int32).toNatClampNeg = 1 from rfl, y0, y1', p6_isRead fu h4 h1 x0, bind_sm]
  rcases p2_takeStop fu hN h3 with ⟨g, g1⟩ | ⟨g, w', g1, g2⟩
  · rw [g1]
    refine ⟨w, m, y1, Or.inr ⟨bw_0 _ _, ?_⟩⟩
    by_cases e : N 0 ≤ 7 ∧ V (N 0) 0 ≠ 0
    · rw [if_pos e, if_neg (show ¬ ((1 : Int32) = 0) by decide), if_neg (show ¬ nI (N 1) ≤ (9999 : Int32) by rw [show (9999 : Int32) = nI 9999 from rfl, nI_leN (by omega) (by omega)]; exact fun q => g ⟨e, q⟩)]
    · rw [if_neg e, if_pos rfl]
  · rw [g1, if_pos g.1, if_neg (show ¬ ((1 : Int32) = 0) by decide), if_pos (show nI (N 1) ≤ (9999 : Int32) by rw [show (9999 : Int32) = nI 9999 from rfl, nI_leN (by omega) (by omega)]; exact g.2)]
    have hlt : N 0 < 8 := by omega
    simp only [l32_9, show (296 : Int32) = nI 296 from rfl, nI_mulN, nI_addN, bnd_eq]
    simp (disch := omega) only [↓ix_no0, ↓reduceIte, nI_clN, nI_toL]
    have r4 := rf_u8 h4 hlt (N 1)
    rw [show 288 + 9 * N 0 + 8 = 296 + 9 * N 0 by omega] at r4
    exact ⟨w', m, _, Or.inl ⟨bw_1 _ _, rfl, ⟨sp_f V (N 0) 8 (N 1 + 1), M, K, cnt, Y, A, B, f_ok h1 g.1.2 (Or.inr ⟨rfl, by omega⟩), h2, g2, r4, h5, by omega, h7, h8, h9⟩, rfl, rfl, rfl, rdK_2 _ (by omega) _⟩⟩
theorem tk_m (fu : Nat) {a a' : Nat} (ha : a ≤ a') {r w m u2 y1 : ob_T} {N : Nat → Nat} (hN : nmI 2 N r y1) (hI : wmI a w m y1) (hf : mX6_figures fu u2 2 = some (1, y1)) : tkO fu 109 a' r w m u2 y1 := by
  obtain ⟨V, M, K, cnt, Y, A, B, h1, h2, h3, h4, h5, h6, h7, h8, h9⟩ := hI
  obtain ⟨x0, -, y0⟩ := hN 0 (by omega)
  obtain ⟨x1, -, y1'⟩ := hN 1 (by omega)
  have E5 : mX2_takeItem fu r w m (sgn 109) = (Option.bind (mX2_takeMarket fu r w) (fun (r14 : Int32 × ob_T) => (if r14.1 &&& 1 = r14.1 then some (r14.1, r14.2, m) else none))) := rfl
  have E6 : it6 fu (nI 109) u2 = (Option.bind (mX6_figures fu u2 (2 : Int32)) (fun (r22 : Int32 × ob_T) => (if r22.1 = 0 then some ((0 : Int32), r22.2) else (if ((0 : Int32) < 0 ∨ 7 ≤ ((0 : Int32)).toNatClampNeg) then none else (if ((12 : Int32) < 0 ∨ 15 ≤ ((12 : Int32)).toNatClampNeg) then none else (bnd (ob_L r22.2 3 (vp_updL (r22.2.2 3) (12 : Int32).toNatClampNeg ((r22.2.1 9 (0 : Int32).toNatClampNeg).toInt64))) (fun (u25 : ob_T) => (if ((1 : Int32) < 0 ∨ 7 ≤ ((1 : Int32)).toNatClampNeg) then none else (if ((13 : Int32) < 0 ∨ 15 ≤ ((13 : Int32)).toNatClampNeg) then none else (bnd (ob_L u25 3 (vp_updL (u25.2 3) (13 : Int32).toNatClampNeg ((1000 : Int64) * ((u25.1 9 (1 : Int32).toNatClampNeg).toInt64)))) (fun (u28 : ob_T) => some ((1 : Int32), u28)))))))))))) := rfl
  unfold tkO
  rw [E5, E6, hf, bind_sm]
  simp only
  rw [if_neg (show ¬ ((1 : Int32) = 0) by decide)]
  obtain ⟨w', g1, g2⟩ := p2_takeMarket fu hN h3
  simp only [l32_0, l32_1, show (12 : Int32) = nI 12 from rfl, show (13 : Int32) = nI 13 from rfl, bnd_eq, l64_1000, obL_1]
  simp (disch := omega) only [↓ix_no, ↓reduceIte, nI_clN, y0, y1', nI_toL, lN_mulN]
  rw [g1]
  refine ⟨w', m, _, Or.inl ⟨bw_1 _ _, rfl, ⟨V, sp_mk M N, K, cnt, Y, A, B, ⟨h1.1, ?_, ?_, h1.2.2.2⟩, h2, g2, ?_, h5, by omega, h7, h8, h9⟩, rfl, rfl, rfl, rdK_tr (rdK_3 _ (by omega) _) (rdK_3 _ (by omega) _)⟩⟩
  · show N 0 ≤ 99999; exact x0
  · show 1000 * N 1 ≤ 99999000; omega
  · refine ⟨h4.1, fun f hf => ?_⟩
    show vp_updL (vp_updL (y1.2 3) 12 (lN (N 0))) 13 (lN (1000 * N 1)) (3 * 4 + f) = _
    rw [updL_at, updL_at]
    unfold sp_mk
    by_cases e0 : f = 0
    · rw [if_neg (by omega), if_pos (by omega), if_pos e0]
    · by_cases e1 : f = 1
      · rw [if_pos (by omega), if_neg e0, if_pos e1]
      · rw [if_neg (by omega), if_neg (by omega), if_neg e0, if_neg e1]
        exact h4.2 f hf
theorem tk_k (fu : Nat) {a a' : Nat} (ha : a ≤ a') {r w m u2 y1 : ob_T} {N : Nat → Nat} (hN : nmI 1 N r y1) (hI : wmI a w m y1) (hf : mX6_figures fu u2 1 = some (1, y1)) : tkO fu 107 a' r w m u2 y1 := by
  obtain ⟨V, M, K, cnt, Y, A, B, h1, h2, h3, h4, h5, h6, h7, h8, h9⟩ := hI
  obtain ⟨x0, -, y0⟩ := hN 0 (by omega)
  have E5 : mX2_takeItem fu r w m (sgn 107) = (Option.bind (mX2_takeScarcity fu r w) (fun (r8 : Int32 × ob_T) => (if r8.1 &&& 1 = r8.1 then some (r8.1, r8.2, m) else none))) := rfl
  have E6 : it6 fu (nI 107) u2 = (Option.bind (mX6_figures fu u2 (1 : Int32)) (fun (r10 : Int32 × ob_T) => (if r10.1 = 0 then some ((0 : Int32), r10.2) else (if ((0 : Int32) < 0 ∨ 7 ≤ ((0 : Int32)).toNatClampNeg) then none else (Option.bind (mX6_in fu ((r10.2.1 9 (0 : Int32).toNatClampNeg).toInt64) (1 : Int64) (9999 : Int64)) (fun (r12 : Int32) => (if r12 = 0 then some ((0 : Int32), r10.2) else (if ((1 : Int32) < 0 ∨ 2 ≤ ((1 : Int32)).toNatClampNeg) then none else (bnd (ob_I r10.2 4 (upd (r10.2.1 4) (1 : Int32).toNatClampNeg (r10.2.1 9 (0 : Int32).toNatClampNeg))) (fun (u14 : ob_T) => some ((1 : Int32), u14))))))))))) := rfl
  unfold tkO
  rw [E5, E6, hf, bind_sm]
  simp only
  have hin := p6_inI fu (nI (N 0)) (a := 1) (b := 9999) (by omega) (by omega)
  rw [if_neg (show ¬ ((1 : Int32) = 0) by decide), if_neg (show ¬ ((0 : Int32) < 0 ∨ 7 ≤ ((0 : Int32)).toNatClampNeg) by decide), if_neg (show ¬ ((1 : Int32) < 0 ∨ 2 ≤ ((1 : Int32)).toNatClampNeg) by decide), show (0 : Int32).toNatClampNeg = 0 from rfl, show (1 : Int32).toNatClampNeg = 1 from rfl, y0, show (1 : Int64) = lN 1 from rfl, show (9999 : Int64) = lN 9999 from rfl, hin, bind_sm]
  rcases p2_takeScarcity fu hN h3 with ⟨g, g1⟩ | ⟨g, w', g1, g2⟩
  · rw [g1]
    refine ⟨w, m, y1, Or.inr ⟨bw_0 _ _, ?_⟩⟩
    by_cases e : N 0 < 1
    · rw [if_pos (show nI (N 0) < nI 1 by rw [nI_ltN (by omega) (by omega)]; exact e), if_pos rfl]
    · rw [if_neg (show ¬ nI (N 0) < nI 1 by rw [nI_ltN (by omega) (by omega)]; exact e), if_pos (show nI 9999 < nI (N 0) by rw [nI_ltN (by omega) (by omega)]; omega), if_pos rfl]
  · rw [g1, if_neg (show ¬ nI (N 0) < nI 1 by rw [nI_ltN (by omega) (by omega)]; omega), if_neg (show ¬ nI 9999 < nI (N 0) by rw [nI_ltN (by omega) (by omega)]; omega), if_neg (show ¬ ((1 : Int32) = 0) by decide), bnd_eq]
    refine ⟨w', m, _, Or.inl ⟨bw_1 _ _, rfl, ⟨V, M, N 0, cnt, Y, A, B, h1, g, g2, h4, ?_, by omega, h7, h8, h9⟩, rfl, rfl, rfl, rfl, rfl, rfl, ?_, rfl, fun _ _ => rfl, fun _ _ => rfl, fun _ _ => rfl⟩⟩
    · show upd (y1.1 4) 1 (nI (N 0)) 1 = _
      rw [updI_at, if_pos rfl]
    · show upd (y1.1 4) 1 (nI (N 0)) 0 = _
      rw [updI_at, if_neg (by omega)]
