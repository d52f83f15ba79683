/-! the shortest row is laid -/
theorem bi_all {m : Nat} {W : tW} (h : okL m W) (h1 : 1 ≤ m) {A : tA2} {many : Nat} {rw : Nat → Nat} (hB : BI m W A many (3 * many) rw) : ∀ r, ∃ j, j < many ∧ PP m W (rw j) = PP m W r ∧ rw j ≤ r := by
  have hm := h.1
  obtain ⟨b1, b2, b3, b4, b5, b6, b7, b8⟩ := hB
  refine row_ind ⟨0, by omega, by rw [b3], by rw [b3]; omega⟩ ?_
  rintro k c hc ⟨j, j1, j2, j3⟩
  obtain ⟨y1, j', y2, y3, y4, y5⟩ := b8 (3 * j + c) (by omega)
  rw [show (3 * j + c) / 3 = j by omega, show (3 * j + c) % 3 = c by omega] at y4 y5
  refine ⟨j', y2, ?_, ?_⟩
  · rw [y4, PP_bh h hc, PP_bh h hc, j2]
  · unfold bh at y5 ⊢; omega
def PO (m : Nat) (W : tW) (A V : tA2) : Prop := ∃ many rw wp D, BI m W A many (3 * many) rw ∧ V 33 5 = nI many ∧ wp < many ∧ V 33 6 = nI wp ∧ D ≤ 16 ∧ V 33 7 = nI D ∧ lok (A 38) 0 D ∧ cg (A 38) 0 D = rw wp ∧ ST m W (rw wp) = fll m ∧ (∀ r', ST m W r' = fll m → rw wp ≤ r')
theorem lo_len : ∀ {n r : Nat}, r ≤ 3 * lo n → ∃ j, j ≤ n ∧ lo j ≤ r ∧ r ≤ 3 * lo j := by
  intro n
  induction n with
  | zero => intro r h; exact ⟨0, by omega, by simp [lo], h⟩
  | succ n ih =>
    intro r h
    by_cases e : lo (n + 1) ≤ r
    · exact ⟨n + 1, by omega, e, h⟩
    · obtain ⟨j, j1, j2, j3⟩ := ih (r := r) (by simp only [lo] at e; omega)
      exact ⟨j, by omega, j2, j3⟩
section LA
variable {B : tB2} {q : tQ} {F : Nat}
theorem ls_a {m : Nat} {W : tW} {A V : tA2} {many : Nat} {rw : Nat → Nat} (hB : BI m W A many (3 * many) rw) : ∀ (L u j len : Nat), lo L ≤ rw j → rw j ≤ 3 * lo L → j < many → len + L ≤ 16 → L < u → x_X2_layShortestRow_10 F 33 u (mk A B (u2 V 33 7 (nI len)) q) (nI j) = x_X2_layShortestRow_45 F (mk A B (u2 V 33 7 (nI (len + L))) q) 33 := by
  obtain ⟨b1, b2, b3, b4, b5, b6, b7, b8⟩ := hB
  intro L
  induction L with
  | zero =>
    intro u j len h1 h2 hj hl hu
    obtain ⟨u, rfl⟩ : ∃ z, u = z + 1 := ⟨u - 1, by omega⟩
    have j0 : j = 0 := by
      rcases Nat.eq_zero_or_pos j with z | z
      · exact z
      · have := b7 0 j z hj
        simp only [lo] at h2
        omega
    show s_X2_layShortestRow_10 _ _ _ _ _ = _
    unfold s_X2_layShortestRow_10
    rw [j0, if_pos (by decide)]
    rfl
  | succ L ih =>
    intro u j len h1 h2 hj hl hu
    obtain ⟨u, rfl⟩ : ∃ z, u = z + 1 := ⟨u - 1, by omega⟩
    have j1 : 1 ≤ j := by
      rcases Nat.eq_zero_or_pos j with z | z
      · rw [z, b3] at h1; simp only [lo] at h1; omega
      · exact z
    obtain ⟨p, c, y1, y2, y3, y4, y5⟩ := b6 j j1 hj
    rw [y3] at h1 h2
    simp only [lo, bh] at h1 h2
    show s_X2_layShortestRow_10 _ _ _ _ _ = _
    unfold s_X2_layShortestRow_10
    rw [if_neg (nI_nle (by omega) (by omega)), g_33_7, bs, u2_s, if_neg (show ¬ (16 : Int32) ≤ nI len from fun z => by have := (nI_leI (a := 16) (by omega) (by omega)).mp z; omega), bs, nI_1, w_33_7, bs, r_33_2, bs, l_36 (inb_nI (by omega) (by omega)), bs, tn (by omega), y4, u2_u2, d3 (by omega), show (3 * p + c) / 3 = p by omega, ih u p (len + 1) (by omega) (by omega) (by omega) (by omega) (by omega), show len + 1 + L = len + (L + 1) by omega]
theorem ls_b {m : Nat} {W : tW} {V : tA2} {many : Nat} {rw : Nat → Nat} : ∀ (L u j : Nat) (A : tA2), BI m W A many (3 * many) rw → lo L ≤ rw j → rw j ≤ 3 * lo L → j < many → L ≤ 16 → L < u → ∃ g, x_X2_layShortestRow_57 F 33 u (mk A B V q) (nI j) (nI L - 1) = some (mk (va_up A 38 g) B V q) ∧ (∀ i, L ≤ i → g i = A 38 i) ∧ lok g 0 L ∧ cg g 0 L = rw j := by
  intro L
  induction L with
  | zero =>
    intro u j A hB h1 h2 hj hl hu
    obtain ⟨u, rfl⟩ : ∃ z, u = z + 1 := ⟨u - 1, by omega⟩
    refine ⟨A 38, ?_, fun _ _ => rfl, fun i hi => by omega, by simp only [lo] at h2; simp only [cg]; omega⟩
    rw [up_same]
    show s_X2_layShortestRow_57 _ _ _ _ _ _ = _
    unfold s_X2_layShortestRow_57
    rw [if_pos (by decide)]
  | succ L ih =>
    intro u j A hB h1 h2 hj hl hu
    obtain ⟨u, rfl⟩ : ∃ z, u = z + 1 := ⟨u - 1, by omega⟩
    have hB0 := hB
    obtain ⟨b1, b2, b3, b4, b5, b6, b7, b8⟩ := hB
    have j1 : 1 ≤ j := by
      rcases Nat.eq_zero_or_pos j with z | z
      · rw [z, b3] at h1; simp only [lo] at h1; omega
      · exact z
    obtain ⟨p, c, y1, y2, y3, y4, y5⟩ := b6 j j1 hj
    rw [y3] at h1 h2 ⊢
    simp only [lo, bh] at h1 h2
    obtain ⟨g, e1, e2, e3, e4⟩ := ih u p (u2 A 38 L (nI c)) (by
      refine ⟨b1, b2, b3, fun j hj => ?_, fun x hx hn => ?_, fun j h1 h2 => ?_, b7, fun s hs => ?_⟩
      · rw [u2_p _ _ (by omega), u2_p _ _ (by omega)]; exact b4 j hj
      · rw [u2_p _ _ (by omega)]; exact b5 x hx hn
      · obtain ⟨p', c', z1, z2, z3, z4, z5⟩ := b6 j h1 h2
        exact ⟨p', c', z1, z2, z3, by rw [u2_p _ _ (by omega)]; exact z4, z5⟩
      · obtain ⟨z1, j', z2, z3, z4⟩ := b8 s hs
        exact ⟨z1, j', z2, by rw [u2_p _ _ (by omega)]; exact z3, z4⟩) (by omega) (by omega) (by omega) (by omega) (by omega)
    rw [u2_up, up_up, ← u2_up] at e1
    have gL : g L = nI c := by rw [e2 L (by omega), u2_s]
    refine ⟨g, ?_, fun i hi => by rw [e2 i (by omega), u2_k _ _ (by omega)], fun i hi => ?_, ?_⟩
    · show s_X2_layShortestRow_57 _ _ _ _ _ _ = _
      unfold s_X2_layShortestRow_57
      rw [nI_pred, if_neg (nI_pos (by omega)), r_33_4, bs, r_33_2, bs, l_36 (inb_nI (by omega) (by omega)), bs, tn (by omega), y4, r3 (by omega), s_38 (inb_nI (by omega) (by omega)), bs, r_33_2, bs, l_36 (inb_nI (by omega) (by omega)), bs, tn (by omega), tn (by omega), u2_p _ _ (by omega), y4, d3 (by omega), pm1, show (3 * p + c) / 3 = p by omega, show (3 * p + c) % 3 = c by omega]
      exact e1
    · by_cases ei : i = L
      · subst ei; exact ⟨c, y2, by rw [Nat.zero_add]; exact gL⟩
      · exact e3 i (by omega)
    · simp only [cg]
      rw [e4, Nat.zero_add, gL, tn (by omega)]
theorem BI_c {m : Nat} {W : tW} {A A' : tA2} {many i : Nat} {rw : Nat → Nat} (h : BI m W A many i rw) (h4 : A' 34 = A 34) (h5 : A' 35 = A 35) (h6 : A' 36 = A 36) (h7 : A' 37 = A 37) : BI m W A' many i rw := by
  unfold BI
  rw [h4, h5, h6, h7]
  exact h
theorem x2_74 {m : Nat} {W : tW} (h : okL m W) (h1 : 1 ≤ m) {A V : tA2} {many : Nat} {rw : Nat → Nat} (hB : BI m W A many (3 * many) rw) (hM : V 33 5 = nI many) (hV : V 27 5 = nI (fll m)) (hF : 30 ≤ F) : ∃ g x y, x_X2_lay_74 F (mk A B V q) 33 27 = some (mk (va_up A 38 g) B (u2 (u2 V 33 6 x) 33 7 y) q) ∧ PO m W (va_up A 38 g) (u2 (u2 V 33 6 x) 33 7 y) := by
  have hm := h.1
  obtain ⟨r, r1, r2, r3⟩ := least_row h
  obtain ⟨wp, w1, w2, w3⟩ := bi_all h h1 hB r
  have ew : rw wp = r := by
    have : ST m W (rw wp) = fll m := by rw [← PP_fll hm, w2, PP_fll hm]; exact r2
    have := r3 _ this
    omega
  obtain ⟨D, d1, d2, d3'⟩ := lo_len r1
  obtain ⟨b1, b2, b3, b4, b5, b6, b7, b8⟩ := id hB
  have h34 : A 34 (fll m) = nI wp := by
    have := (b4 wp w1).2
    rw [w2, (PP_fll hm).mpr r2] at this
    exact this
  have hfl := fll_lt hm
  have la := ls_a (B := B) (q := q) (F := F) (V := u2 V 33 6 (nI wp)) hB D F wp 0 (by rw [ew]; exact d2) (by rw [ew]; exact d3') w1 (by omega) (by omega)
  obtain ⟨g, e1, e2, e3, e4⟩ := ls_b (B := B) (q := q) (F := F) (V := u2 (u2 V 33 6 (nI wp)) 33 7 (nI D)) D F wp A hB (by rw [ew]; exact d2) (by rw [ew]; exact d3') w1 (by omega) (by omega)
  refine ⟨g, nI wp, nI D, ?_, many, rw, wp, D, BI_c hB (up_ne _ _ (by omega)) (up_ne _ _ (by omega)) (up_ne _ _ (by omega)) (up_ne _ _ (by omega)), by rw [u2_k _ _ (by omega), u2_k _ _ (by omega)]; exact hM, w1, by rw [u2_k _ _ (by omega), u2_s], by omega, u2_s _ _ _ _, by rw [up_at]; exact e3, by rw [up_at]; exact e4, by rw [ew]; exact r2, fun r' hr' => by rw [ew]; exact r3 r' hr'⟩
  unfold x_X2_lay_74 x_X2_layShortestRow
  rw [r_33_0, bs, g_27_5, bs, hV, l_34 (inb_nI (by omega) (by omega)), bs, tn (by omega), h34, mx0 (by omega), w_33_6, bs, c_33, bs, w_33_7, bs, g_33_6, bs, u2_k _ _ (by omega), u2_s]
  rw [nI_0, Nat.zero_add] at la
  rw [la]
  unfold x_X2_layShortestRow_45
  rw [g_33_6, bs, u2_k _ _ (by omega), u2_s, g_33_7, bs, u2_s, e1, bs]
theorem x2_lay {m : Nat} {W : tW} (h : okL m W) (h1 : 1 ≤ m) {A V : tA2} (hK : netK A m W 40) (hV : V 27 5 = nI (fll m)) (hF : 700 ≤ F) : ∃ A' V', x_X2_lay F (mk A B V q) 33 27 = some (mk A' B V' q) ∧ (∀ p, ¬ (34 ≤ p ∧ p ≤ 38) → A' p = A p) ∧ (∀ p k, ¬ (p = 33 ∧ (k = 5 ∨ k = 6 ∨ k = 7)) → V' p k = V p k) ∧ PO m W A' V' := by
  have hm := h.1
  have P0 := PP_0 h1 hm (W := W)
  obtain ⟨A0, hA0⟩ : ∃ A0, A0 = va_up A 34 (fil (A 34) 0 640 (-9)) := ⟨_, rfl⟩
  have a34 : ∀ x, x < 640 → A0 34 x = -9 := fun x hx => by rw [hA0, up_at]; unfold fil; rw [if_pos (by omega)]
  have fd := x2_find_new (B := B) (q := q) (F := F) (A := A0) (V := u2 V 33 5 0) (X := 0) (many := 0) (st := 0) (by omega) (by omega) (a34 0 (by omega)) (u2_s _ _ _ _)
  obtain ⟨A1, hA1⟩ : ∃ A1, A1 = u2 (u2 (u2 A0 34 0 (nI 0)) 35 0 (nI 0)) 36 0 0 := ⟨_, rfl⟩
  rw [← hA1, u2_u2] at fd
  have ag1 : ∀ p, ¬ (34 ≤ p ∧ p ≤ 37) → A1 p = A p := fun p hp => by rw [hA1, u2_pp _ _ (by omega), u2_pp _ _ (by omega), u2_pp _ _ (by omega), hA0, up_ne _ _ (by omega)]
  have bi : BI m W A1 1 (3 * 0) (fun _ => 0) := by
    refine ⟨by omega, by omega, rfl, fun j hj => ?_, fun x hx hn => ?_, fun j h1 h2 => by omega, fun j j' h1 h2 => by omega, fun s hs => by omega⟩
    · rw [show j = 0 by omega, P0, hA1, u2_p _ _ (by omega), u2_s, u2_p _ _ (by omega), u2_p _ _ (by omega), u2_s]
      exact ⟨rfl, rfl⟩
    · have := hn 0 (by omega)
      rw [P0] at this
      rw [hA1, u2_p _ _ (by omega), u2_p _ _ (by omega), u2_k _ _ (by omega)]
      exact a34 x hx
  obtain ⟨A2, many, rw, i1, i2, i3⟩ := x2_lay_out (B := B) (q := q) (F := F) h (by omega) 320 F 0 A1 (u2 V 33 5 (nI 1)) 1 (fun _ => 0) (by omega) (by omega) (netK_c hK (ag1 _ (by omega)) (ag1 _ (by omega))) (by rw [u2_p _ _ (by omega)]; exact hV) (u2_s _ _ _ _) (by omega) bi
  rw [u2_u2] at i1
  obtain ⟨g, x, y, j1, j2⟩ := x2_74 (B := B) (q := q) (F := F) h h1 i3 (V := u2 V 33 5 (nI many)) (u2_s _ _ _ _) (by rw [u2_p _ _ (by omega)]; exact hV) (by omega)
  refine ⟨_, _, ?_, fun p hp => by rw [up_ne _ _ (by omega), i2 p (by omega), ag1 p (by omega)], fun p k hp => by rw [u2_ne (by omega), u2_ne (by omega), u2_ne (by omega)], j2⟩
  unfold x_X2_lay
  rw [c_33, bs, r_33_0, bs, x_fill (n := 640) rfl (by omega) (-9) (by omega), bs, ← hA0, w_33_5, bs]
  rw [nI_0] at fd i1
  rw [fd, bs]
  dsimp only
  rw [← j1]
  exact i1
end LA
