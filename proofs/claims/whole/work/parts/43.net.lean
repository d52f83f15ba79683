/-! the net is learned -/
def cg (g : Nat → Int32) (b : Nat) : Nat → Nat
  | 0 => 0
  | n + 1 => bh (cg g b n) (g (b + n)).toNatClampNeg
def lok (g : Nat → Int32) (b n : Nat) : Prop := ∀ i, i < n → ∃ c, c < 3 ∧ g (b + i) = nI c
theorem lok_c {g : Nat → Int32} {b n i : Nat} (h : lok g b n) (hi : i < n) : (g (b + i)).toNatClampNeg < 3 ∧ g (b + i) = nI (g (b + i)).toNatClampNeg := by
  obtain ⟨c, hc, e⟩ := h i hi
  rw [e, tn (by omega)]
  exact ⟨hc, rfl⟩
theorem sx_cg {g : Nat → Int32} {b : Nat} : ∀ (n L : Nat), n ≤ L → lok g b L → sx n (cg g b L) = cg g (b + L - n) n
  | 0, L, _, _ => rfl
  | n + 1, 0, h, _ => by omega
  | n + 1, L + 1, h, hl => by
    have c := (lok_c hl (show L < L + 1 by omega)).1
    simp only [cg]
    rw [sx_bh c, sx_cg n L (by omega) (fun i hi => hl i (by omega)), show b + (L + 1) - (n + 1) = b + L - n by omega, show b + L - n + n = b + L by omega]
theorem cg_le {g : Nat → Int32} {b : Nat} : ∀ (L : Nat), lok g b L → cg g b L ≤ 3 * lo L
  | 0, _ => Nat.zero_le _
  | L + 1, hl => by
    have c := (lok_c hl (show L < L + 1 by omega)).1
    have := cg_le L (fun i hi => hl i (by omega))
    simp only [cg, bh, lo]
    omega
theorem sx_self_le : ∀ (n r : Nat), sx n r ≤ r
  | 0, r => Nat.zero_le _
  | n + 1, r => by
    by_cases h : r = 0
    · subst h; rw [sx_0]; omega
    · obtain ⟨k, c, hc, rfl, -⟩ := bh_ex h
      rw [sx_bh hc]
      have := sx_self_le n k
      unfold bh; omega
theorem sx_self : ∀ (n r : Nat), r ≤ 3 * lo n → sx n r = r
  | 0, r, h => by simp [lo] at h; subst h; rfl
  | n + 1, r, h => by
    by_cases h0 : r = 0
    · subst h0; exact sx_0 _
    · obtain ⟨k, c, hc, rfl, -⟩ := bh_ex h0
      rw [sx_bh hc, sx_self n k (by simp only [lo, bh] at h; omega)]
theorem sx_ge : ∀ (n r : Nat), lo n ≤ r → lo n ≤ sx n r
  | 0, r, _ => Nat.zero_le _
  | n + 1, r, h => by
    by_cases h0 : r = 0
    · subst h0; simp [lo] at h
    · obtain ⟨k, c, hc, rfl, -⟩ := bh_ex h0
      rw [sx_bh hc]
      have := sx_ge n k (by simp only [lo, bh] at h; omega)
      simp only [lo, bh]; omega
theorem cg_pf {m : Nat} {W : tW} (h : okL m W) {w fo : Nat} (hw : w < m) {g : Nat → Int32} {b : Nat} : ∀ n, n ≤ W.2.1 w → lok g b n → (cg g b n = pf W w fo n ↔ ∀ i, i < n → g (b + i) = fml (W.1 w) (W.2.1 w) (W.2.2 w) fo i)
  | 0, _, _ => ⟨fun _ i hi => by omega, fun _ => rfl⟩
  | n + 1, hn, hl => by
    have ih := cg_pf h (fo := fo) hw (g := g) (b := b) n (by omega) (fun i hi => hl i (by omega))
    obtain ⟨c1, c2⟩ := lok_c hl (show n < n + 1 by omega)
    obtain ⟨f1, f2⟩ := fN_ok h (fo := fo) hw (show n < W.2.1 w by omega)
    simp only [cg, pf]
    constructor
    · intro e i hi
      obtain ⟨e1, e2⟩ := bh_inj c1 f2 e
      by_cases ei : i = n
      · subst ei; rw [c2, f1, e2]
      · exact ih.mp e1 i (by omega)
    · intro e
      have e1 := ih.mpr (fun i hi => e i (by omega))
      have e2 := e n (by omega)
      rw [e1]
      congr 1
      rw [e2]; rfl
theorem hW_X {m : Nat} {W : tW} (h : okL m W) {w : Nat} (hw : w < m) {g : Nat → Int32} {L : Nat} (hl : lok g 0 L) : hWb (W.1 w) (W.2.1 w) (W.2.2 w) g L = hX W w (cg g 0 L) := by
  rw [Bool.eq_iff_iff, hX_iff]
  unfold hWb
  by_cases hn : W.2.1 w ≤ L
  · have e := sx_cg (g := g) (b := 0) (W.2.1 w) L hn hl
    rw [Nat.zero_add] at e
    rw [e]
    have lk : lok g (L - W.2.1 w) (W.2.1 w) := fun i hi => by
      have := hl (L - W.2.1 w + i) (by omega)
      rw [Nat.zero_add] at this; exact this
    have key : ∀ fo, (hFb (W.1 w) (W.2.1 w) (W.2.2 w) fo g (L - W.2.1 w) = true ↔ cg g (L - W.2.1 w) (W.2.1 w) = pf W w fo (W.2.1 w)) := fun fo => by
      rw [hFb_iff, cg_pf h hw _ (Nat.le_refl _) lk]
    rw [Bool.and_eq_true, Bool.or_eq_true, decide_eq_true_eq, key 0, key 1]
    constructor
    · rintro ⟨-, z | z⟩
      · exact ⟨0, by omega, z⟩
      · exact ⟨1, by omega, z⟩
    · rintro ⟨fo, hfo, z⟩
      rcases (show fo = 0 ∨ fo = 1 by omega) with rfl | rfl
      · exact ⟨hn, Or.inl z⟩
      · exact ⟨hn, Or.inr z⟩
  · rw [decide_eq_false hn, Bool.false_and]
    constructor
    · intro z; cases z
    · rintro ⟨fo, hfo, z⟩
      have a := sx_self_le (W.2.1 w) (cg g 0 L)
      have b := cg_le L hl
      have c := pf_lo W w fo (W.2.1 w)
      have d := lo_mono (show L < W.2.1 w by omega)
      omega
theorem hS_X {m : Nat} {W : tW} (h : okL m W) {g : Nat → Int32} {L : Nat} (hl : lok g 0 L) : bitS (fun w => hWb (W.1 w) (W.2.1 w) (W.2.2 w) g L) m = HS m W (cg g 0 L) :=
  bitS_congr (fun w hw => hW_X h hw hl)
theorem letters_n {k : Nat} (h : k < 121) : ∃ j, j ≤ 4 ∧ lo j ≤ k ∧ k ≤ 3 * lo j := by
  by_cases h1 : k < 1
  · exact ⟨0, by omega, by simp [lo], by simp [lo]; omega⟩
  · by_cases h2 : k < 4
    · exact ⟨1, by omega, by simp [lo]; omega, by simp [lo]; omega⟩
    · by_cases h3 : k < 13
      · exact ⟨2, by omega, by simp [lo]; omega, by simp [lo]; omega⟩
      · by_cases h4 : k < 40
        · exact ⟨3, by omega, by simp [lo]; omega, by simp [lo]; omega⟩
        · exact ⟨4, by omega, by simp [lo]; omega, by simp [lo]; omega⟩
theorem lo4 {j : Nat} (h : j ≤ 4) : lo j ≤ 40 := by
  rcases (show j = 0 ∨ j = 1 ∨ j = 2 ∨ j = 3 ∨ j = 4 by omega) with rfl | rfl | rfl | rfl | rfl <;> decide
theorem d3 {a : Nat} (h : a < 2 ^ 31) : nI a / 3 = nI (a / 3) := pk_div (d := 3) h (by omega) (by omega)
theorem r3 {a : Nat} (h : a < 2 ^ 31) : nI a - nI a / 3 * 3 = nI (a % 3) := pk_rem (d := 3) h (by omega) (by omega)
theorem d16 {a : Nat} (h : a < 2 ^ 31) : nI a / 16 = nI (a / 16) := pk_div (d := 16) h (by omega) (by omega)
theorem r16 {a : Nat} (h : a < 2 ^ 31) : nI a - nI a / 16 * 16 = nI (a % 16) := pk_rem (d := 16) h (by omega) (by omega)
theorem n3 (w : Nat) : (3 : Int32) * nI w = nI (3 * w) := pk_mul 3 w
theorem n16 (w : Nat) : (16 : Int32) * nI w = nI (16 * w) := pk_mul 16 w
theorem pm1 (x : Int32) : x + (-1) = x - 1 := by rw [Int32.sub_eq_add_neg]
section NT
variable {B : tB2} {V : tA2} {q : tQ} {F : Nat}
theorem lt_a {h : pH} {kn : Nat} : ∀ (j u many at' : Nat), many + j ≤ 4 → lo j ≤ at' → at' ≤ 3 * lo j → j < u → x_X1_layTrail_4 F h 27 (nI kn) u (nI many) (nI at') = x_X1_layTrail_25 F h 27 (nI kn) (nI (many + j)) := by
  intro j
  induction j with
  | zero =>
    intro u many at' h1 h2 h3 hu
    obtain ⟨u, rfl⟩ : ∃ z, u = z + 1 := ⟨u - 1, by omega⟩
    show s_X1_layTrail_4 _ _ _ _ _ _ _ = _
    unfold s_X1_layTrail_4
    simp only [lo] at h3
    rw [show at' = 0 by omega, if_pos (by decide)]
    rfl
  | succ j ih =>
    intro u many at' h1 h2 h3 hu
    obtain ⟨u, rfl⟩ : ∃ z, u = z + 1 := ⟨u - 1, by omega⟩
    have b := lo4 (show j + 1 ≤ 4 by omega)
    simp only [lo] at h2 h3 b
    show s_X1_layTrail_4 _ _ _ _ _ _ _ = _
    unfold s_X1_layTrail_4
    rw [if_neg (nI_nle (by omega) (by omega)), if_neg (show ¬ (4 : Int32) ≤ nI many from fun z => by have := (nI_leI (a := 4) (by omega) (by omega)).mp z; omega), nI_1, nI_sub1 (by omega), d3 (by omega), ih u (many + 1) ((at' - 1) / 3) (by omega) (by omega) (by omega) (by omega), show many + 1 + j = many + (j + 1) by omega]
theorem lt_b {L : Nat} : ∀ (j u at' : Nat) (A : tA2), j ≤ 4 → lo j ≤ at' → at' ≤ 3 * lo j → j < u → ∃ g, x_X1_layTrail_32 F 27 (nI L) u (mk A B V q) (nI at') (nI j - 1) = some (nI L, mk (va_up A 32 g) B V q) ∧ (∀ i, j ≤ i → g i = A 32 i) ∧ lok g 0 j ∧ cg g 0 j = at' := by
  intro j
  induction j with
  | zero =>
    intro u at' A h1 h2 h3 hu
    obtain ⟨u, rfl⟩ : ∃ z, u = z + 1 := ⟨u - 1, by omega⟩
    refine ⟨A 32, ?_, fun _ _ => rfl, fun i hi => by omega, by simp only [lo] at h3; simp only [cg]; omega⟩
    rw [up_same]
    show s_X1_layTrail_32 _ _ _ _ _ _ _ = _
    unfold s_X1_layTrail_32
    rw [if_pos (by decide)]
  | succ j ih =>
    intro u at' A h1 h2 h3 hu
    obtain ⟨u, rfl⟩ : ∃ z, u = z + 1 := ⟨u - 1, by omega⟩
    have b := lo4 h1
    simp only [lo] at h2 h3 b
    obtain ⟨g, e1, e2, e3, e4⟩ := ih u ((at' - 1) / 3) (u2 A 32 j (nI ((at' - 1) % 3))) (by omega) (by omega) (by omega) (by omega)
    rw [u2_up, up_up, ← u2_up] at e1
    have gj : g j = nI ((at' - 1) % 3) := by rw [e2 j (by omega), u2_s]
    refine ⟨g, ?_, fun i hi => by rw [e2 i (by omega), u2_k _ _ (by omega)], fun i hi => ?_, ?_⟩
    · show s_X1_layTrail_32 _ _ _ _ _ _ _ = _
      unfold s_X1_layTrail_32
      rw [nI_pred, if_neg (nI_pos (by omega)), r_27_4, bs, nI_sub1 (by omega), r3 (by omega), s_32 (inb_nI (by omega) (by omega)), bs, tn (by omega), d3 (by omega), pm1]
      exact e1
    · by_cases ei : i = j
      · subst ei; exact ⟨(at' - 1) % 3, by omega, by rw [Nat.zero_add]; exact gj⟩
      · exact e3 i (by omega)
    · simp only [cg]
      rw [e4, Nat.zero_add, gj, tn (by omega)]
      unfold bh; omega
theorem x1_layTrail {A : tA2} {kn : Nat} (hk : kn < 121) (hF : 10 ≤ F) : ∃ g L, x_X1_layTrail F (mk A B V q) 27 (nI kn) = some (nI L, mk (va_up A 32 g) B V q) ∧ L ≤ 4 ∧ lok g 0 L ∧ cg g 0 L = kn := by
  obtain ⟨j, j1, j2, j3⟩ := letters_n hk
  obtain ⟨g, e1, e2, e3, e4⟩ := lt_b (B := B) (V := V) (q := q) (F := F) (L := j) j F kn A j1 j2 j3 (by omega)
  refine ⟨g, j, ?_, j1, e3, e4⟩
  unfold x_X1_layTrail
  have := lt_a (F := F) (h := mk A B V q) (kn := kn) j F 0 kn (by omega) j2 j3 (by omega)
  rw [nI_0, Nat.zero_add] at this
  rw [c_27, bs, this]
  exact e1
/-! the stays are marked -/
def shN (k : Nat) : Nat := if k < 4 then 0 else if k < 13 then sx 1 k else if k < 40 then sx 2 k else sx 3 k
def SSp (g : Nat → Int32) : Prop := ∀ k, k < 121 → g k = nI (shN k)
theorem vnar (x : Int32) (h : x = 0 ∨ x = 1) : vp_nar .boolean x = x := by rcases h with rfl | rfl <;> decide
theorem x1_mb_loop {m : Nat} {W : tW} (h : okL m W) {a w fo : Nat} (hw : w < m) (hfo : fo ≤ 1) (ha : a + 1 ≠ 31) : ∀ (d u j : Nat) (A : tA2) (b : Nat → Bool), j + d + 1 = W.2.1 w → d < u → atW A V a (W.1 w) (W.2.1 w) (W.2.2 w) → (∀ s, s < 40 → A 31 s = cI (b s)) → ∃ g, x_X1_markBeginnings_5 F 27 a (nI fo) u (mk A B V q) (nI (pf W w fo j)) (nI j) = some (mk (va_up A 31 g) B V q) ∧ ∀ s, s < 40 → g s = cI (b s || anyF (fun i => decide (s = pf W w fo (i + 1))) j d) := by
  obtain ⟨-, l1, l4, -⟩ := h.2 w hw
  intro d
  induction d with
  | zero =>
    intro u j A b hj hu hA hb
    obtain ⟨u, rfl⟩ : ∃ z, u = z + 1 := ⟨u - 1, by omega⟩
    refine ⟨A 31, ?_, fun s hs => by simp only [anyF, Bool.or_false]; exact hb s hs⟩
    rw [up_same]
    show s_X1_markBeginnings_5 _ _ _ _ _ _ _ _ = _
    unfold s_X1_markBeginnings_5
    rw [gW1 hA.1, bs, hA.2.2.1, nI_1, if_pos ((nI_leI (by omega) (by omega)).mpr (by omega))]
  | succ d ih =>
    intro u j A b hj hu hA hb
    obtain ⟨u, rfl⟩ : ∃ z, u = z + 1 := ⟨u - 1, by omega⟩
    obtain ⟨f1, f2⟩ := fN_ok h (fo := fo) hw (show j < W.2.1 w by omega)
    have p3 := pf_hi h (fo := fo) hw (j + 1) (by omega)
    have l3 : lo (j + 1) ≤ 13 := by
      rcases (show j + 1 = 1 ∨ j + 1 = 2 ∨ j + 1 = 3 by omega) with e | e | e <;> rw [e] <;> decide
    obtain ⟨g, e1, e2⟩ := ih u (j + 1) (u2 A 31 (pf W w fo (j + 1)) 1) (fun s => b s || decide (s = pf W w fo (j + 1))) (by omega) (by omega) (atW_c hA (u2_pp _ _ ha) rfl) (fun s hs => by
      by_cases e : s = pf W w fo (j + 1)
      · rw [e, u2_s, decide_eq_true rfl, Bool.or_true]; rfl
      · rw [u2_k _ _ e, decide_eq_false e, Bool.or_false]; exact hb s hs)
    rw [u2_up, up_up, ← u2_up] at e1
    refine ⟨g, ?_, fun s hs => ?_⟩
    · show s_X1_markBeginnings_5 _ _ _ _ _ _ _ _ = _
      unfold s_X1_markBeginnings_5 x_X1_markBeginnings_41 x_X1_behind
      have ebh : (3 : Int32) * nI (pf W w fo j) + 1 + nI (fN W w fo j) = nI (pf W w fo (j + 1)) := by
        rw [n3, nI_1, nI_add]; rfl
      rw [gW1 hA.1, bs, hA.2.2.1, nI_1, if_neg (fun z => by have := (nI_leI (by omega) (by omega)).mp z; omega), x6_letterOf hA (by omega) hfo, bs, f1, bs, ebh, if_neg (show ¬ (40 : Int32) ≤ nI (pf W w fo (j + 1)) from fun z => by have := (nI_leI (a := 40) (by omega) (by omega)).mp z; omega), r_27_3, bs, vnar 1 (Or.inr rfl), s_31 (inb_nI (by omega) (by omega)), bs, tn (by omega)]
      exact e1
    · rw [e2 s hs]
      simp only [anyF]
      rw [Bool.or_assoc]
def mkB (W : tW) (w fo s : Nat) : Bool := anyF (fun i => decide (s = pf W w fo (i + 1))) 0 (W.2.1 w - 1)
theorem x1_markBeginnings {m : Nat} {W : tW} (h : okL m W) {a w fo : Nat} (hw : w < m) (hfo : fo ≤ 1) (ha : a + 1 ≠ 31) {A : tA2} {b : Nat → Bool} (hF : 10 ≤ F) (hA : atW A V a (W.1 w) (W.2.1 w) (W.2.2 w)) (hb : ∀ s, s < 40 → A 31 s = cI (b s)) : ∃ g, x_X1_markBeginnings F (mk A B V q) 27 a (nI fo) = some (mk (va_up A 31 g) B V q) ∧ ∀ s, s < 40 → g s = cI (b s || mkB W w fo s) := by
  obtain ⟨-, l1, l4, -⟩ := h.2 w hw
  unfold x_X1_markBeginnings
  rw [c_27, bs]
  exact x1_mb_loop h hw hfo ha (W.2.1 w - 1) F 0 A b (by omega) (by omega) hA hb
theorem x1_ms_words {m : Nat} {W : tW} (h : okL m W) (hq : okQ q) (hF : 10 ≤ F) : ∀ (d u w : Nat) (A : tA2) (b : Nat → Bool), w + d = m → d < u → repX A V q.1 m W.1 W.2.1 W.2.2 → (∀ s, s < 40 → A 31 s = cI (b s)) → ∃ g, x_X1_markStays_31 F 27 q.1 (nI m) u (mk A B V q) (nI w) = some (mk (va_up A 31 g) B V q) ∧ ∀ s, s < 40 → g s = cI (b s || anyF (fun w => mkB W w 0 s || mkB W w 1 s) w d) := by
  have hm := h.1
  intro d
  induction d with
  | zero =>
    intro u w A b hw hu hX hb
    obtain ⟨u, rfl⟩ : ∃ z, u = z + 1 := ⟨u - 1, by omega⟩
    refine ⟨A 31, ?_, fun s hs => by simp only [anyF, Bool.or_false]; exact hb s hs⟩
    rw [up_same]
    show s_X1_markStays_31 _ _ _ _ _ _ _ = _
    unfold s_X1_markStays_31
    rw [if_pos ((nI_leI (by omega) (by omega)).mpr (by omega))]
  | succ d ih =>
    intro u w A b hw hu hX hb
    obtain ⟨u, rfl⟩ : ∃ z, u = z + 1 := ⟨u - 1, by omega⟩
    obtain ⟨v, hv⟩ : ∃ v, F = v + 3 := ⟨F - 3, by omega⟩
    have wb := wpl_b hq (show w < 4 by omega)
    obtain ⟨g0, e0, f0⟩ := x1_markBeginnings (B := B) (q := q) (fo := 0) h (show w < m by omega) (by omega) (by omega) hF (hX w (by omega)) hb
    obtain ⟨g1, e1, f1⟩ := x1_markBeginnings (B := B) (q := q) (fo := 1) h (show w < m by omega) (by omega) (show wpl q.1 w + 1 ≠ 31 by omega) hF (A := va_up A 31 g0) (b := fun s => b s || mkB W w 0 s) (atW_c (hX w (by omega)) (up_ne _ _ (by omega)) rfl) (fun s hs => by rw [up_at]; exact f0 s hs)
    rw [up_up] at e1
    obtain ⟨g2, e2, f2⟩ := ih u (w + 1) (va_up A 31 g1) (fun s => (b s || mkB W w 0 s) || mkB W w 1 s) (by omega) (by omega) (repX_c hq hm hX (fun p h1 h2 => ⟨up_ne _ _ (by omega), rfl⟩)) (fun s hs => by rw [up_at]; exact f1 s hs)
    rw [up_up] at e2
    refine ⟨g2, ?_, fun s hs => ?_⟩
    · show s_X1_markStays_31 _ _ _ _ _ _ _ = _
      unfold s_X1_markStays_31
      rw [if_neg (fun z => by have := (nI_leI (by omega) (by omega)).mp z; omega)]
      have l2 : x_X1_markStays_39 F (x_X1_markStays_31 F 27 q.1 (nI m) u) 27 q.1 (nI m) (nI w) (v + 1) (mk (va_up A 31 g1) B V q) (nI 2) = x_X1_markStays_31 F 27 q.1 (nI m) u (mk (va_up A 31 g1) B V q) (nI (w + 1)) := by
        show s_X1_markStays_39 _ _ _ _ _ _ _ _ _ = _
        unfold s_X1_markStays_39
        rw [if_pos (by decide), nI_1]
      have l1 : x_X1_markStays_39 F (x_X1_markStays_31 F 27 q.1 (nI m) u) 27 q.1 (nI m) (nI w) (v + 2) (mk (va_up A 31 g0) B V q) (nI 1) = x_X1_markStays_31 F 27 q.1 (nI m) u (mk (va_up A 31 g1) B V q) (nI (w + 1)) := by
        show s_X1_markStays_39 _ _ _ _ _ _ _ _ _ = _
        unfold s_X1_markStays_39
        rw [if_neg (by decide), l_kn (okQ_kn hq) (by omega), bs, e1, bs, nI_1, l2]
      have l0 : x_X1_markStays_39 F (x_X1_markStays_31 F 27 q.1 (nI m) u) 27 q.1 (nI m) (nI w) (v + 3) (mk A B V q) (nI 0) = x_X1_markStays_31 F 27 q.1 (nI m) u (mk (va_up A 31 g1) B V q) (nI (w + 1)) := by
        show s_X1_markStays_39 _ _ _ _ _ _ _ _ _ = _
        unfold s_X1_markStays_39
        rw [if_neg (by decide), l_kn (okQ_kn hq) (by omega), bs, e0, bs, nI_1, l1]
      rw [← e2, ← l0, ← hv]
      rfl
    · rw [f2 s hs]
      simp only [anyF]
      rw [Bool.or_assoc, Bool.or_assoc, Bool.or_assoc]
theorem x1_ms_init {m : Nat} {kn : Nat} : ∀ (d u s : Nat) (A : tA2), s + d = 40 → d < u → (∀ i, i < s → A 31 i = cI (decide (i = 0))) → ∃ g, x_X1_markStays_2 F 27 kn (nI m) u (mk A B V q) (nI s) = x_X1_markStays_31 F 27 kn (nI m) F (mk (va_up A 31 g) B V q) 0 ∧ ∀ i, i < 40 → g i = cI (decide (i = 0)) := by
  intro d
  induction d with
  | zero =>
    intro u s A hs hu hA
    obtain ⟨u, rfl⟩ : ∃ z, u = z + 1 := ⟨u - 1, by omega⟩
    refine ⟨A 31, ?_, fun i hi => hA i (by omega)⟩
    rw [up_same]
    show s_X1_markStays_2 _ _ _ _ _ _ _ = _
    unfold s_X1_markStays_2
    rw [if_pos (show (40 : Int32) ≤ nI s from (nI_leI (a := 40) (by omega) (by omega)).mpr (by omega))]
  | succ d ih =>
    intro u s A hs hu hA
    obtain ⟨u, rfl⟩ : ∃ z, u = z + 1 := ⟨u - 1, by omega⟩
    obtain ⟨g, e1, e2⟩ := ih u (s + 1) (u2 A 31 s (cI (decide (s = 0)))) (by omega) (by omega) (fun i hi => by
      by_cases e : i = s
      · subst e; rw [u2_s]
      · rw [u2_k _ _ e]; exact hA i (by omega))
    rw [u2_up, up_up, ← u2_up] at e1
    refine ⟨g, ?_, e2⟩
    show s_X1_markStays_2 _ _ _ _ _ _ _ = _
    unfold s_X1_markStays_2 x_X1_markStays_22
    rw [if_neg (show ¬ (40 : Int32) ≤ nI s from fun z => by have := (nI_leI (a := 40) (by omega) (by omega)).mp z; omega), r_27_3, bs]
    by_cases e0 : s = 0
    · rw [if_pos (by rw [e0]; rfl), vnar 1 (Or.inr rfl), s_31 (inb_nI (by omega) (by omega)), bs, tn (by omega), nI_1]
      rw [decide_eq_true e0] at e1
      exact e1
    · rw [if_neg (nz0 e0 (by omega)), vnar 0 (Or.inl rfl), s_31 (inb_nI (by omega) (by omega)), bs, tn (by omega), nI_1]
      rw [decide_eq_false e0] at e1
      exact e1
theorem x1_markStays {m : Nat} {W : tW} (h : okL m W) (hq : okQ q) {A : tA2} (hF : 50 ≤ F) (hX : repX A V q.1 m W.1 W.2.1 W.2.2) : ∃ g, x_X1_markStays F (mk A B V q) 27 q.1 (nI m) = some (mk (va_up A 31 g) B V q) ∧ ∀ s, s < 40 → g s = cI (stB m W s) := by
  have hm := h.1
  obtain ⟨g0, e0, f0⟩ := x1_ms_init (B := B) (V := V) (q := q) (F := F) (m := m) (kn := q.1) 40 F 0 A (by omega) (by omega) (fun i hi => by omega)
  obtain ⟨g1, e1, f1⟩ := x1_ms_words (B := B) (V := V) (F := F) h hq (by omega) m F 0 (va_up A 31 g0) (fun s => decide (s = 0)) (by omega) (by omega) (repX_c hq hm hX (fun p h1 h2 => ⟨up_ne _ _ (by omega), rfl⟩)) (fun s hs => by rw [up_at]; exact f0 s hs)
  rw [up_up] at e1
  refine ⟨g1, ?_, fun s hs => ?_⟩
  · unfold x_X1_markStays
    rw [c_27, bs]
    rw [nI_0] at e0 e1
    rw [e0, e1]
  · rw [f1 s hs]
    congr 1
    rw [Bool.eq_iff_iff, stB_iff, Bool.or_eq_true, decide_eq_true_eq, anyF_iff]
    constructor
    · rintro (z | ⟨w, -, hw, z⟩)
      · exact Or.inl z
      · right
        rw [Bool.or_eq_true] at z
        rcases z with z | z
        · obtain ⟨i, -, hi, z⟩ := (anyF_iff _ _ _).mp z
          exact ⟨w, 0, i + 1, by omega, by omega, by omega, by simpa using z⟩
        · obtain ⟨i, -, hi, z⟩ := (anyF_iff _ _ _).mp z
          exact ⟨w, 1, i + 1, by omega, by omega, by omega, by simpa using z⟩
    · rintro (z | ⟨w, fo, i, hw, hfo, hi, z⟩)
      · exact Or.inl z
      · cases i with
        | zero => exact Or.inl z
        | succ i =>
          right
          refine ⟨w, by omega, by omega, ?_⟩
          rw [Bool.or_eq_true]
          rcases (show fo = 0 ∨ fo = 1 by omega) with rfl | rfl
          · exact Or.inl ((anyF_iff _ _ _).mpr ⟨i, by omega, by omega, by simpa using z⟩)
          · exact Or.inr ((anyF_iff _ _ _).mpr ⟨i, by omega, by omega, by simpa using z⟩)
end NT
