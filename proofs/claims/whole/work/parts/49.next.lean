/-! ends: the model's side -/
def vl (g : Nat → Int32) (b : Nat) : Nat → Nat
  | 0 => 0
  | n + 1 => 3 * vl g b n + (g (b + n)).toNatClampNeg
theorem cg_vl (g : Nat → Int32) (b : Nat) : ∀ n, cg g b n = lo n + vl g b n
  | 0 => rfl
  | n + 1 => by
    simp only [cg, vl, lo, bh]
    rw [cg_vl g b n]
    omega
theorem cg_congr {g g' : Nat → Int32} {b : Nat} : ∀ n, (∀ i, i < n → g (b + i) = g' (b + i)) → cg g b n = cg g' b n
  | 0, _ => rfl
  | n + 1, h => by
    simp only [cg]
    rw [cg_congr n (fun i hi => h i (by omega)), h n (by omega)]
def netM (A : tA2) (m : Nat) (W : tW) (n : Nat) : Prop := ∀ e, e < n → ∀ c, c < 3 → A 80 (3 * e + c) = nI (sx 3 (bh e c)) ∧ A 81 (3 * e + c) = nI (HS m W (bh e c))
theorem netM_c {A A' : tA2} {m : Nat} {W : tW} {n : Nat} (h : netM A m W n) (h1 : A' 80 = A 80) (h2 : A' 81 = A 81) : netM A' m W n := fun e he c hc => by rw [h1, h2]; exact h e he c hc
section NX
variable {B : tB2} {V : tA2} {q : tQ} {F : Nat}
theorem eo_loop {A : tA2} {b n s0 : Nat} (hbn : b + n ≤ 60) (hl : lok (A 79) b n) : ∀ (d u i : Nat), i + d = n → d < u → x_X8_endOf_48 F (mk A B V q) 68 (nI (b + n)) (nI s0) u (nI (vl (A 79) b i)) (nI (b + i)) = some (nI (s0 + vl (A 79) b n)) := by
  intro d
  induction d with
  | zero =>
    intro u i hi hu
    obtain ⟨u, rfl⟩ : ∃ z, u = z + 1 := ⟨u - 1, by omega⟩
    show s_X8_endOf_48 _ _ _ _ _ _ _ _ = _
    unfold s_X8_endOf_48
    rw [if_pos ((nI_leI (by omega) (by omega)).mpr (by omega)), nI_add, show i = n by omega]
  | succ d ih =>
    intro u i hi hu
    obtain ⟨u, rfl⟩ : ∃ z, u = z + 1 := ⟨u - 1, by omega⟩
    obtain ⟨c1, c2⟩ := lok_c hl (show i < n by omega)
    have e := ih u (i + 1) (by omega) (by omega)
    simp only [vl] at e
    show s_X8_endOf_48 _ _ _ _ _ _ _ _ = _
    unfold s_X8_endOf_48
    rw [if_neg (fun z => by have := (nI_leI (by omega) (by omega)).mp z; omega), r_68_16, bs, l_79 (inb_nI (by omega) (by omega)), bs, tn (by omega), c2, n3, nI_add, nI_1]
    exact e
theorem x8_endOf {A : tA2} {L : Nat} (hL : L ≤ 4) (hl : lok (A 79) 0 L) (hF : 10 ≤ F) : x_X8_endOf F (mk A B V q) 68 (nI L) = some (nI (sx 3 (cg (A 79) 0 L))) := by
  unfold x_X8_endOf
  rw [c_68, bs]
  have go : ∀ j, j ≤ 3 → j ≤ L → sx 3 (cg (A 79) 0 L) = cg (A 79) (L - j) j → x_X8_endOf_10 F (mk A B V q) 68 (nI L) (nI j) = some (nI (sx 3 (cg (A 79) 0 L))) := by
    intro j hj hjL e
    rw [e, cg_vl]
    have lk : lok (A 79) (L - j) j := fun i hi => by
      have := hl (L - j + i) (by omega)
      rw [Nat.zero_add] at this; exact this
    have lp := fun s0 => eo_loop (B := B) (V := V) (q := q) (F := F) (A := A) (b := L - j) (n := j) (s0 := s0) (by omega) lk j F 0 (by omega) (by omega)
    simp only [vl, Nat.add_zero, show L - j + j = L by omega] at lp
    unfold x_X8_endOf_10 x_X8_endOf_39
    rw [pk_sub hjL]
    rcases (show j = 0 ∨ j = 1 ∨ j = 2 ∨ j = 3 by omega) with rfl | rfl | rfl | rfl
    · rw [if_pos nI_0]; exact lp 0
    · rw [if_neg (by decide), if_pos e1.symm]; exact lp 1
    · rw [if_neg (by decide), if_neg (by decide), if_pos (by decide)]; exact lp 4
    · rw [if_neg (by decide), if_neg (by decide), if_neg (by decide)]; exact lp 13
  by_cases h3 : 3 ≤ L
  · rw [if_pos (show (3 : Int32) ≤ nI L from (nI_leI (a := 3) (by omega) (by omega)).mpr h3)]
    refine go 3 (by omega) h3 ?_
    have := sx_cg (g := A 79) (b := 0) 3 L h3 hl
    rw [Nat.zero_add] at this
    exact this
  · rw [if_neg (show ¬ (3 : Int32) ≤ nI L from fun z => by have := (nI_leI (a := 3) (by omega) (by omega)).mp z; omega)]
    refine go L (by omega) (Nat.le_refl _) ?_
    rw [Nat.sub_self]
    apply sx_self
    have a := cg_le L hl
    have b := lo_mono (show L < 3 by omega)
    omega
theorem fn_b {many e : Nat} (k2 : pH → Int32 → Option pH) : ∀ (j u v : Nat) (A : tA2), j ≤ 4 → lo j + v ≤ 3 * lo j → j < u → ∃ g, x_X8_findNext_73 F k2 68 (nI e) (nI many) u (mk A B V q) (nI v) (nI j - 1) = x_X8_findNext_101 F k2 68 (nI e) (nI many) F (mk (va_up A 79 g) B V q) 0 ∧ (∀ i, j ≤ i → g i = A 79 i) ∧ lok g 0 j ∧ cg g 0 j = lo j + v := by
  intro j
  induction j with
  | zero =>
    intro u v A h1 h2 hu
    obtain ⟨u, rfl⟩ : ∃ z, u = z + 1 := ⟨u - 1, by omega⟩
    refine ⟨A 79, ?_, fun _ _ => rfl, fun i hi => by omega, by simp only [lo] at h2 ⊢; simp only [cg]; omega⟩
    rw [up_same]
    show s_X8_findNext_73 _ _ _ _ _ _ _ _ _ = _
    unfold s_X8_findNext_73
    rw [if_pos (by decide)]
  | succ j ih =>
    intro u v A h1 h2 hu
    obtain ⟨u, rfl⟩ : ∃ z, u = z + 1 := ⟨u - 1, by omega⟩
    have b := lo4 h1
    simp only [lo] at h2 b
    obtain ⟨g, e1, e2, e3, e4⟩ := ih u (v / 3) (u2 A 79 j (nI (v % 3))) (by omega) (by omega) (by omega)
    rw [u2_up, up_up, ← u2_up] at e1
    have gj : g j = nI (v % 3) := by rw [e2 j (by omega), u2_s]
    refine ⟨g, ?_, fun i hi => by rw [e2 i (by omega), u2_k _ _ (by omega)], fun i hi => ?_, ?_⟩
    · show s_X8_findNext_73 _ _ _ _ _ _ _ _ _ = _
      unfold s_X8_findNext_73
      rw [nI_pred, if_neg (nI_pos (by omega)), r_68_16, bs, r3 (by omega), s_79 (inb_nI (by omega) (by omega)), bs, tn (by omega), d3 (by omega), pm1]
      exact e1
    · by_cases ei : i = j
      · subst ei; exact ⟨v % 3, by omega, by rw [Nat.zero_add]; exact gj⟩
      · exact e3 i (by omega)
    · simp only [cg, lo]
      rw [e4, Nat.zero_add, gj, tn (by omega)]
      unfold bh; omega
def agM (A A' : tA2) : Prop := ∀ p, ¬ (79 ≤ p ∧ p ≤ 81) → A' p = A p
theorem fn_c {m : Nat} {W : tW} (h : okL m W) {e many : Nat} (he : e < 40) (hmany : many ≤ 3) (hV : V 68 5 = nI m) (hF : 20 ≤ F) (k2 : pH → Int32 → Option pH) : ∀ (d u c : Nat) (A : tA2), c + d = 3 → d < u → repM A m W.1 W.2.1 W.2.2 → lok (A 79) 0 many → cg (A 79) 0 many = e → netM A m W e → (∀ c', c' < c → A 80 (3 * e + c') = nI (sx 3 (bh e c')) ∧ A 81 (3 * e + c') = nI (HS m W (bh e c'))) → ∃ A', x_X8_findNext_101 F k2 68 (nI e) (nI many) u (mk A B V q) (nI c) = k2 (mk A' B V q) (nI (e + 1)) ∧ agM A A' ∧ netM A' m W (e + 1) := by
  have hm := h.1
  intro d
  induction d with
  | zero =>
    intro u c A hc hu hM hl hg hN hp
    obtain ⟨u, rfl⟩ : ∃ z, u = z + 1 := ⟨u - 1, by omega⟩
    refine ⟨A, ?_, fun _ _ => rfl, fun e' he' c' hc' => ?_⟩
    · show s_X8_findNext_101 _ _ _ _ _ _ _ _ = _
      unfold s_X8_findNext_101
      rw [show c = 3 by omega, if_pos (by decide), nI_1]
    · by_cases z : e' = e
      · subst z; exact hp c' (by omega)
      · exact hN e' (by omega) c' hc'
  | succ d ih =>
    intro u c A hc hu hM hl hg hN hp
    obtain ⟨u, rfl⟩ : ∃ z, u = z + 1 := ⟨u - 1, by omega⟩
    obtain ⟨A1, hA1⟩ : ∃ A1, A1 = u2 A 79 many (nI c) := ⟨_, rfl⟩
    have a1 : ∀ p, p ≠ 79 → A1 p = A p := fun p hp => by rw [hA1, u2_pp _ _ hp]
    have r1 : ∀ i, i < many → A1 79 i = A 79 i := fun i hi => by rw [hA1, u2_k _ _ (by omega)]
    have r2 : A1 79 many = nI c := by rw [hA1, u2_s]
    have l1 : lok (A1 79) 0 (many + 1) := fun i hi => by
      rw [Nat.zero_add]
      by_cases z : i = many
      · subst z; exact ⟨c, by omega, r2⟩
      · rw [r1 i (by omega)]
        have := hl i (by omega)
        rw [Nat.zero_add] at this; exact this
    have g1 : cg (A1 79) 0 (many + 1) = bh e c := by
      simp only [cg]
      rw [Nat.zero_add, r2, tn (by omega), cg_congr (g' := A 79) many (fun i hi => by rw [Nat.zero_add]; exact r1 i hi), hg]
    have eo := x8_endOf (B := B) (V := V) (q := q) (F := F) (A := A1) (L := many + 1) (by omega) l1 (by omega)
    rw [g1] at eo
    obtain ⟨A2, hA2⟩ : ∃ A2, A2 = u2 A1 80 (3 * e + c) (nI (sx 3 (bh e c))) := ⟨_, rfl⟩
    have a2 : ∀ p, p ≠ 79 → p ≠ 80 → A2 p = A p := fun p h1 h2 => by rw [hA2, u2_pp _ _ h2, a1 p h1]
    have a79 : A2 79 = A1 79 := by rw [hA2, u2_pp _ _ (by omega)]
    have hb := x8_heardBehind (B := B) (V := V) (q := q) (F := F) (A := A2) (e := many + 1) hm (repM_c hM (a2 _ (by omega) (by omega)) (a2 _ (by omega) (by omega)) (a2 _ (by omega) (by omega))) hV (by omega) (by omega)
    rw [a79, hS_X h l1, g1] at hb
    obtain ⟨A3, hA3⟩ : ∃ A3, A3 = u2 A2 81 (3 * e + c) (nI (HS m W (bh e c))) := ⟨_, rfl⟩
    have a3 : agM A A3 := fun p hp => by rw [hA3, u2_pp _ _ (by omega), a2 p (by omega) (by omega)]
    have n80 : ∀ i, i ≠ 3 * e + c → A3 80 i = A 80 i := fun i hi => by rw [hA3, u2_p _ _ (by omega), hA2, u2_k _ _ hi, a1 _ (by omega)]
    have n81 : ∀ i, i ≠ 3 * e + c → A3 81 i = A 81 i := fun i hi => by rw [hA3, u2_k _ _ hi, a2 _ (by omega) (by omega)]
    have g80 : A3 80 (3 * e + c) = nI (sx 3 (bh e c)) := by rw [hA3, u2_p _ _ (by omega), hA2, u2_s]
    have g81 : A3 81 (3 * e + c) = nI (HS m W (bh e c)) := by rw [hA3, u2_s]
    have a379 : A3 79 = A1 79 := by rw [hA3, u2_pp _ _ (by omega), a79]
    obtain ⟨A', i1, i2, i3⟩ := ih u (c + 1) A3 (by omega) (by omega) (repM_c hM (a3 _ (by omega)) (a3 _ (by omega)) (a3 _ (by omega))) (by rw [a379]; exact fun i hi => l1 i (by omega)) (by rw [a379, cg_congr (g' := A 79) many (fun i hi => by rw [Nat.zero_add]; exact r1 i hi), hg]) (fun e' he' c' hc' => by
      rw [n80 _ (by omega), n81 _ (by omega)]; exact hN e' he' c' hc') (fun c' hc' => by
      by_cases z : c' = c
      · subst z; exact ⟨g80, g81⟩
      · rw [n80 _ (by omega), n81 _ (by omega)]; exact hp c' (by omega))
    refine ⟨A', ?_, fun p hp => by rw [i2 p hp, a3 p hp], i3⟩
    show s_X8_findNext_101 _ _ _ _ _ _ _ _ = _
    unfold s_X8_findNext_101
    rw [if_neg (show ¬ (3 : Int32) ≤ nI c from fun z => by have := (nI_leI (a := 3) (by omega) (by omega)).mp z; omega), r_68_16, bs, s_79 (inb_nI (by omega) (by omega)), bs, tn (by omega), ← hA1, r_68_18, bs, nI_1, eo, bs, n3, nI_add, s_80 (inb_nI (by omega) (by omega)), bs, tn (by omega), ← hA2, r_68_19, bs, hb, bs, s_81 (inb_nI (by omega) (by omega)), bs, tn (by omega), ← hA3, nI_1]
    exact i1
theorem fn_out {m : Nat} {W : tW} (h : okL m W) (hV : V 68 5 = nI m) (hF : 20 ≤ F) : ∀ (d u e : Nat) (A : tA2), e + d = 40 → d < u → repM A m W.1 W.2.1 W.2.2 → netM A m W e → ∃ A', x_X8_findNext_2 F 68 u (mk A B V q) (nI e) = some (mk A' B V q) ∧ agM A A' ∧ netM A' m W 40 := by
  intro d
  induction d with
  | zero =>
    intro u e A he hu hM hN
    obtain ⟨u, rfl⟩ : ∃ z, u = z + 1 := ⟨u - 1, by omega⟩
    refine ⟨A, ?_, fun _ _ => rfl, by rw [show e = 40 by omega] at hN; exact hN⟩
    show s_X8_findNext_2 _ _ _ _ _ = _
    unfold s_X8_findNext_2
    rw [show e = 40 by omega, if_pos (by decide)]
  | succ d ih =>
    intro u e A he hu hM hN
    obtain ⟨u, rfl⟩ : ∃ z, u = z + 1 := ⟨u - 1, by omega⟩
    have body : ∀ j, j ≤ 3 → lo j ≤ e → e ≤ 3 * lo j → ∃ A', x_X8_findNext_36 F (x_X8_findNext_2 F 68 u) (mk A B V q) 68 (nI e) (nI j) = some (mk A' B V q) ∧ agM A A' ∧ netM A' m W 40 := by
      intro j j1 j2 j3
      obtain ⟨g, e1, e2, e3, e4⟩ := fn_b (B := B) (V := V) (q := q) (F := F) (many := j) (e := e) (x_X8_findNext_2 F 68 u) j F (e - lo j) A (by omega) (by omega) (by omega)
      obtain ⟨A1, f1, f2, f3⟩ := fn_c (B := B) (V := V) (q := q) (F := F) h (show e < 40 by omega) j1 hV hF (x_X8_findNext_2 F 68 u) 3 F 0 (va_up A 79 g) (by omega) (by omega) (repM_c hM (up_ne _ _ (by omega)) (up_ne _ _ (by omega)) (up_ne _ _ (by omega))) (by rw [up_at]; exact e3) (by rw [up_at, e4]; omega) (netM_c hN (up_ne _ _ (by omega)) (up_ne _ _ (by omega))) (fun c hc => by omega)
      obtain ⟨A', i1, i2, i3⟩ := ih u (e + 1) A1 (by omega) (by omega) (repM_c hM (by rw [f2 _ (by omega), up_ne _ _ (by omega)]) (by rw [f2 _ (by omega), up_ne _ _ (by omega)]) (by rw [f2 _ (by omega), up_ne _ _ (by omega)])) f3
      refine ⟨A', ?_, fun p hp => by rw [i2 p hp, f2 p hp, up_ne _ _ (by omega)], i3⟩
      rw [nI_0] at f1
      have t66 : ∀ s0, nI e - s0 = nI (e - lo j) → x_X8_findNext_66 F (x_X8_findNext_2 F 68 u) (mk A B V q) 68 (nI e) (nI j) s0 (nI e) = some (mk A' B V q) := fun s0 hs => by
        unfold x_X8_findNext_66
        rw [hs, e1, f1, i1]
      unfold x_X8_findNext_36
      rcases (show j = 0 ∨ j = 1 ∨ j = 2 ∨ j = 3 by omega) with rfl | rfl | rfl | rfl
      · rw [if_pos nI_0]
        exact t66 0 (pk_sub (b := 0) (by omega))
      · rw [if_neg (by decide), if_pos (by decide)]
        exact t66 1 (pk_sub (b := 1) j2)
      · rw [if_neg (by decide), if_neg (by decide), if_pos (by decide)]
        exact t66 4 (pk_sub (b := 4) j2)
      · rw [if_neg (by decide), if_neg (by decide), if_neg (by decide)]
        exact t66 13 (pk_sub (b := 13) j2)
    show ∃ A', s_X8_findNext_2 _ _ _ _ _ = _ ∧ _
    unfold s_X8_findNext_2
    rw [if_neg (show ¬ (40 : Int32) ≤ nI e from fun z => by have := (nI_leI (a := 40) (by omega) (by omega)).mp z; omega)]
    by_cases e0 : e = 0
    · rw [if_pos (show nI e = 0 by rw [e0]; rfl)]
      exact body 0 (by omega) (by simp only [lo]; omega) (by simp only [lo]; omega)
    · rw [if_neg (nz0 e0 (by omega))]
      by_cases e4 : 4 ≤ e
      · rw [if_pos (show (4 : Int32) ≤ nI e from (nI_leI (a := 4) (by omega) (by omega)).mpr e4)]
        by_cases e13 : 13 ≤ e
        · rw [if_pos (show (13 : Int32) ≤ nI e from (nI_leI (a := 13) (by omega) (by omega)).mpr e13)]
          exact body 3 (by omega) (by simp only [lo]; omega) (by simp only [lo]; omega)
        · rw [if_neg (show ¬ (13 : Int32) ≤ nI e from fun z => e13 ((nI_leI (a := 13) (by omega) (by omega)).mp z))]
          exact body 2 (by omega) (by simp only [lo]; omega) (by simp only [lo]; omega)
      · rw [if_neg (show ¬ (4 : Int32) ≤ nI e from fun z => e4 ((nI_leI (a := 4) (by omega) (by omega)).mp z))]
        exact body 1 (by omega) (by simp only [lo]; omega) (by simp only [lo]; omega)
theorem x8_findNext {m : Nat} {W : tW} (h : okL m W) (hV : V 68 5 = nI m) {A : tA2} (hM : repM A m W.1 W.2.1 W.2.2) (hF : 60 ≤ F) : ∃ A', x_X8_findNext F (mk A B V q) 68 = some (mk A' B V q) ∧ agM A A' ∧ netM A' m W 40 := by
  unfold x_X8_findNext
  rw [c_68, bs]
  exact fn_out h hV (by omega) 40 F 0 A (by omega) (by omega) hM (fun e he => by omega)
def TM (m : Nat) (W : tW) (k c : Nat) : Nat := 16 * sx 3 (bh (k / 16) c) + (k % 16 ||| HS m W (bh (k / 16) c))
def XM (m : Nat) (W : tW) (r : Nat) : Nat := 16 * sx 3 r + ST m W r
theorem TM_lt {m : Nat} (hm : m ≤ 4) {W : tW} (k c : Nat) : TM m W k c < 640 := by
  have a := sx_le 3 (bh (k / 16) c)
  have b := or_lt16 (show k % 16 < 16 by omega) (HS_lt hm W (bh (k / 16) c))
  simp only [lo] at a
  unfold TM
  omega
theorem XM_lt {m : Nat} (hm : m ≤ 4) {W : tW} (r : Nat) : XM m W r < 640 := by
  have a := sx_le 3 r
  have b := ST_lt hm (W := W) r
  simp only [lo] at a
  unfold XM
  omega
theorem XM_mod {m : Nat} (hm : m ≤ 4) {W : tW} (r : Nat) : XM m W r % 16 = ST m W r := by
  have b := ST_lt hm (W := W) r
  unfold XM
  omega
theorem XM_bh {m : Nat} {W : tW} (h : okL m W) (r c : Nat) (hc : c < 3) : XM m W (bh r c) = TM m W (XM m W r) c := by
  have b := ST_lt h.1 (W := W) r
  have e : XM m W r / 16 = sx 3 r := by unfold XM; omega
  unfold TM
  rw [e, XM_mod h.1, sx3_bh hc, HS_sx h hc, ← ST_bh hc]
  rfl
theorem x8_behindLetter {m : Nat} {W : tW} (hm : m ≤ 4) {A : tA2} (hN : netM A m W 40) {k c : Nat} (hk : k < 640) (hc : c < 3) : x_X8_behindLetter F (mk A B V q) 68 (nI k) (nI c) = some (nI (TM m W k c)) := by
  obtain ⟨a1, a2⟩ := hN (k / 16) (by omega) c hc
  have i1 : inb (nI (3 * (k / 16) + c)) 120 = true := inb_nI (by omega) (by omega)
  unfold x_X8_behindLetter
  rw [c_68, bs, r_68_18, bs, d16 (by omega), n3, nI_add, l_80 i1, bs, r_68_19, bs, l_81 i1, bs, tn (by omega), a1, a2, n16, show nI k - nI (k / 16) * 16 = nI (k % 16) by rw [← d16 (by omega)]; exact r16 (by omega), nIor, nI_add]
  rfl
end NX
