/-! step: spare -/
theorem atW_c {A A' V V' : tA2} {a k n : Nat} {f : Nat → Int32} (h : atW A V a k n f) (h1 : A' (a + 1) = A (a + 1)) (h2 : V' a = V a) : atW A' V' a k n f := by
  obtain ⟨b1, b2, b3, b4, b5, b6, b7⟩ := h
  exact ⟨b1, by rw [h2]; exact b2, by rw [h2]; exact b3, b4, b5, b6, fun j hj => by rw [h1]; exact b7 j hj⟩
theorem u2_up {α : Type} (A : Nat → Nat → α) (p k : Nat) (x : α) : u2 A p k x = va_up A p (va_up (A p) k x) := rfl
def sfB (k n : Nat) (f : Nat → Int32) (k2 n2 : Nat) (f2 : Nat → Int32) (form : Nat) : Bool := decide (0 < cnt (hWb k n f (fml k2 n2 f2 form)) 1 n2)
theorem sf_row {k n : Nat} {f : Nat → Int32} {k2 n2 : Nat} {f2 : Nat → Int32} {form : Nat} {g : Nat → Int32} (h : ∀ i, i < n2 → g i = fml k2 n2 f2 form i) : cnt (hWb k n f g) 1 n2 = cnt (hWb k n f (fml k2 n2 f2 form)) 1 n2 :=
  cnt_congr n2 1 (fun e _ h2 => hWb_congr (fun i hi => h i (by omega)))
section SP
variable {B : tB2} {q : tQ} {F : Nat}
theorem x7_sf_in {V : tA2} {a k n : Nat} {f : Nat → Int32} {b k2 n2 : Nat} {f2 : Nat → Int32} (ha : a + 1 ≠ 26) (hb : b + 1 ≠ 26) {fo : Nat} (hfo : fo ≤ 1) (hF : 20 ≤ F) (k2c : pH → Int32 → Option (Int32 × pH)) : ∀ (d u j : Nat) (A : tA2), j + d = n2 → d < u → atW A V a k n f → atW A V b k2 n2 f2 → (∀ i, i < j → A 26 i = fml k2 n2 f2 fo i) → ∃ g, x_X7_standsInEachForm_10 F k2c 0 a b (nI fo) u (mk A B V q) (nI j) = if sfB k n f k2 n2 f2 fo = true then k2c (mk (va_up A 26 g) B V q) (nI (fo + 1)) else some (0, mk (va_up A 26 g) B V q) := by
  intro d
  induction d with
  | zero =>
    intro u j A hj hu h1 h2 hall
    obtain ⟨u, rfl⟩ : ∃ z, u = z + 1 := ⟨u - 1, by omega⟩
    have n4 := h2.2.2.2.2.2.1
    refine ⟨A 26, ?_⟩
    rw [up_same]
    show s_X7_standsInEachForm_10 _ _ _ _ _ _ _ _ _ = _
    unfold s_X7_standsInEachForm_10
    rw [gW1 h2.1, bs, h2.2.2.1, if_pos ((nI_leI (by omega) (by omega)).mpr (by omega)), r_0_10, bs, bs, x6_standsIn h1 (r := 26) (N := 4) rfl (by omega) n4 (by omega), bs, nI_1, sf_row (fun i hi => hall i (by omega))]
    show (if cI (sfB k n f k2 n2 f2 fo) = 0 then _ else _) = _
    cases sfB k n f k2 n2 f2 fo
    · rw [if_pos cI_f, if_neg (by decide)]
    · rw [if_neg (by decide), if_pos rfl]
  | succ d ih =>
    intro u j A hj hu h1 h2 hall
    obtain ⟨u, rfl⟩ : ∃ z, u = z + 1 := ⟨u - 1, by omega⟩
    have n4 := h2.2.2.2.2.2.1
    obtain ⟨g, hg⟩ := ih u (j + 1) (u2 A 26 j (fml k2 n2 f2 fo j)) (by omega) (by omega) (atW_c h1 (u2_pp _ _ ha) rfl) (atW_c h2 (u2_pp _ _ hb) rfl) (fun i hi => by
      by_cases e : i = j
      · subst e; rw [u2_s]
      · rw [u2_k _ _ e]; exact hall i (by omega))
    rw [u2_up, up_up, ← u2_up] at hg
    refine ⟨g, ?_⟩
    show s_X7_standsInEachForm_10 _ _ _ _ _ _ _ _ _ = _
    unfold s_X7_standsInEachForm_10
    rw [gW1 h2.1, bs, h2.2.2.1, if_neg (fun z => by have := (nI_leI (by omega) (by omega)).mp z; omega), r_0_10, bs, x6_letterOf h2 (by omega) hfo, bs, s_26 (inb_nI (by omega) (by omega)), bs, tn (by omega), nI_1]
    exact hg
theorem x7_sief {A V : tA2} {a k n : Nat} {f : Nat → Int32} {b k2 n2 : Nat} {f2 : Nat → Int32} (ha : a + 1 ≠ 26) (hb : b + 1 ≠ 26) (hF : 20 ≤ F) (h1 : atW A V a k n f) (h2 : atW A V b k2 n2 f2) : ∃ g, x_X7_standsInEachForm F (mk A B V q) 0 a b = some (cI (sfB k n f k2 n2 f2 0 && sfB k n f k2 n2 f2 1), mk (va_up A 26 g) B V q) := by
  obtain ⟨u, hu⟩ : ∃ z, F = z + 3 := ⟨F - 3, by omega⟩
  unfold x_X7_standsInEachForm
  rw [c_0, bs]
  have n4 := h2.2.2.2.2.2.1
  obtain ⟨g0, e0⟩ := x7_sf_in (B := B) (q := q) (fo := 0) ha hb (by omega) hF (x_X7_standsInEachForm_2 F 0 a b (u + 2)) n2 F 0 A (by omega) (by omega) h1 h2 (fun i hi => absurd hi (by omega))
  obtain ⟨g1, e1⟩ := x7_sf_in (B := B) (q := q) (fo := 1) ha hb (by omega) hF (x_X7_standsInEachForm_2 F 0 a b (u + 1)) n2 F 0 (va_up A 26 g0) (by omega) (by omega) (atW_c h1 (up_ne _ _ ha) rfl) (atW_c h2 (up_ne _ _ hb) rfl) (fun i hi => absurd hi (by omega))
  rw [up_up] at e1
  have l2 : ∀ A', x_X7_standsInEachForm_2 F 0 a b (u + 1) (mk A' B V q) (nI 2) = some (1, mk A' B V q) := fun A' => by
    show s_X7_standsInEachForm_2 _ _ _ _ _ _ _ = _
    unfold s_X7_standsInEachForm_2
    rw [if_pos (by decide)]
  have l1 : x_X7_standsInEachForm_2 F 0 a b (u + 2) (mk (va_up A 26 g0) B V q) (nI 1) = some (cI (sfB k n f k2 n2 f2 1), mk (va_up A 26 g1) B V q) := by
    show s_X7_standsInEachForm_2 _ _ _ _ _ _ _ = _
    unfold s_X7_standsInEachForm_2
    rw [if_neg (by decide)]
    refine Eq.trans e1 ?_
    cases sfB k n f k2 n2 f2 1
    · rfl
    · rw [if_pos rfl]; exact l2 _
  cases hb0 : sfB k n f k2 n2 f2 0
  · refine ⟨g0, ?_⟩
    rw [show x_X7_standsInEachForm_2 F 0 a b F (mk A B V q) 0 = x_X7_standsInEachForm_2 F 0 a b (u + 3) (mk A B V q) 0 by rw [← hu]]
    show s_X7_standsInEachForm_2 _ _ _ _ _ _ _ = _
    unfold s_X7_standsInEachForm_2
    rw [if_neg (by decide)]
    refine Eq.trans e0 ?_
    rw [hb0]; rfl
  · refine ⟨g1, ?_⟩
    rw [show x_X7_standsInEachForm_2 F 0 a b F (mk A B V q) 0 = x_X7_standsInEachForm_2 F 0 a b (u + 3) (mk A B V q) 0 by rw [← hu]]
    show s_X7_standsInEachForm_2 _ _ _ _ _ _ _ = _
    unfold s_X7_standsInEachForm_2
    rw [if_neg (by decide)]
    refine Eq.trans e0 ?_
    rw [hb0, if_pos rfl]
    exact l1
def spB (m : Nat) (kd ln : Nat → Nat) (lt : Nat → Nat → Int32) (w o : Nat) : Bool := decide (o ≠ w) && (sfB (kd w) (ln w) (lt w) (kd o) (ln o) (lt o) 0 && sfB (kd w) (ln w) (lt w) (kd o) (ln o) (lt o) 1)
theorem x7_sp_in {V : tA2} {m : Nat} {kd ln : Nat → Nat} {lt : Nat → Nat → Int32} (hq : okQ q) (hm : m ≤ 4) (v1 : V 0 3 = nI m) (hF : 20 ≤ F) {w : Nat} (hw : w < m) (k14 : pH → Int32 → Int32 → Option (Int32 × pH)) : ∀ (d u o acc : Nat) (A : tA2), o + d = m → d < u → repX A V q.1 m kd ln lt → ∃ g, x_X7_spare_24 F k14 0 (nI w) u (mk A B V q) (nI acc) (nI o) = k14 (mk (va_up A 26 g) B V q) (nI (orF (fun o => if spB m kd ln lt w o = true then 2 ^ w else 0) o d acc)) (nI (w + 1)) := by
  intro d
  induction d with
  | zero =>
    intro u o acc A ho hu hX
    obtain ⟨u, rfl⟩ : ∃ z, u = z + 1 := ⟨u - 1, by omega⟩
    refine ⟨A 26, ?_⟩
    rw [up_same]
    show s_X7_spare_24 _ _ _ _ _ _ _ _ = _
    unfold s_X7_spare_24
    rw [g_0_3, bs, v1, if_pos ((nI_leI (by omega) (by omega)).mpr (by omega)), nI_1]
    rfl
  | succ d ih =>
    intro u o acc A ho hu hX
    obtain ⟨u, rfl⟩ : ∃ z, u = z + 1 := ⟨u - 1, by omega⟩
    by_cases e : o = w
    · obtain ⟨g, hg⟩ := ih u (o + 1) acc A (by omega) (by omega) hX
      refine ⟨g, ?_⟩
      show s_X7_spare_24 _ _ _ _ _ _ _ _ = _
      unfold s_X7_spare_24 x_X7_spare_62
      rw [g_0_3, bs, v1, if_neg (fun z => by have := (nI_leI (by omega) (by omega)).mp z; omega), if_pos (by rw [e]), nI_1, hg]
      simp [orF, spB, e]
    · have b1 := wpl_b hq (show w < 4 by omega)
      have b2 := wpl_b hq (show o < 4 by omega)
      obtain ⟨g0, e0⟩ := x7_sief (B := B) (q := q) (F := F) (by omega) (by omega) hF (hX w hw) (hX o (by omega))
      obtain ⟨g, hg⟩ := ih u (o + 1) (acc ||| if spB m kd ln lt w o = true then 2 ^ w else 0) (va_up A 26 g0) (by omega) (by omega) (repX_c hq hm hX (fun p h1 h2 => ⟨up_ne _ _ (by omega), rfl⟩))
      rw [up_up] at hg
      refine ⟨g, ?_⟩
      show s_X7_spare_24 _ _ _ _ _ _ _ _ = _
      unfold s_X7_spare_24 x_X7_spare_62
      rw [g_0_3, bs, v1, if_neg (fun z => by have := (nI_leI (by omega) (by omega)).mp z; omega), if_neg (nI_eq' (by omega) (by omega) e), r_0_2, bs, l_kn (okQ_kn hq) (by omega), bs, bs, l_kn (okQ_kn hq) (by omega), bs, e0, bs, nI_1]
      show (if cI (sfB _ _ _ _ _ _ _ && sfB _ _ _ _ _ _ _) = 0 then _ else _) = _
      have hsp : spB m kd ln lt w o = (sfB (kd w) (ln w) (lt w) (kd o) (ln o) (lt o) 0 && sfB (kd w) (ln w) (lt w) (kd o) (ln o) (lt o) 1) := by simp [spB, e]
      rw [← hsp]
      simp only [orF]
      cases hs : spB m kd ln lt w o
      · rw [hs] at hg
        rw [if_pos cI_f]
        simpa using hg
      · rw [hs] at hg
        rw [if_neg (by decide), sh4 w (by omega), nIor]
        simpa using hg
def spS (m : Nat) (kd ln : Nat → Nat) (lt : Nat → Nat → Int32) : Nat → Nat → Nat → Nat
  | _, 0, a => a
  | w, d + 1, a => spS m kd ln lt (w + 1) d (orF (fun o => if spB m kd ln lt w o = true then 2 ^ w else 0) 0 m a)
theorem x7_sp_out {V : tA2} {m : Nat} {kd ln : Nat → Nat} {lt : Nat → Nat → Int32} (hq : okQ q) (hm : m ≤ 4) (v1 : V 0 3 = nI m) (hF : 20 ≤ F) : ∀ (d u w acc : Nat) (A : tA2), w + d = m → d < u → repX A V q.1 m kd ln lt → ∃ g, x_X7_spare_14 F 0 u (mk A B V q) (nI acc) (nI w) = some (nI (spS m kd ln lt w d acc), mk (va_up A 26 g) B V q) := by
  intro d
  induction d with
  | zero =>
    intro u w acc A hw hu hX
    obtain ⟨u, rfl⟩ : ∃ z, u = z + 1 := ⟨u - 1, by omega⟩
    refine ⟨A 26, ?_⟩
    rw [up_same]
    show s_X7_spare_14 _ _ _ _ _ _ = _
    unfold s_X7_spare_14
    rw [g_0_3, bs, v1, if_pos ((nI_leI (by omega) (by omega)).mpr (by omega))]
    rfl
  | succ d ih =>
    intro u w acc A hw hu hX
    obtain ⟨u, rfl⟩ : ∃ z, u = z + 1 := ⟨u - 1, by omega⟩
    obtain ⟨g0, e0⟩ := x7_sp_in (B := B) hq hm v1 hF (show w < m by omega) (x_X7_spare_14 F 0 u) m F 0 acc A (by omega) (by omega) hX
    obtain ⟨g, hg⟩ := ih u (w + 1) (orF (fun o => if spB m kd ln lt w o = true then 2 ^ w else 0) 0 m acc) (va_up A 26 g0) (by omega) (by omega) (repX_c hq hm hX (fun p h1 h2 => ⟨up_ne _ _ (by omega), rfl⟩))
    rw [up_up] at hg
    refine ⟨g, ?_⟩
    show s_X7_spare_14 _ _ _ _ _ _ = _
    unfold s_X7_spare_14
    rw [nI_0] at e0
    rw [g_0_3, bs, v1, if_neg (fun z => by have := (nI_leI (by omega) (by omega)).mp z; omega), e0, hg]
    rfl
/-! the model's side -/
theorem x8_sf_in {m : Nat} {kd ln : Nat → Nat} {lt : Nat → Nat → Int32} (hm : m ≤ 4) {w o : Nat} (hw : w < m) (ho : o < m) {V : tA2} (hV : V 68 17 = nI (ln o)) {fo : Nat} (hfo : fo ≤ 1) (hF : 80 ≤ F) (k2c : pH → Int32 → Option (Int32 × pH)) : ∀ (d u j : Nat) (A : tA2), j + d = ln o → d < u → repM A m kd ln lt → (∀ i, i < j → A 79 i = fml (kd o) (ln o) (lt o) fo i) → ∃ g, x_X8_isIn_20 F k2c 68 (nI w) (nI o) (nI fo) u (mk A B V q) (nI j) = if sfB (kd w) (ln w) (lt w) (kd o) (ln o) (lt o) fo = true then k2c (mk (va_up A 79 g) B V q) (nI (fo + 1)) else some (0, mk (va_up A 79 g) B V q) := by
  intro d
  induction d with
  | zero =>
    intro u j A hj hu h1 hall
    obtain ⟨u, rfl⟩ : ∃ z, u = z + 1 := ⟨u - 1, by omega⟩
    have n4 := (h1 o ho).2.2.2.2.1
    have cl := cnt_le (hWb (kd w) (ln w) (lt w) (A 79)) (ln o) 1
    refine ⟨A 79, ?_⟩
    rw [up_same]
    show s_X8_isIn_20 _ _ _ _ _ _ _ _ _ = _
    unfold s_X8_isIn_20
    rw [g_68_17, bs, hV, if_pos ((nI_leI (by omega) (by omega)).mpr (by omega)), x8_timesHeard hm h1 hw (by omega) hV (by omega), bs, nI_1]
    have er := sf_row (k := kd w) (n := ln w) (f := lt w) (fun i hi => hall i (show i < j by omega))
    rw [er] at cl ⊢
    unfold sfB
    by_cases hz : 0 < cnt (hWb (kd w) (ln w) (lt w) (fml (kd o) (ln o) (lt o) fo)) 1 (ln o)
    · rw [if_neg (nz0 (by omega) (by omega)), if_pos (by simp [hz])]
    · rw [show cnt (hWb (kd w) (ln w) (lt w) (fml (kd o) (ln o) (lt o) fo)) 1 (ln o) = 0 by omega, if_pos nI_0, if_neg (by simp)]
  | succ d ih =>
    intro u j A hj hu h1 hall
    obtain ⟨u, rfl⟩ : ∃ z, u = z + 1 := ⟨u - 1, by omega⟩
    have n4 := (h1 o ho).2.2.2.2.1
    obtain ⟨g, hg⟩ := ih u (j + 1) (u2 A 79 j (fml (kd o) (ln o) (lt o) fo j)) (by omega) (by omega) (repM_c h1 (u2_pp _ _ (by omega)) (u2_pp _ _ (by omega)) (u2_pp _ _ (by omega))) (fun i hi => by
      by_cases e : i = j
      · subst e; rw [u2_s]
      · rw [u2_k _ _ e]; exact hall i (by omega))
    rw [u2_up, up_up, ← u2_up] at hg
    refine ⟨g, ?_⟩
    show s_X8_isIn_20 _ _ _ _ _ _ _ _ _ = _
    unfold s_X8_isIn_20
    rw [g_68_17, bs, hV, if_neg (fun z => by have := (nI_leI (by omega) (by omega)).mp z; omega), r_68_16, bs, x8_letterOf hm h1 ho (by omega) hfo, bs, s_79 (inb_nI (by omega) (by omega)), bs, tn (by omega), nI_1]
    exact hg
theorem x8_isIn {A V : tA2} {m : Nat} {kd ln : Nat → Nat} {lt : Nat → Nat → Int32} (hm : m ≤ 4) {w o : Nat} (hw : w < m) (ho : o < m) (hF : 80 ≤ F) (h1 : repM A m kd ln lt) : ∃ g x, x_X8_isIn F (mk A B V q) 68 (nI w) (nI o) = some (cI (sfB (kd w) (ln w) (lt w) (kd o) (ln o) (lt o) 0 && sfB (kd w) (ln w) (lt w) (kd o) (ln o) (lt o) 1), mk (va_up A 79 g) B (u2 V 68 17 x) q) := by
  obtain ⟨u, hu⟩ : ∃ z, F = z + 3 := ⟨F - 3, by omega⟩
  unfold x_X8_isIn
  rw [c_68, bs]
  obtain ⟨-, a2, -, a4, n4, -⟩ := h1 o ho
  have hi : inb (nI o) 4 = true := inb_nI (by omega) (by omega)
  have to : (nI o).toNatClampNeg = o := tn (by omega)
  obtain ⟨g0, e0⟩ := x8_sf_in (B := B) (q := q) (fo := 0) hm hw ho (V := u2 V 68 17 (nI (ln o))) (u2_s _ _ _ _) (by omega) hF (x_X8_isIn_2 F 68 (nI w) (nI o) (u + 2)) (ln o) F 0 A (by omega) (by omega) h1 (fun i hi => absurd hi (by omega))
  obtain ⟨g1, e1⟩ := x8_sf_in (B := B) (q := q) (fo := 1) hm hw ho (V := u2 V 68 17 (nI (ln o))) (u2_s _ _ _ _) (by omega) hF (x_X8_isIn_2 F 68 (nI w) (nI o) (u + 1)) (ln o) F 0 (va_up A 79 g0) (by omega) (by omega) (repM_c h1 (up_ne _ _ (by omega)) (up_ne _ _ (by omega)) (up_ne _ _ (by omega))) (fun i hi => absurd hi (by omega))
  rw [up_up] at e1
  have l2 : ∀ A' V', x_X8_isIn_2 F 68 (nI w) (nI o) (u + 1) (mk A' B V' q) (nI 2) = some (1, mk A' B V' q) := fun A' V' => by
    show s_X8_isIn_2 _ _ _ _ _ _ _ = _
    unfold s_X8_isIn_2
    rw [if_pos (by decide)]
  have l1 : x_X8_isIn_2 F 68 (nI w) (nI o) (u + 2) (mk (va_up A 79 g0) B (u2 V 68 17 (nI (ln o))) q) (nI 1) = some (cI (sfB (kd w) (ln w) (lt w) (kd o) (ln o) (lt o) 1), mk (va_up A 79 g1) B (u2 V 68 17 (nI (ln o))) q) := by
    show s_X8_isIn_2 _ _ _ _ _ _ _ = _
    unfold s_X8_isIn_2
    rw [if_neg (by decide), r_68_8, bs, l_73 hi, bs, to, up_ne _ _ (show 73 ≠ 79 by omega), a2, w_68_17, bs, u2_u2]
    refine Eq.trans e1 ?_
    cases sfB (kd w) (ln w) (lt w) (kd o) (ln o) (lt o) 1
    · rfl
    · rw [if_pos rfl]; exact l2 _ _
  have top : x_X8_isIn_2 F 68 (nI w) (nI o) F (mk A B V q) 0 = x_X8_isIn_20 F (x_X8_isIn_2 F 68 (nI w) (nI o) (u + 2)) 68 (nI w) (nI o) (nI 0) F (mk A B (u2 V 68 17 (nI (ln o))) q) (nI 0) := by
    rw [show x_X8_isIn_2 F 68 (nI w) (nI o) F (mk A B V q) 0 = x_X8_isIn_2 F 68 (nI w) (nI o) (u + 3) (mk A B V q) 0 by rw [← hu]]
    show s_X8_isIn_2 _ _ _ _ _ _ _ = _
    unfold s_X8_isIn_2
    rw [if_neg (by decide), r_68_8, bs, l_73 hi, bs, to, a2, w_68_17, bs]
    rfl
  rw [top, e0]
  cases hb0 : sfB (kd w) (ln w) (lt w) (kd o) (ln o) (lt o) 0
  · exact ⟨g0, _, rfl⟩
  · refine ⟨g1, nI (ln o), ?_⟩
    rw [if_pos rfl]
    exact l1
theorem x8_sp_in {m : Nat} {kd ln : Nat → Nat} {lt : Nat → Nat → Int32} (hm : m ≤ 4) (hF : 80 ≤ F) {w : Nat} (hw : w < m) (k14 : pH → Int32 → Int32 → Option (Int32 × pH)) : ∀ (d u o acc : Nat) (A V : tA2), o + d = m → d < u → V 68 5 = nI m → repM A m kd ln lt → ∃ g x, x_X8_spare_24 F k14 68 (nI w) u (mk A B V q) (nI acc) (nI o) = k14 (mk (va_up A 79 g) B (u2 V 68 17 x) q) (nI (orF (fun o => if spB m kd ln lt w o = true then 2 ^ w else 0) o d acc)) (nI (w + 1)) := by
  intro d
  induction d with
  | zero =>
    intro u o acc A V ho hu v1 hX
    obtain ⟨u, rfl⟩ : ∃ z, u = z + 1 := ⟨u - 1, by omega⟩
    refine ⟨A 79, V 68 17, ?_⟩
    have : u2 V 68 17 (V 68 17) = V := by rw [u2_up, up_same, up_same]
    rw [up_same, this]
    show s_X8_spare_24 _ _ _ _ _ _ _ _ = _
    unfold s_X8_spare_24
    rw [g_68_5, bs, v1, if_pos ((nI_leI (by omega) (by omega)).mpr (by omega)), nI_1]
    rfl
  | succ d ih =>
    intro u o acc A V ho hu v1 hX
    obtain ⟨u, rfl⟩ : ∃ z, u = z + 1 := ⟨u - 1, by omega⟩
    by_cases e : o = w
    · obtain ⟨g, x, hg⟩ := ih u (o + 1) acc A V (by omega) (by omega) v1 hX
      refine ⟨g, x, ?_⟩
      show s_X8_spare_24 _ _ _ _ _ _ _ _ = _
      unfold s_X8_spare_24 x_X8_spare_53 x_X8_spare_54
      rw [g_68_5, bs, v1, if_neg (fun z => by have := (nI_leI (by omega) (by omega)).mp z; omega), if_pos (by rw [e]), nI_1, e0, nIor, Nat.or_zero, hg]
      simp [orF, spB, e]
    · obtain ⟨g0, x0, e0'⟩ := x8_isIn (B := B) (q := q) (F := F) (V := V) hm hw (show o < m by omega) hF hX
      obtain ⟨g, x, hg⟩ := ih u (o + 1) (acc ||| if spB m kd ln lt w o = true then 2 ^ w else 0) (va_up A 79 g0) (u2 V 68 17 x0) (by omega) (by omega) (by rw [u2_k _ _ (by omega)]; exact v1) (repM_c hX (up_ne _ _ (by omega)) (up_ne _ _ (by omega)) (up_ne _ _ (by omega)))
      rw [up_up, u2_u2] at hg
      refine ⟨g, x, ?_⟩
      show s_X8_spare_24 _ _ _ _ _ _ _ _ = _
      unfold s_X8_spare_24 x_X8_spare_53 x_X8_spare_54
      rw [g_68_5, bs, v1, if_neg (fun z => by have := (nI_leI (by omega) (by omega)).mp z; omega), if_neg (nI_eq' (by omega) (by omega) e), e0', bs, nI_1]
      show (if cI (sfB _ _ _ _ _ _ _ && sfB _ _ _ _ _ _ _) = 0 then _ else _) = _
      have hsp : spB m kd ln lt w o = (sfB (kd w) (ln w) (lt w) (kd o) (ln o) (lt o) 0 && sfB (kd w) (ln w) (lt w) (kd o) (ln o) (lt o) 1) := by simp [spB, e]
      rw [← hsp]
      simp only [orF]
      cases hs : spB m kd ln lt w o
      · rw [hs] at hg
        rw [if_pos cI_f, e0, nIor]
        exact hg
      · rw [hs] at hg
        rw [if_neg (by decide), sh4 w (by omega), nIor]
        simpa using hg
theorem x8_sp_out {m : Nat} {kd ln : Nat → Nat} {lt : Nat → Nat → Int32} (hm : m ≤ 4) (hF : 80 ≤ F) : ∀ (d u w acc : Nat) (A V : tA2), w + d = m → d < u → V 68 5 = nI m → repM A m kd ln lt → ∃ g x, x_X8_spare_14 F 68 u (mk A B V q) (nI acc) (nI w) = some (nI (spS m kd ln lt w d acc), mk (va_up A 79 g) B (u2 V 68 17 x) q) := by
  intro d
  induction d with
  | zero =>
    intro u w acc A V hw hu v1 hX
    obtain ⟨u, rfl⟩ : ∃ z, u = z + 1 := ⟨u - 1, by omega⟩
    refine ⟨A 79, V 68 17, ?_⟩
    have : u2 V 68 17 (V 68 17) = V := by rw [u2_up, up_same, up_same]
    rw [up_same, this]
    show s_X8_spare_14 _ _ _ _ _ _ = _
    unfold s_X8_spare_14
    rw [g_68_5, bs, v1, if_pos ((nI_leI (by omega) (by omega)).mpr (by omega))]
    rfl
  | succ d ih =>
    intro u w acc A V hw hu v1 hX
    obtain ⟨u, rfl⟩ : ∃ z, u = z + 1 := ⟨u - 1, by omega⟩
    obtain ⟨g0, x0, e0⟩ := x8_sp_in (B := B) (q := q) hm hF (show w < m by omega) (x_X8_spare_14 F 68 u) m F 0 acc A V (by omega) (by omega) v1 hX
    obtain ⟨g, x, hg⟩ := ih u (w + 1) (orF (fun o => if spB m kd ln lt w o = true then 2 ^ w else 0) 0 m acc) (va_up A 79 g0) (u2 V 68 17 x0) (by omega) (by omega) (by rw [u2_k _ _ (by omega)]; exact v1) (repM_c hX (up_ne _ _ (by omega)) (up_ne _ _ (by omega)) (up_ne _ _ (by omega)))
    rw [up_up, u2_u2] at hg
    refine ⟨g, x, ?_⟩
    show s_X8_spare_14 _ _ _ _ _ _ = _
    unfold s_X8_spare_14
    rw [nI_0] at e0
    rw [g_68_5, bs, v1, if_neg (fun z => by have := (nI_leI (by omega) (by omega)).mp z; omega), e0, hg]
    rfl
end SP
section ST8
variable {NO : tNO} {SS : (Nat → Int32) → Prop} {F : Nat}
theorem step_spare (hNO : NOf NO) (hF : 80 ≤ F) : st_spare (InvH NO SS) F := by
  intro h hI
  obtain ⟨A, B, V, q, m, kd, ln, lt, rfl, hI⟩ := hI
  have hI0 := hI
  obtain ⟨hq, hW, hS, hZ, hR, hT, hSS, hN⟩ := hI
  obtain ⟨hm, v1, v2, hX, hM, hL⟩ := id hW
  by_cases h0 : m = 0
  · refine ⟨(-3, mk A B V q), (-3, mk A B V q), ?_, ?_, rfl, A, B, V, q, m, kd, ln, lt, rfl, hI0⟩
    · unfold x_X7_spare
      rw [c_0, bs, g_0_3, bs, v1, h0, if_pos nI_0]
    · unfold x_X8_spare
      rw [c_68, bs, g_68_5, bs, v2, h0, if_pos nI_0]
  · obtain ⟨g, e⟩ := x7_sp_out (B := B) (F := F) hq hm v1 (by omega) m F 0 0 A (by omega) (by omega) hX
    obtain ⟨g2, x, e2⟩ := x8_sp_out (B := B) (q := q) (F := F) (kd := kd) (ln := ln) (lt := lt) hm hF m F 0 0 (va_up A 26 g) V (by omega) (by omega) v2 (repM_c hM (up_ne _ _ (by omega)) (up_ne _ _ (by omega)) (up_ne _ _ (by omega)))
    refine ⟨(nI (spS m kd ln lt 0 m 0), mk (va_up A 26 g) B V q), (nI (spS m kd ln lt 0 m 0), mk (va_up (va_up A 26 g) 79 g2) B (u2 V 68 17 x) q), ?_, ?_, rfl, _, B, _, q, m, kd, ln, lt, rfl, ?_⟩
    · unfold x_X7_spare
      rw [c_0, bs, g_0_3, bs, v1, if_neg (nz0 h0 (by omega))]
      exact e
    · unfold x_X8_spare
      rw [c_68, bs, g_68_5, bs, v2, if_neg (nz0 h0 (by omega))]
      exact e2
    · exact inv_scr hNO hI0 (fun p hp => by unfold scrA at hp; rw [up_ne _ _ (by omega), up_ne _ _ (by omega)]) (fun _ _ _ => rfl) (fun p k hp => u2_ne (fun z => hp (by unfold scrV; omega)))
end ST8
