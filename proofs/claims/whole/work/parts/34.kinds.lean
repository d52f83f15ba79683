/-! steps: kinds, lasts -/
theorem u2_self {α : Type} (A : Nat → Nat → α) (p k : Nat) : u2 A p k (A p k) = A := by rw [u2_up, up_same, up_same]
def rwd (A : tA2) (k : Nat) : Nat := (A 87 k).toNatClampNeg
def rln (A : tA2) (k : Nat) : Nat := (A 88 k).toNatClampNeg
def rsd (A : tA2) (k : Nat) : Bool := decide (A 89 k = 1)
def RJ (A V : tA2) (m n : Nat) : Prop := n ≤ 8 ∧ V 0 8 = nI n ∧ V 68 25 = nI n ∧ ∀ k, k < n → rwd A k < m ∧ V (52 + 2 * k) 1 = nI (rwd A k) ∧ A 87 k = nI (rwd A k) ∧ rln A k ≤ 8 ∧ V (52 + 2 * k) 2 = nI (rln A k) ∧ A 88 k = nI (rln A k) ∧ (∀ i, i < rln A k → A 90 (8 * k + i) = A (53 + 2 * k) i) ∧ V (52 + 2 * k) 3 = cI (rsd A k) ∧ A 89 k = cI (rsd A k)
theorem RI_J {A V : tA2} {m : Nat} (hm : m ≤ 4) (h : RI A V m) : ∃ n, RJ A V m n := by
  obtain ⟨n, hn, h1, h2, h3⟩ := h
  refine ⟨n, hn, h1, h2, fun k hk => ?_⟩
  obtain ⟨⟨w, w1, w2, w3⟩, ⟨l, l1, l2, l3, l4⟩, ⟨b, b1, b2⟩⟩ := h3 k hk
  have ew : rwd A k = w := by unfold rwd; rw [w3, tn (by omega)]
  have el : rln A k = l := by unfold rln; rw [l3, tn (by omega)]
  have eb : rsd A k = b := by unfold rsd; rw [b2]; cases b <;> decide
  rw [ew, el, eb]
  exact ⟨w1, w2, w3, l1, l2, l3, l4, b1, b2⟩
def alF (p : Nat → Bool) : Nat → Nat → Bool
  | _, 0 => true
  | j, d + 1 => p j && alF p (j + 1) d
theorem alF_congr {p p' : Nat → Bool} : ∀ (d j : Nat), (∀ i, j ≤ i → i < j + d → p i = p' i) → alF p j d = alF p' j d
  | 0, j, _ => rfl
  | d + 1, j, h => by
    simp only [alF]
    rw [h j (by omega) (by omega), alF_congr d (j + 1) (fun i h1 h2 => h i (by omega) (by omega))]
def rdB (A : tA2) (kd ln : Nat → Nat) (lt : Nat → Nat → Int32) (k : Nat) : Bool := decide (0 < cnt (hWb (kd (rwd A k)) (ln (rwd A k)) (lt (rwd A k)) (A (53 + 2 * k))) 1 (rln A k)) == rsd A k
theorem rdB_c {A A' : tA2} {kd ln : Nat → Nat} {lt : Nat → Nat → Int32} {k : Nat} (h1 : A' 87 = A 87) (h2 : A' 88 = A 88) (h3 : A' 89 = A 89) (h4 : A' (53 + 2 * k) = A (53 + 2 * k)) : rdB A' kd ln lt k = rdB A kd ln lt k := by
  unfold rdB rwd rln rsd
  rw [h1, h2, h3, h4]
theorem cI_eq {a b : Bool} : cI a = cI b ↔ (a == b) = true := by cases a <;> cases b <;> decide
section KD
variable {B : tB2} {q : tQ} {F : Nat}
theorem x7_ras_loop {A V : tA2} {m n : Nat} {kd ln : Nat → Nat} {lt : Nat → Nat → Int32} (hq : okQ q) (hm : m ≤ 4) (hJ : RJ A V m n) {w : Nat} (hw : w < m) (hX : ∀ v, v < m → atW A V (if v = w then 24 else wpl q.1 v) (kd v) (ln v) (lt v)) (hF : 20 ≤ F) : ∀ (d u k : Nat), k + d = n → d < u → x_X7_readingsAreSo_2 F (mk A B V q) 0 (nI w) u (nI k) = some (cI (alF (rdB A kd ln lt) k d)) := by
  obtain ⟨j1, j2, j3, j4⟩ := hJ
  intro d
  induction d with
  | zero =>
    intro u k hk hu
    obtain ⟨u, rfl⟩ : ∃ z, u = z + 1 := ⟨u - 1, by omega⟩
    show s_X7_readingsAreSo_2 _ _ _ _ _ _ = _
    unfold s_X7_readingsAreSo_2
    rw [g_0_8, bs, j2, if_pos ((nI_leI (by omega) (by omega)).mpr (by omega))]
    rfl
  | succ d ih =>
    intro u k hk hu
    obtain ⟨u, rfl⟩ : ∃ z, u = z + 1 := ⟨u - 1, by omega⟩
    obtain ⟨a1, a2, a3, a4, a5, a6, a7, a8, a9⟩ := j4 k (by omega)
    have hr := isR_k (show k < 8 by omega)
    have hx := hX _ a1
    have go : x_X7_readingsAreSo_41 F (x_X7_readingsAreSo_2 F (mk A B V q) 0 (nI w) u) (mk A B V q) 0 (nI w) (nI k) (52 + 2 * k) (if rwd A k = w then 24 else wpl q.1 (rwd A k)) = some (cI (alF (rdB A kd ln lt) k (d + 1))) := by
      unfold x_X7_readingsAreSo_41
      rw [rR hr, bs, gR2 hr, bs, a5, x6_standsIn hx (r := 52 + 2 * k + 1) (N := 8) (saR hr) (by omega) a4 (by omega), bs, gR3 hr, bs, a8, nI_1]
      rw [show 52 + 2 * k + 1 = 53 + 2 * k by omega]
      simp only [alF]
      have e : (decide (0 < cnt (hWb (kd (rwd A k)) (ln (rwd A k)) (lt (rwd A k)) (A (53 + 2 * k))) 1 (rln A k)) == rsd A k) = rdB A kd ln lt k := rfl
      by_cases hb : rdB A kd ln lt k = true
      · rw [if_pos (cI_eq.mpr (by rw [e]; exact hb)), ih u (k + 1) (by omega) (by omega), hb]
        rfl
      · rw [if_neg (fun z => hb (by rw [← e]; exact cI_eq.mp z)), Bool.eq_false_iff.mpr hb]
        rfl
    show s_X7_readingsAreSo_2 _ _ _ _ _ _ = _
    unfold s_X7_readingsAreSo_2
    rw [g_0_8, bs, j2, if_neg (fun z => by have := (nI_leI (by omega) (by omega)).mp z; omega), r_0_7, bs, l_rd (by omega), bs, gR1 hr, bs, a2]
    by_cases e : rwd A k = w
    · rw [if_pos (by rw [e]), r_0_9, bs]
      rw [if_pos e] at go
      exact go
    · rw [if_neg (nI_eq' (by omega) (by omega) e), r_0_2, bs, bs, l_kn (okQ_kn hq) (by omega), bs]
      rw [if_neg e] at go
      exact go
theorem x7_ras {A V : tA2} {m n : Nat} {kd ln : Nat → Nat} {lt : Nat → Nat → Int32} (hq : okQ q) (hm : m ≤ 4) (hJ : RJ A V m n) {w : Nat} (hw : w < m) (hX : ∀ v, v < m → atW A V (if v = w then 24 else wpl q.1 v) (kd v) (ln v) (lt v)) (hF : 20 ≤ F) : x_X7_readingsAreSo F (mk A B V q) 0 (nI w) = some (cI (alF (rdB A kd ln lt) 0 n)) := by
  unfold x_X7_readingsAreSo
  rw [c_0, bs]
  have := hJ.1
  exact x7_ras_loop hq hm hJ hw hX hF n F 0 (by omega) (by omega)
theorem n8 (w : Nat) : (8 : Int32) * nI w = nI (8 * w) := pk_mul 8 w
theorem x8_as_in {A V0 V : tA2} {m n : Nat} {kd ln : Nat → Nat} {lt : Nat → Nat → Int32} (hm : m ≤ 4) (hJ : RJ A V0 m n) (hM : repM A m kd ln lt) {k : Nat} (hk : k < n) (hV : V 68 17 = nI (rln A k)) (hF : 80 ≤ F) (k2 : pH → Int32 → Option (Int32 × pH)) : ∀ (d u j : Nat) (g : Nat → Int32), j + d = rln A k → d < u → (∀ i, i < j → g i = A (53 + 2 * k) i) → ∃ g', x_X8_areSo_22 F k2 68 (nI k) u (mk (va_up A 79 g) B V q) (nI j) = if rdB A kd ln lt k = true then k2 (mk (va_up A 79 g') B V q) (nI (k + 1)) else some (0, mk (va_up A 79 g') B V q) := by
  obtain ⟨j1, j2, j3, j4⟩ := hJ
  obtain ⟨a1, a2, a3, a4, a5, a6, a7, a8, a9⟩ := j4 k hk
  have hi8 : inb (nI k) 8 = true := inb_nI (by omega) (by omega)
  have tk : (nI k).toNatClampNeg = k := tn (by omega)
  intro d
  induction d with
  | zero =>
    intro u j g hj hu hall
    obtain ⟨u, rfl⟩ : ∃ z, u = z + 1 := ⟨u - 1, by omega⟩
    refine ⟨g, ?_⟩
    have cl := cnt_le (hWb (kd (rwd A k)) (ln (rwd A k)) (lt (rwd A k)) g) (rln A k) 1
    show s_X8_areSo_22 _ _ _ _ _ _ _ = _
    unfold s_X8_areSo_22 x_X8_areSo_71 x_X8_areSo_88
    rw [g_68_17, bs, hV, if_pos ((nI_leI (by omega) (by omega)).mpr (by omega)), r_68_26, bs, l_87 hi8, bs, tk, up_ne _ _ (show 87 ≠ 79 by omega), a3, x8_timesHeard hm (repM_c hM (up_ne _ _ (by omega)) (up_ne _ _ (by omega)) (up_ne _ _ (by omega))) a1 (by omega) hV (by omega), bs, up_at, r_68_28, bs, bs, l_89 hi8, bs, bs, tk, up_ne _ _ (show 89 ≠ 79 by omega), a9, nI_1]
    have er : cnt (hWb (kd (rwd A k)) (ln (rwd A k)) (lt (rwd A k)) g) 1 (rln A k) = cnt (hWb (kd (rwd A k)) (ln (rwd A k)) (lt (rwd A k)) (A (53 + 2 * k))) 1 (rln A k) := cnt_congr _ 1 (fun e _ h2 => hWb_congr (fun i hi => hall i (by omega)))
    rw [er] at cl ⊢
    unfold rdB
    by_cases hz : 0 < cnt (hWb (kd (rwd A k)) (ln (rwd A k)) (lt (rwd A k)) (A (53 + 2 * k))) 1 (rln A k)
    · rw [if_neg (fun z => by have := (nI_leI (b := 0) (by omega) (by omega)).mp z; omega), decide_eq_true hz]
      cases rsd A k
      · rfl
      · rfl
    · rw [show cnt (hWb (kd (rwd A k)) (ln (rwd A k)) (lt (rwd A k)) (A (53 + 2 * k))) 1 (rln A k) = 0 by omega, if_pos (show nI 0 ≤ 0 by decide)]
      cases rsd A k
      · rfl
      · rfl
  | succ d ih =>
    intro u j g hj hu hall
    obtain ⟨u, rfl⟩ : ∃ z, u = z + 1 := ⟨u - 1, by omega⟩
    obtain ⟨g', hg⟩ := ih u (j + 1) (va_up g j (A (53 + 2 * k) j)) (by omega) (by omega) (fun i hi => by
      by_cases e : i = j
      · subst e; rw [up_at]
      · rw [up_ne _ _ e]; exact hall i (by omega))
    refine ⟨g', ?_⟩
    show s_X8_areSo_22 _ _ _ _ _ _ _ = _
    unfold s_X8_areSo_22
    rw [g_68_17, bs, hV, if_neg (fun z => by have := (nI_leI (by omega) (by omega)).mp z; omega), r_68_16, bs, r_68_29, bs, n8, nI_add, l_90 (inb_nI (by omega) (by omega)), bs, tn (by omega), up_ne _ _ (show 90 ≠ 79 by omega), a7 j (by omega), s_79 (inb_nI (by omega) (by omega)), bs, tn (by omega), u2_up, up_up, up_at, nI_1]
    exact hg
theorem x8_as_loop {A V : tA2} {m n : Nat} {kd ln : Nat → Nat} {lt : Nat → Nat → Int32} (hm : m ≤ 4) (hJ : RJ A V m n) (hM : repM A m kd ln lt) (hF : 80 ≤ F) : ∀ (d u k : Nat) (g : Nat → Int32) (x : Int32), k + d = n → d < u → ∃ g' x', x_X8_areSo_2 F 68 u (mk (va_up A 79 g) B (u2 V 68 17 x) q) (nI k) = some (cI (alF (rdB A kd ln lt) k d), mk (va_up A 79 g') B (u2 V 68 17 x') q) := by
  have hJ0 := hJ
  obtain ⟨j1, j2, j3, j4⟩ := hJ
  intro d
  induction d with
  | zero =>
    intro u k g x hk hu
    obtain ⟨u, rfl⟩ : ∃ z, u = z + 1 := ⟨u - 1, by omega⟩
    refine ⟨g, x, ?_⟩
    show s_X8_areSo_2 _ _ _ _ _ = _
    unfold s_X8_areSo_2
    rw [g_68_25, bs, u2_k _ _ (by omega), j3, if_pos ((nI_leI (by omega) (by omega)).mpr (by omega))]
    rfl
  | succ d ih =>
    intro u k g x hk hu
    obtain ⟨u, rfl⟩ : ∃ z, u = z + 1 := ⟨u - 1, by omega⟩
    obtain ⟨a1, a2, a3, a4, a5, a6, a7, a8, a9⟩ := j4 k (by omega)
    have hi8 : inb (nI k) 8 = true := inb_nI (by omega) (by omega)
    have tk : (nI k).toNatClampNeg = k := tn (by omega)
    obtain ⟨g1, e1⟩ := x8_as_in (B := B) (q := q) (V := u2 V 68 17 (nI (rln A k))) hm hJ0 hM (show k < n by omega) (u2_s _ _ _ _) hF (x_X8_areSo_2 F 68 u) (rln A k) F 0 g (by omega) (by omega) (fun i hi => absurd hi (by omega))
    obtain ⟨g2, x2, e2⟩ := ih u (k + 1) g1 (nI (rln A k)) (by omega) (by omega)
    have top : x_X8_areSo_2 F 68 (u + 1) (mk (va_up A 79 g) B (u2 V 68 17 x) q) (nI k) = x_X8_areSo_22 F (x_X8_areSo_2 F 68 u) 68 (nI k) F (mk (va_up A 79 g) B (u2 V 68 17 (nI (rln A k))) q) (nI 0) := by
      show s_X8_areSo_2 _ _ _ _ _ = _
      unfold s_X8_areSo_2
      rw [g_68_25, bs, u2_k _ _ (by omega), j3, if_neg (fun z => by have := (nI_leI (by omega) (by omega)).mp z; omega), r_68_27, bs, l_88 hi8, bs, tk, up_ne _ _ (show 88 ≠ 79 by omega), a6, w_68_17, bs, u2_u2]
      rfl
    rw [top, e1]
    simp only [alF]
    cases hb : rdB A kd ln lt k
    · exact ⟨g1, _, rfl⟩
    · exact ⟨g2, x2, by rw [if_pos rfl, e2]; rfl⟩
theorem x8_areSo {A V : tA2} {m n : Nat} {kd ln : Nat → Nat} {lt : Nat → Nat → Int32} (hm : m ≤ 4) (hJ : RJ A V m n) (hM : repM A m kd ln lt) (hF : 80 ≤ F) : ∃ g' x', x_X8_areSo F (mk A B V q) 68 = some (cI (alF (rdB A kd ln lt) 0 n), mk (va_up A 79 g') B (u2 V 68 17 x') q) := by
  unfold x_X8_areSo
  rw [c_68, bs]
  have := hJ.1
  obtain ⟨g, x, e⟩ := x8_as_loop (B := B) (q := q) hm hJ hM hF n F 0 (A 79) (V 68 17) (by omega) (by omega)
  rw [up_same, u2_self] at e
  exact ⟨g, x, e⟩
theorem x6_become {A V : tA2} {a k n : Nat} {f : Nat → Int32} (h : atW A V a k n f) (ha : a ≠ 24) : x_X6_become F (mk A B V q) 24 a = some (mk (va_up A 25 (va_cpy (A (a + 1)) (A 25) 0 0 4)) B (u2 (u2 V 24 2 (nI k)) 24 1 (nI n)) q) := by
  obtain ⟨b1, b2, b3, b4, b5, b6, b7⟩ := h
  have h24 : isW 24 := by simp [isW]
  unfold x_X6_become
  rw [cW h24, bs, gW2 b1, bs, wW2 h24, bs, gW1 b1, bs, wW1 h24, bs, rW b1, bs, rW h24, bs, b2, u2_p _ _ ha, b3]
  rw [mk_acp (p := a + 1) (n := 4) (p2 := 25) (n2 := 4) (saW b1) rfl (by decide) (by decide) (by decide) (by decide) (by decide), bs]
  rfl
theorem cpy4 {f g : Nat → Int32} {j : Nat} (h : j < 4) : va_cpy f g 0 0 4 j = f j := by
  unfold va_cpy
  rw [if_pos (by omega)]
  congr 1
  omega
theorem x7_kd_loop {A V : tA2} {m n : Nat} {kd ln : Nat → Nat} {lt : Nat → Nat → Int32} (hq : okQ q) (hm : m ≤ 4) (hJ : RJ A V m n) {w : Nat} (hw : w < m) (hX : repX A V q.1 m kd ln lt) (h25 : ∀ j, j < 4 → A 25 j = A (wpl q.1 w + 1) j) (h24 : V 24 1 = nI (ln w)) (hF : 20 ≤ F) : ∀ (d u v acc : Nat) (x : Int32), v + d = 3 → d < u → ∃ x', x_X7_kinds_27 F 0 (nI w) u (mk A B (u2 V 24 2 x) q) (nI acc) (nI v) = some (nI (orF (fun v => if alF (rdB A (va_up kd w v) ln lt) 0 n = true then 2 ^ v else 0) v d acc), mk A B (u2 V 24 2 x') q) := by
  intro d
  induction d with
  | zero =>
    intro u v acc x hv hu
    obtain ⟨u, rfl⟩ : ∃ z, u = z + 1 := ⟨u - 1, by omega⟩
    refine ⟨x, ?_⟩
    show s_X7_kinds_27 _ _ _ _ _ _ _ = _
    unfold s_X7_kinds_27
    rw [show v = 3 by omega, if_pos (by decide)]
    rfl
  | succ d ih =>
    intro u v acc x hv hu
    obtain ⟨u, rfl⟩ : ∃ z, u = z + 1 := ⟨u - 1, by omega⟩
    have hx := x7_ras (B := B) (F := F) (A := A) (V := u2 V 24 2 (nI v)) (kd := va_up kd w v) (ln := ln) (lt := lt) hq hm (n := n) (w := w) (by
      obtain ⟨j1, j2, j3, j4⟩ := hJ
      refine ⟨j1, by rw [u2_p _ _ (by omega)]; exact j2, by rw [u2_p _ _ (by omega)]; exact j3, fun k hk => ?_⟩
      rw [u2_p _ _ (by omega), u2_p _ _ (by omega), u2_p _ _ (by omega)]
      exact j4 k hk) hw (fun z hz => by
      obtain ⟨b1, b2, b3, b4, b5, b6, b7⟩ := hX z hz
      by_cases e : z = w
      · subst e
        rw [if_pos rfl]
        refine ⟨by simp [isW], by rw [u2_s, up_at], by rw [u2_k _ _ (by omega)]; exact h24, by rw [up_at]; omega, b5, b6, fun j hj => ?_⟩
        rw [h25 j (by omega)]; exact b7 j hj
      · rw [if_neg e, up_ne _ _ e]
        have := wpl_b hq (show z < 4 by omega)
        exact atW_c (hX z hz) rfl (u2_pp _ _ (by omega))) hF
    obtain ⟨x', hi⟩ := ih u (v + 1) (acc ||| if alF (rdB A (va_up kd w v) ln lt) 0 n = true then 2 ^ v else 0) (nI v) (by omega) (by omega)
    refine ⟨x', ?_⟩
    show s_X7_kinds_27 _ _ _ _ _ _ _ = _
    unfold s_X7_kinds_27 x_X7_kinds_54
    rw [if_neg (fun z => by have := (nI_leI (a := 3) (by omega) (by omega)).mp z; omega), r_0_9, bs, wW2 (by simp [isW]), bs, u2_u2, hx, bs, nI_1]
    simp only [orF]
    cases hb : alF (rdB A (va_up kd w v) ln lt) 0 n
    · rw [hb] at hi
      rw [if_pos cI_f]
      simpa using hi
    · rw [hb] at hi
      rw [if_neg (by decide), sh4 v (by omega), nIor]
      simpa using hi
theorem x8_kd_loop {A V : tA2} {m n : Nat} {kd ln : Nat → Nat} {lt : Nat → Nat → Int32} (hm : m ≤ 4) (hJ : RJ A V m n) (hM : repM A m kd ln lt) {w : Nat} (hw : w < m) (hF : 80 ≤ F) : ∀ (d u v acc : Nat) (x y : Int32) (g : Nat → Int32), v + d = 3 → d < u → ∃ g' y', x_X8_kinds_22 F 68 (nI w) (A 72 w) u (mk (va_up (u2 A 72 w x) 79 g) B (u2 V 68 17 y) q) (nI acc) (nI v) = some (nI (orF (fun v => if alF (rdB A (va_up kd w v) ln lt) 0 n = true then 2 ^ v else 0) v d acc), mk (va_up A 79 g') B (u2 V 68 17 y') q) := by
  have hi4 : inb (nI w) 4 = true := inb_nI (by omega) (by omega)
  have tw : (nI w).toNatClampNeg = w := tn (by omega)
  have com : ∀ (x z : Int32) (g : Nat → Int32), u2 (va_up (u2 A 72 w x) 79 g) 72 w z = va_up (u2 A 72 w z) 79 g := fun x z g => by
    funext p
    by_cases e : p = 79
    · subst e; rw [u2_pp _ _ (by omega), up_at, up_at]
    · rw [up_ne _ _ e]
      by_cases e2 : p = 72
      · subst e2
        rw [u2_up, up_at, up_ne _ _ (by omega), u2_up, up_at, u2_up, up_at, up_up]
      · rw [u2_pp _ _ e2, up_ne _ _ e, u2_pp _ _ e2, u2_pp _ _ e2]
  intro d
  induction d with
  | zero =>
    intro u v acc x y g hv hu
    obtain ⟨u, rfl⟩ : ∃ z, u = z + 1 := ⟨u - 1, by omega⟩
    refine ⟨g, y, ?_⟩
    show s_X8_kinds_22 _ _ _ _ _ _ _ _ = _
    unfold s_X8_kinds_22
    rw [show v = 3 by omega, if_pos (by decide), r_68_7, bs, s_72 hi4, bs, tw, com, u2_self]
    rfl
  | succ d ih =>
    intro u v acc x y g hv hu
    obtain ⟨u, rfl⟩ : ∃ z, u = z + 1 := ⟨u - 1, by omega⟩
    obtain ⟨g1, y1, e1⟩ := x8_areSo (B := B) (q := q) (F := F) (A := va_up (u2 A 72 w (nI v)) 79 g) (V := u2 V 68 17 y) (kd := va_up kd w v) (ln := ln) (lt := lt) hm (n := n) (by
      have e : ∀ p, p ≠ 79 → p ≠ 72 → va_up (u2 A 72 w (nI v)) 79 g p = A p := fun p h1 h2 => by rw [up_ne _ _ h1, u2_pp _ _ h2]
      obtain ⟨j1, j2, j3, j4⟩ := hJ
      refine ⟨j1, by rw [u2_p _ _ (by omega)]; exact j2, by rw [u2_k _ _ (by omega)]; exact j3, fun k hk => ?_⟩
      unfold rwd rln rsd
      rw [u2_p _ _ (by omega), u2_p _ _ (by omega), u2_p _ _ (by omega), e 87 (by omega) (by omega), e 88 (by omega) (by omega), e 89 (by omega) (by omega), e 90 (by omega) (by omega), e (53 + 2 * k) (by omega) (by omega)]
      exact j4 k hk) (fun z hz => by
      obtain ⟨b1, b2, b3, b4, b5, b6⟩ := hM z hz
      rw [up_ne _ _ (show 72 ≠ 79 by omega), up_ne _ _ (show 73 ≠ 79 by omega), up_ne _ _ (show 74 ≠ 79 by omega), u2_pp _ _ (show 73 ≠ 72 by omega), u2_pp _ _ (show 74 ≠ 72 by omega)]
      by_cases e : z = w
      · subst e
        rw [up_at, u2_s]
        exact ⟨rfl, b2, by omega, b4, b5, b6⟩
      · rw [up_ne _ _ e, u2_k _ _ e]
        exact ⟨b1, b2, b3, b4, b5, b6⟩) hF
    rw [up_up, u2_u2] at e1
    have er : alF (rdB (va_up (u2 A 72 w (nI v)) 79 g) (va_up kd w v) ln lt) 0 n = alF (rdB A (va_up kd w v) ln lt) 0 n := alF_congr n 0 (fun i _ hi => by
      have := hJ.1
      have e : ∀ p, p ≠ 79 → p ≠ 72 → va_up (u2 A 72 w (nI v)) 79 g p = A p := fun p h1 h2 => by rw [up_ne _ _ h1, u2_pp _ _ h2]
      exact rdB_c (e _ (by omega) (by omega)) (e _ (by omega) (by omega)) (e _ (by omega) (by omega)) (e _ (by omega) (by omega)))
    rw [er] at e1
    obtain ⟨g', y', hi⟩ := ih u (v + 1) (acc ||| if alF (rdB A (va_up kd w v) ln lt) 0 n = true then 2 ^ v else 0) (nI v) y1 g1 (by omega) (by omega)
    refine ⟨g', y', ?_⟩
    show s_X8_kinds_22 _ _ _ _ _ _ _ _ = _
    unfold s_X8_kinds_22 x_X8_kinds_52
    rw [if_neg (fun z => by have := (nI_leI (a := 3) (by omega) (by omega)).mp z; omega), r_68_7, bs, s_72 hi4, bs, tw, com, e1, bs, nI_1]
    simp only [orF]
    cases hb : alF (rdB A (va_up kd w v) ln lt) 0 n
    · rw [hb] at hi
      rw [if_pos cI_f, e0, nIor]
      exact hi
    · rw [hb] at hi
      rw [if_neg (by decide), sh4 v (by omega), nIor]
      simpa using hi
end KD
section ST9
variable {NO : tNO} {SS : (Nat → Int32) → Prop} {F : Nat}
theorem step_kinds (hNO : NOf NO) (hF : 80 ≤ F) : st_kinds (InvH NO SS) F := by
  intro h a1 hI
  obtain ⟨A, B, V, q, m, kd, ln, lt, rfl, hI⟩ := hI
  have hI0 := hI
  obtain ⟨hq, hW, hS, hZ, hR, hT, hSS, hN⟩ := hI
  obtain ⟨hm, v1, v2, hX, hM, hL⟩ := id hW
  cases hb : inb a1 m
  · refine ⟨(-1, mk A B V q), (-1, mk A B V q), ?_, ?_, rfl, A, B, _, q, m, kd, ln, lt, rfl, hI0⟩
    · unfold x_X7_kinds
      rw [c_0, bs, x7_isWord v1 hm, bs, hb, if_pos cI_f]
    · unfold x_X8_kinds
      rw [c_68, bs, x8_isWord v2 hm, bs, hb, if_pos cI_f]
  · obtain ⟨w, hw, rfl⟩ := inb_ex hb (by omega)
    have b3 := wpl_b hq (show w < 4 by omega)
    have hi4 : inb (nI w) 4 = true := inb_nI (by omega) (by omega)
    have tw : (nI w).toNatClampNeg = w := tn (by omega)
    obtain ⟨A1, hA1⟩ : ∃ A1, A1 = va_up A 25 (va_cpy (A (wpl q.1 w + 1)) (A 25) 0 0 4) := ⟨_, rfl⟩
    obtain ⟨V1, hV1⟩ : ∃ V1, V1 = u2 (u2 V 24 2 (nI (kd w))) 24 1 (nI (ln w)) := ⟨_, rfl⟩
    have eA : ∀ p, p ≠ 25 → A1 p = A p := fun p hp => by rw [hA1, up_ne _ _ hp]
    have eV : ∀ p, p ≠ 24 → V1 p = V p := fun p hp => by rw [hV1, u2_pp _ _ hp, u2_pp _ _ hp]
    have hI1 : InvW NO SS A1 B V1 q m kd ln lt := inv_scr hNO hI0 (fun p hp => eA p (fun z => hp (by unfold scrA; omega))) (fun _ _ _ => rfl) (fun p k hp => by rw [eV p (fun z => hp (by unfold scrV; omega))])
    obtain ⟨-, hW1, -, -, hR1, -, -, -⟩ := id hI1
    obtain ⟨-, v1', v2', hX1, hM1, -⟩ := hW1
    obtain ⟨n, hJ⟩ := RI_J hm hR1
    have h25 : ∀ j, j < 4 → A1 25 j = A1 (wpl q.1 w + 1) j := fun j hj => by rw [eA (wpl q.1 w + 1) (by omega), hA1, up_at, cpy4 hj]
    have h24 : V1 24 1 = nI (ln w) := by rw [hV1, u2_s]
    obtain ⟨x, e7⟩ := x7_kd_loop (B := B) (F := F) hq hm hJ hw hX1 h25 h24 (by omega) 3 F 0 0 (V1 24 2) (by omega) (by omega)
    rw [u2_self] at e7
    have hI2 : InvW NO SS A1 B (u2 V1 24 2 x) q m kd ln lt := inv_scr hNO hI1 (fun p hp => rfl) (fun _ _ _ => rfl) (fun p k hp => u2_ne (fun z => hp (by unfold scrV; omega)))
    obtain ⟨-, hW2, -, -, hR2, -, -, -⟩ := id hI2
    have hJ2 : RJ A1 (u2 V1 24 2 x) m n := by
      obtain ⟨j1, j2, j3, j4⟩ := hJ
      refine ⟨j1, by rw [u2_p _ _ (by omega)]; exact j2, by rw [u2_p _ _ (by omega)]; exact j3, fun k hk => ?_⟩
      rw [u2_p _ _ (by omega), u2_p _ _ (by omega), u2_p _ _ (by omega)]
      exact j4 k hk
    obtain ⟨g, y, e8⟩ := x8_kd_loop (B := B) (q := q) (F := F) hm hJ2 hM1 hw hF 3 F 0 0 (A1 72 w) (u2 V1 24 2 x 68 17) (A1 79) (by omega) (by omega)
    rw [u2_self, u2_self, up_same] at e8
    refine ⟨(nI (orF (fun v => if alF (rdB A1 (va_up kd w v) ln lt) 0 n = true then 2 ^ v else 0) 0 3 0), mk A1 B (u2 V1 24 2 x) q), (nI (orF (fun v => if alF (rdB A1 (va_up kd w v) ln lt) 0 n = true then 2 ^ v else 0) 0 3 0), mk (va_up A1 79 g) B (u2 (u2 V1 24 2 x) 68 17 y) q), ?_, ?_, rfl, _, B, _, q, m, kd, ln, lt, rfl, inv_look hNO hI2 _ _⟩
    · unfold x_X7_kinds
      rw [c_0, bs, x7_isWord v1 hm, bs, hb, if_neg (by decide), r_0_9, bs, r_0_2, bs, l_kn (okQ_kn hq) (by omega), bs, x6_become (hX w hw) (by omega), bs, ← hA1, ← hV1]
      exact e7
    · unfold x_X8_kinds
      rw [c_68, bs, x8_isWord (by rw [u2_p _ _ (by omega)]; exact v2') hm, bs, hb, if_neg (by decide), r_68_7, bs, l_72 hi4, bs, tw]
      exact e8
end ST9
