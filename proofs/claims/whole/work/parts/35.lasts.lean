/-! step: lasts -/
section LS
variable {B : tB2} {q : tQ} {F : Nat}
theorem u2_com {α : Type} (A : Nat → Nat → α) {p p2 : Nat} (k : Nat) (x z : α) (g : Nat → α) (h : p2 ≠ p) : u2 (va_up (u2 A p k x) p2 g) p k z = va_up (u2 A p k z) p2 g := by
  funext j
  by_cases e : j = p2
  · subst e; rw [u2_pp _ _ h, up_at, up_at]
  · rw [up_ne _ _ e]
    by_cases e2 : j = p
    · subst e2
      rw [u2_up, up_at, up_ne _ _ (by omega), u2_up, up_at, u2_up, up_at, up_up]
    · rw [u2_pp _ _ e2, up_ne _ _ e, u2_pp _ _ e2, u2_pp _ _ e2]
theorem x7_ls_loop {A V : tA2} {m n : Nat} {kd ln : Nat → Nat} {lt : Nat → Nat → Int32} (hq : okQ q) (hm : m ≤ 4) (hJ : RJ A V m n) {w : Nat} (hw : w < m) (hX : repX A V q.1 m kd ln lt) (h25 : ∀ j, j < 4 → A 25 j = A (wpl q.1 w + 1) j) (h24 : V 24 1 = nI (ln w)) (h24' : V 24 2 = nI (kd w)) (hF : 20 ≤ F) : ∀ (d u v acc : Nat) (x : Int32), v + d = 3 → d < u → ∃ x', x_X7_lasts_27 F 0 (nI w) u (mk (u2 A 25 (ln w - 1) x) B V q) (nI acc) (nI v) = some (nI (orF (fun v => if alF (rdB A kd ln (u2 lt w (ln w - 1) (nI v))) 0 n = true then 2 ^ v else 0) v d acc), mk (u2 A 25 (ln w - 1) x') B V q) := by
  have hL4 : ln w ≤ 4 ∧ 1 ≤ ln w := by obtain ⟨b1, b2, b3, b4, b5, b6, b7⟩ := hX w hw; exact ⟨b6, b5⟩
  intro d
  induction d with
  | zero =>
    intro u v acc x hv hu
    obtain ⟨u, rfl⟩ : ∃ z, u = z + 1 := ⟨u - 1, by omega⟩
    refine ⟨x, ?_⟩
    show s_X7_lasts_27 _ _ _ _ _ _ _ = _
    unfold s_X7_lasts_27
    rw [show v = 3 by omega, if_pos (by decide)]
    rfl
  | succ d ih =>
    intro u v acc x hv hu
    obtain ⟨u, rfl⟩ : ∃ z, u = z + 1 := ⟨u - 1, by omega⟩
    have eA : ∀ p, p ≠ 25 → u2 A 25 (ln w - 1) (nI v) p = A p := fun p hp => u2_pp _ _ hp
    have hx := x7_ras (B := B) (F := F) (A := u2 A 25 (ln w - 1) (nI v)) (V := V) (kd := kd) (ln := ln) (lt := u2 lt w (ln w - 1) (nI v)) hq hm (n := n) (w := w) (by
      obtain ⟨j1, j2, j3, j4⟩ := hJ
      refine ⟨j1, j2, j3, fun k hk => ?_⟩
      unfold rwd rln rsd
      rw [eA 87 (by omega), eA 88 (by omega), eA 89 (by omega), eA 90 (by omega), eA (53 + 2 * k) (by omega)]
      exact j4 k hk) hw (fun z hz => by
      obtain ⟨b1, b2, b3, b4, b5, b6, b7⟩ := hX z hz
      by_cases e : z = w
      · subst e
        rw [if_pos rfl]
        refine ⟨by simp [isW], h24', h24, b4, b5, b6, fun j hj => ?_⟩
        by_cases e2 : j = ln z - 1
        · subst e2
          rw [u2_s, u2_s]
        · rw [u2_k _ _ e2, u2_k _ _ e2, h25 j (by omega)]; exact b7 j hj
      · rw [if_neg e, u2_pp _ _ e]
        have := wpl_b hq (show z < 4 by omega)
        exact atW_c (hX z hz) (eA _ (by omega)) rfl) hF
    have er : alF (rdB (u2 A 25 (ln w - 1) (nI v)) kd ln (u2 lt w (ln w - 1) (nI v))) 0 n = alF (rdB A kd ln (u2 lt w (ln w - 1) (nI v))) 0 n := alF_congr n 0 (fun i _ hi => by
      have := hJ.1
      exact rdB_c (eA _ (by omega)) (eA _ (by omega)) (eA _ (by omega)) (eA _ (by omega)))
    rw [er] at hx
    obtain ⟨x', hi⟩ := ih u (v + 1) (acc ||| if alF (rdB A kd ln (u2 lt w (ln w - 1) (nI v))) 0 n = true then 2 ^ v else 0) (nI v) (by omega) (by omega)
    refine ⟨x', ?_⟩
    show s_X7_lasts_27 _ _ _ _ _ _ _ = _
    unfold s_X7_lasts_27 x_X7_lasts_54 x_X6_changeLast
    have s25 := sW (A := u2 A 25 (ln w - 1) x) (B := B) (V := V) (q := q) (a := 24) (i := nI (ln w - 1)) (x := nI v) (by simp [isW]) (inb_nI (by omega) (by omega))
    rw [if_neg (fun z => by have := (nI_leI (a := 3) (by omega) (by omega)).mp z; omega), r_0_9, bs, cW (by simp [isW]), bs, gW1 (by simp [isW]), bs, h24, if_neg (fun z => by have := (nI_leI (b := 0) (by omega) (by omega)).mp z; omega), rW (by simp [isW]), bs, bs, nI_sub1 (by omega), s25, bs, bs, tn (by omega), u2_u2, hx, bs, nI_1]
    simp only [orF]
    cases hb : alF (rdB A kd ln (u2 lt w (ln w - 1) (nI v))) 0 n
    · rw [hb] at hi
      rw [if_pos cI_f]
      simpa using hi
    · rw [hb] at hi
      rw [if_neg (by decide), sh4 v (by omega), nIor]
      simpa using hi
theorem x8_ls_loop {A V : tA2} {m n : Nat} {kd ln : Nat → Nat} {lt : Nat → Nat → Int32} (hm : m ≤ 4) (hJ : RJ A V m n) (hM : repM A m kd ln lt) {w : Nat} (hw : w < m) (hF : 80 ≤ F) : ∀ (d u v acc : Nat) (x y : Int32) (g : Nat → Int32), v + d = 3 → d < u → ∃ g' y', x_X8_lasts_36 F 68 (nI (4 * w + ln w - 1)) (A 74 (4 * w + ln w - 1)) u (mk (va_up (u2 A 74 (4 * w + ln w - 1) x) 79 g) B (u2 V 68 17 y) q) (nI acc) (nI v) = some (nI (orF (fun v => if alF (rdB A kd ln (u2 lt w (ln w - 1) (nI v))) 0 n = true then 2 ^ v else 0) v d acc), mk (va_up A 79 g') B (u2 V 68 17 y') q) := by
  have hL4 : ln w ≤ 4 ∧ 1 ≤ ln w := by obtain ⟨b1, b2, b3, b4, b5, b6⟩ := hM w hw; exact ⟨b5, b4⟩
  have hi4 : inb (nI (4 * w + ln w - 1)) 16 = true := inb_nI (by omega) (by omega)
  have tw : (nI (4 * w + ln w - 1)).toNatClampNeg = 4 * w + ln w - 1 := tn (by omega)
  intro d
  induction d with
  | zero =>
    intro u v acc x y g hv hu
    obtain ⟨u, rfl⟩ : ∃ z, u = z + 1 := ⟨u - 1, by omega⟩
    refine ⟨g, y, ?_⟩
    show s_X8_lasts_36 _ _ _ _ _ _ _ _ = _
    unfold s_X8_lasts_36
    rw [show v = 3 by omega, if_pos (by decide), r_68_9, bs, s_74 hi4, bs, tw, u2_com _ _ _ _ _ (by omega), u2_self]
    rfl
  | succ d ih =>
    intro u v acc x y g hv hu
    obtain ⟨u, rfl⟩ : ∃ z, u = z + 1 := ⟨u - 1, by omega⟩
    have e : ∀ p, p ≠ 79 → p ≠ 74 → va_up (u2 A 74 (4 * w + ln w - 1) (nI v)) 79 g p = A p := fun p h1 h2 => by rw [up_ne _ _ h1, u2_pp _ _ h2]
    obtain ⟨g1, y1, e1⟩ := x8_areSo (B := B) (q := q) (F := F) (A := va_up (u2 A 74 (4 * w + ln w - 1) (nI v)) 79 g) (V := u2 V 68 17 y) (kd := kd) (ln := ln) (lt := u2 lt w (ln w - 1) (nI v)) hm (n := n) (by
      obtain ⟨j1, j2, j3, j4⟩ := hJ
      refine ⟨j1, by rw [u2_p _ _ (by omega)]; exact j2, by rw [u2_k _ _ (by omega)]; exact j3, fun k hk => ?_⟩
      unfold rwd rln rsd
      rw [u2_p _ _ (by omega), u2_p _ _ (by omega), u2_p _ _ (by omega), e 87 (by omega) (by omega), e 88 (by omega) (by omega), e 89 (by omega) (by omega), e 90 (by omega) (by omega), e (53 + 2 * k) (by omega) (by omega)]
      exact j4 k hk) (fun z hz => by
      obtain ⟨b1, b2, b3, b4, b5, b6⟩ := hM z hz
      rw [e 72 (by omega) (by omega), e 73 (by omega) (by omega), up_ne _ _ (show 74 ≠ 79 by omega)]
      refine ⟨b1, b2, b3, b4, b5, fun j hj => ?_⟩
      by_cases ez : z = w ∧ j = ln w - 1
      · obtain ⟨rfl, rfl⟩ := ez
        rw [show 4 * z + (ln z - 1) = 4 * z + ln z - 1 by omega, u2_s, u2_s]
      · rw [u2_ne ez, u2_k _ _ (by omega)]
        exact b6 j hj) hF
    rw [up_up, u2_u2] at e1
    have er : alF (rdB (va_up (u2 A 74 (4 * w + ln w - 1) (nI v)) 79 g) kd ln (u2 lt w (ln w - 1) (nI v))) 0 n = alF (rdB A kd ln (u2 lt w (ln w - 1) (nI v))) 0 n := alF_congr n 0 (fun i _ hi => by
      have := hJ.1
      exact rdB_c (e _ (by omega) (by omega)) (e _ (by omega) (by omega)) (e _ (by omega) (by omega)) (e _ (by omega) (by omega)))
    rw [er] at e1
    obtain ⟨g', y', hi⟩ := ih u (v + 1) (acc ||| if alF (rdB A kd ln (u2 lt w (ln w - 1) (nI v))) 0 n = true then 2 ^ v else 0) (nI v) y1 g1 (by omega) (by omega)
    refine ⟨g', y', ?_⟩
    show s_X8_lasts_36 _ _ _ _ _ _ _ _ = _
    unfold s_X8_lasts_36 x_X8_lasts_67
    rw [if_neg (fun z => by have := (nI_leI (a := 3) (by omega) (by omega)).mp z; omega), r_68_9, bs, s_74 hi4, bs, tw, u2_com _ _ _ _ _ (by omega), e1, bs, nI_1]
    simp only [orF]
    cases hb : alF (rdB A kd ln (u2 lt w (ln w - 1) (nI v))) 0 n
    · rw [hb] at hi
      rw [if_pos cI_f, e0, nIor]
      exact hi
    · rw [hb] at hi
      rw [if_neg (by decide), sh4 v (by omega), nIor]
      simpa using hi
end LS
section ST10
variable {NO : tNO} {SS : (Nat → Int32) → Prop} {F : Nat}
theorem step_lasts (hNO : NOf NO) (hF : 80 ≤ F) : st_lasts (InvH NO SS) F := by
  intro h a1 hI
  obtain ⟨A, B, V, q, m, kd, ln, lt, rfl, hI⟩ := hI
  have hI0 := hI
  obtain ⟨hq, hW, hS, hZ, hR, hT, hSS, hN⟩ := hI
  obtain ⟨hm, v1, v2, hX, hM, hL⟩ := id hW
  cases hb : inb a1 m
  · refine ⟨(-1, mk A B V q), (-1, mk A B V q), ?_, ?_, rfl, A, B, _, q, m, kd, ln, lt, rfl, hI0⟩
    · unfold x_X7_lasts
      rw [c_0, bs, x7_isWord v1 hm, bs, hb, if_pos cI_f]
    · unfold x_X8_lasts
      rw [c_68, bs, x8_isWord v2 hm, bs, hb, if_pos cI_f]
  · obtain ⟨w, hw, rfl⟩ := inb_ex hb (by omega)
    have b3 := wpl_b hq (show w < 4 by omega)
    have hi4 : inb (nI w) 4 = true := inb_nI (by omega) (by omega)
    have tw : (nI w).toNatClampNeg = w := tn (by omega)
    obtain ⟨-, m2, -, m4, m5, -⟩ := hM w hw
    obtain ⟨A1, hA1⟩ : ∃ A1, A1 = va_up A 25 (va_cpy (A (wpl q.1 w + 1)) (A 25) 0 0 4) := ⟨_, rfl⟩
    obtain ⟨V1, hV1⟩ : ∃ V1, V1 = u2 (u2 V 24 2 (nI (kd w))) 24 1 (nI (ln w)) := ⟨_, rfl⟩
    have eA : ∀ p, p ≠ 25 → A1 p = A p := fun p hp => by rw [hA1, up_ne _ _ hp]
    have eV : ∀ p, p ≠ 24 → V1 p = V p := fun p hp => by rw [hV1, u2_pp _ _ hp, u2_pp _ _ hp]
    have hI1 : InvW NO SS A1 B V1 q m kd ln lt := inv_scr hNO hI0 (fun p hp => eA p (fun z => hp (by unfold scrA; omega))) (fun _ _ _ => rfl) (fun p k hp => by rw [eV p (fun z => hp (by unfold scrV; omega))])
    obtain ⟨-, hW1, -, -, hR1, -, -, -⟩ := id hI1
    obtain ⟨-, v1', v2', hX1, hM1, -⟩ := hW1
    obtain ⟨n, hJ⟩ := RI_J hm hR1
    have h25 : ∀ j, j < 4 → A1 25 j = A1 (wpl q.1 w + 1) j := fun j hj => by rw [eA (wpl q.1 w + 1) (by omega), hA1, up_at, cpy4 hj]
    have h24 : V1 24 1 = nI (ln w) := by rw [hV1, u2_s]
    have h24' : V1 24 2 = nI (kd w) := by rw [hV1, u2_k _ _ (by omega), u2_s]
    obtain ⟨x, e7⟩ := x7_ls_loop (B := B) (F := F) hq hm hJ hw hX1 h25 h24 h24' (by omega) 3 F 0 0 (A1 25 (ln w - 1)) (by omega) (by omega)
    rw [u2_self] at e7
    have hI2 : InvW NO SS (u2 A1 25 (ln w - 1) x) B V1 q m kd ln lt := inv_scr hNO hI1 (fun p hp => u2_pp _ _ (fun z => hp (by unfold scrA; omega))) (fun _ _ _ => rfl) (fun p k hp => rfl)
    obtain ⟨-, hW2, -, -, hR2, -, -, -⟩ := id hI2
    obtain ⟨-, -, -, -, hM2, -⟩ := hW2
    have eB : ∀ p, p ≠ 25 → u2 A1 25 (ln w - 1) x p = A1 p := fun p hp => u2_pp _ _ hp
    have hJ2 : RJ (u2 A1 25 (ln w - 1) x) V1 m n := by
      obtain ⟨j1, j2, j3, j4⟩ := hJ
      refine ⟨j1, j2, j3, fun k hk => ?_⟩
      unfold rwd rln rsd
      rw [eB 87 (by omega), eB 88 (by omega), eB 89 (by omega), eB 90 (by omega), eB (53 + 2 * k) (by omega)]
      exact j4 k hk
    obtain ⟨g, y, e8⟩ := x8_ls_loop (B := B) (q := q) (F := F) hm hJ2 hM2 hw hF 3 F 0 0 (u2 A1 25 (ln w - 1) x 74 (4 * w + ln w - 1)) (V1 68 17) (u2 A1 25 (ln w - 1) x 79) (by omega) (by omega)
    rw [u2_self (u2 A1 25 (ln w - 1) x), u2_self V1, up_same] at e8
    have er : (fun v => if alF (rdB (u2 A1 25 (ln w - 1) x) kd ln (u2 lt w (ln w - 1) (nI v))) 0 n = true then 2 ^ v else 0) = (fun v => if alF (rdB A1 kd ln (u2 lt w (ln w - 1) (nI v))) 0 n = true then 2 ^ v else 0) := by
      funext v
      rw [alF_congr n 0 (fun i _ hi => by
        have := hJ.1
        exact rdB_c (eB _ (by omega)) (eB _ (by omega)) (eB _ (by omega)) (eB _ (by omega)))]
    rw [er] at e8
    refine ⟨(nI (orF (fun v => if alF (rdB A1 kd ln (u2 lt w (ln w - 1) (nI v))) 0 n = true then 2 ^ v else 0) 0 3 0), mk (u2 A1 25 (ln w - 1) x) B V1 q), (nI (orF (fun v => if alF (rdB A1 kd ln (u2 lt w (ln w - 1) (nI v))) 0 n = true then 2 ^ v else 0) 0 3 0), mk (va_up (u2 A1 25 (ln w - 1) x) 79 g) B (u2 V1 68 17 y) q), ?_, ?_, rfl, _, B, _, q, m, kd, ln, lt, rfl, inv_look hNO hI2 _ _⟩
    · unfold x_X7_lasts
      rw [c_0, bs, x7_isWord v1 hm, bs, hb, if_neg (by decide), r_0_9, bs, r_0_2, bs, l_kn (okQ_kn hq) (by omega), bs, x6_become (hX w hw) (by omega), bs, ← hA1, ← hV1]
      exact e7
    · unfold x_X8_lasts
      rw [c_68, bs, x8_isWord v2' hm, bs, hb, if_neg (by decide), r_68_8, bs, l_73 hi4, bs, tw, eB 73 (by omega), eA 73 (by omega), m2, n4, nI_add, nI_sub1 (by omega), r_68_9, bs, l_74 (inb_nI (by omega) (by omega)), bs, tn (by omega)]
      exact e8
end ST10
