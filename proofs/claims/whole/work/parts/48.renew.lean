/-! counting on; the net is renewed -/
def NOp : tNO := fun A B V q m kd ln lt => 1 ≤ m ∧ V 27 5 = nI (fll m) ∧ netK A m (kd, ln, lt) 40 ∧ PO m (kd, ln, lt) A V ∧ CO m (kd, ln, lt) A B V q ∧ okQ q
theorem NO_f : NOf NOp := by
  intro A A' B B' V V' q m kd ln lt ag h
  obtain ⟨h0, h1, h2, h3, h4, h5⟩ := h
  have a := fun p (x : 27 ≤ p) (y : p ≤ 43) => (ag p x y).1
  have b := fun p (x : 27 ≤ p) (y : p ≤ 43) => (ag p x y).2.1
  have v := fun p (x : 27 ≤ p) (y : p ≤ 43) => (ag p x y).2.2
  have hR := okQ_R h5
  refine ⟨h0, by rw [v 27 (by omega) (by omega)]; exact h1, netK_c h2 (a _ (by omega) (by omega)) (a _ (by omega) (by omega)), ?_, ?_, h5⟩
  · obtain ⟨many, rw, wp, D, c1, c2⟩ := h3
    refine ⟨many, rw, wp, D, BI_c c1 (a _ (by omega) (by omega)) (a _ (by omega) (by omega)) (a _ (by omega) (by omega)) (a _ (by omega) (by omega)), ?_⟩
    rw [v 33 (by omega) (by omega), a 38 (by omega) (by omega)]
    exact c2
  · obtain ⟨many, ct, c1, c2, c3, c4, c5, c6⟩ := h4
    refine ⟨many, ct, by rw [v 33 (by omega) (by omega)]; exact c1, c2, c3, by rw [v 39 (by omega) (by omega)]; exact c4, by rw [b 40 (by omega) (by omega), b 41 (by omega) (by omega)]; exact c5, ?_⟩
    intro p hp
    have e : kP m (kd, ln, lt) A' ct p = kP m (kd, ln, lt) A ct p := by
      unfold kP ptA
      rw [a 34 (by omega) (by omega)]
    rw [e, b q.2.2.1 (by omega) (by omega)]
    exact c6 p hp
section RN
variable {F : Nat}
def filL (f : Nat → Int64) (a b : Nat) (x : Int64) : Nat → Int64 := fun i => if a ≤ i ∧ i < b then x else f i
theorem fillL_loop {A V : tA2} {q : tQ} {a n : Nat} (hs : shp a = (11, n)) (hn : n < 2 ^ 20) (x : Int64) : ∀ (d u j : Nat) (B : tB2), j + d = n → d < u → ∃ g, x_J7_fill_d0a16_6 F a x (nI n) u (mk A B V q) (nI j) = some (mk A (va_up B a g) V q) ∧ (∀ i, j ≤ i → i < n → g i = x) ∧ ∀ i, i < j → g i = B a i := by
  intro d
  induction d with
  | zero =>
    intro u j B hj hu
    obtain ⟨u, rfl⟩ : ∃ z, u = z + 1 := ⟨u - 1, by omega⟩
    refine ⟨B a, ?_, fun i h1 h2 => by omega, fun _ _ => rfl⟩
    rw [up_same]
    show s_J7_fill_d0a16_6 _ _ _ _ _ _ _ = _
    unfold s_J7_fill_d0a16_6
    rw [if_pos ((nI_leI (by omega) (by omega)).mpr (by omega))]
  | succ d ih =>
    intro u j B hj hu
    obtain ⟨u, rfl⟩ : ∃ z, u = z + 1 := ⟨u - 1, by omega⟩
    obtain ⟨g, e1, e2, e3⟩ := ih u (j + 1) (u2 B a j x) (by omega) (by omega)
    rw [u2_up, up_up, ← u2_up] at e1
    refine ⟨g, ?_, fun i h1 h2 => ?_, fun i hi => by rw [e3 i (by omega), u2_k _ _ (by omega)]⟩
    · show s_J7_fill_d0a16_6 _ _ _ _ _ _ _ = _
      unfold s_J7_fill_d0a16_6
      rw [if_neg (fun z => by have := (nI_leI (by omega) (by omega)).mp z; omega), mk_astL (p := a) (n := n) hs (inb_nI (by omega) (by omega)), bs, tn (by omega), nI_1]
      exact e1
    · by_cases e : i = j
      · subst e; rw [e3 i (by omega), u2_s]
      · exact e2 i (by omega) h2
theorem x_fillL {A V : tA2} {B : tB2} {q : tQ} {a n : Nat} (hs : shp a = (11, n)) (hn : n < 2 ^ 20) (x : Int64) (hF : n < F) : ∃ g, x_J7_fill_d0a16 F (mk A B V q) a x = some (mk A (va_up B a g) V q) ∧ ∀ i, i < n → g i = x := by
  obtain ⟨g, e1, e2, e3⟩ := fillL_loop (F := F) (A := A) (V := V) (q := q) hs hn x n F 0 B (by omega) (by omega)
  refine ⟨g, ?_, fun i hi => e2 i (by omega) hi⟩
  unfold x_J7_fill_d0a16
  rw [mk_alenL hs, bs]
  exact e1
/-- one addUp: the counts of ct letters -/
theorem co_up {A V : tA2} {B : tB2} {q : tQ} {m : Nat} {W : tW} (h : okL m W) (h1 : 1 ≤ m) (hq : okQ q) (hP : PO m W A V) {many ct : Nat} (hM : V 33 5 = nI many) (hm : many ≤ 320) (hct : ct ≤ 30) (hC : V 39 4 = nI ct) (hold : ∀ t, t < ct → B 40 t = lN (kA m W t) ∧ B 41 t = lN (kN m W t)) (hD : ∀ p, p < many → B q.2.2.1 p = lN (kP m W A ct p)) (hF : 400 ≤ F) : ∃ B', x_X0_addUp F (mk A B V q) 39 33 = some (mk A B' V q) ∧ (∀ P, P ≠ 40 → P ≠ 41 → B' P = B P) ∧ CO m W A B' V q := by
  obtain ⟨many', rw, wp, D, hB, c2, c3, c4, c5, c6, c7, c8, c9, c10⟩ := hP
  have hm2 := hB.2.1
  have em : many' = many := by
    rw [hM] at c2
    exact ((nI_eq (by omega) (by omega)).mp c2).symm
  subst em
  have hR := okQ_R hq
  have au := x0_addUp (F := F) (A := A) (B := B) (V := V) (pl := fun p => PP m W (rw p)) (D := kP m W A ct) hq hM hm hC hct c4 c3 (fun p hp => ⟨(hB.2.2.2.1 p hp).1, PP_lt h _⟩) hD hF
  rw [kP_none h h1 hB, kP_all h h1 hB c3 c9] at au
  refine ⟨_, au, fun P h4 h5 => by rw [u2_pp _ _ h5, u2_pp _ _ h4], many', ct, hM, hm, hct, hC, fun t ht => ?_, fun p hp => ?_⟩
  · by_cases e : t = ct
    · subst e
      rw [u2_p _ _ (show 40 ≠ 41 by omega), u2_s, u2_s]
      exact ⟨rfl, rfl⟩
    · rw [u2_k _ _ e, u2_k _ _ e, u2_k _ _ e, u2_k _ _ e]
      exact hold t (by omega)
  · rw [u2_p _ _ (by omega), u2_p _ _ (by omega)]
    exact hD p hp
theorem x0_begin {A V : tA2} {B : tB2} {q : tQ} {m : Nat} {W : tW} (h : okL m W) (h1 : 1 ≤ m) (hq : okQ q) (hP : PO m W A V) (hF : 400 ≤ F) : ∃ B', x_X0_begin F (mk A B V q) 39 33 = some (mk A B' (u2 V 39 4 0) q) ∧ (∀ P, ¬ (40 ≤ P ∧ P ≤ 43) → B' P = B P) ∧ CO m W A B' (u2 V 39 4 0) q := by
  have hR := okQ_R hq
  obtain ⟨many, rw, wp, D, hB, c2⟩ := id hP
  have m320 := hB.2.1
  have m1 := hB.1
  obtain ⟨g, e1, e2⟩ := x_fillL (F := F) (A := A) (V := V) (B := B) (q := q) (a := q.2.2.1) (n := 320) (by rcases hR.1 with z | z <;> rw [z] <;> rfl) (by omega) 0 (by omega)
  have hP2 : PO m W A (u2 V 39 4 0) := by
    refine ⟨many, rw, wp, D, hB, ?_⟩
    rw [u2_pp _ _ (by omega)]
    exact c2
  obtain ⟨p1, p2, p3⟩ := pt_ok h h1 hB
  have pt0 : ptA m W A 0 = 0 := by
    unfold ptA
    have := (hB.2.2.2.1 0 (by omega)).2
    rw [hB.2.2.1] at this
    rw [this, tn (by omega)]
  obtain ⟨B', u1, u3, u4⟩ := co_up (F := F) (A := A) (B := u2 (va_up B q.2.2.1 g) q.2.2.1 0 1) (V := u2 V 39 4 0) (q := q) (ct := 0) h h1 hq hP2 (many := many) (by rw [u2_p _ _ (by omega)]; exact c2.1) m320 (by omega) (u2_s _ _ _ _) (fun t ht => by omega) (fun p hp => by
    show _ = lN (ind (ptA m W A 0) p)
    rw [pt0]
    by_cases e : p = 0
    · subst e; rw [u2_s]; rfl
    · rw [u2_k _ _ e, up_at, e2 p (by omega)]
      unfold ind
      rw [if_neg (fun z => e z.symm)]
      rfl) hF
  refine ⟨B', ?_, fun P hP => by rw [u3 P (by omega) (by omega), u2_pp _ _ (by omega), up_ne _ _ (by omega)], u4⟩
  unfold x_X0_begin
  rw [c_39, bs, r_39_2, bs, e1, bs, r_39_2, bs, s_RR hR.1 (show inb 0 320 = true by decide), bs, w_39_4, bs]
  show (x_X0_addUp F (mk A (u2 (va_up B q.2.2.1 g) q.2.2.1 0 1) (u2 V 39 4 0) q) 39 33).bind _ = _
  rw [u1, bs]
theorem x0_ct_loop {A : tA2} {m : Nat} {W : tW} (h : okL m W) (h1 : 1 ≤ m) {n : Nat} (hn : n ≤ 30) (hF : 400 ≤ F) : ∀ (d u ct : Nat) (B : tB2) (V : tA2) (q : tQ), okQ q → PO m W A V → CO m W A B V q → V 39 4 = nI ct → ct ≤ 30 → ct + d = (if n ≤ ct then ct else n) → d < u → ∃ B' V' q', x_X0_countTo_0 F 39 33 (nI n) u (mk A B V q) = some (mk A B' V' q') ∧ (∀ P, ¬ (40 ≤ P ∧ P ≤ 43) → B' P = B P) ∧ (∀ p, p ≠ 39 → V' p = V p) ∧ okQ q' ∧ q'.1 = q.1 ∧ q'.2.1 = q.2.1 ∧ CO m W A B' V' q' ∧ ∃ ct', V' 39 4 = nI ct' ∧ n ≤ ct' ∧ ct' ≤ 30 := by
  intro d
  induction d with
  | zero =>
    intro u ct B V q hq hP hC hv hct hd hu
    obtain ⟨u, rfl⟩ : ∃ z, u = z + 1 := ⟨u - 1, by omega⟩
    have hle : n ≤ ct := by
      rcases Nat.lt_or_ge ct n with z | z
      · rw [if_neg (by omega)] at hd; omega
      · exact z
    refine ⟨B, V, q, ?_, fun _ _ => rfl, fun _ _ => rfl, hq, rfl, rfl, hC, ct, hv, hle, hct⟩
    show s_X0_countTo_0 _ _ _ _ _ _ = _
    unfold s_X0_countTo_0
    rw [g_39_4, bs, hv, if_pos ((nI_leI (by omega) (by omega)).mpr hle)]
  | succ d ih =>
    intro u ct B V q hq hP hC hv hct hd hu
    obtain ⟨u, rfl⟩ : ∃ z, u = z + 1 := ⟨u - 1, by omega⟩
    have hlt : ct < n := by
      rcases Nat.lt_or_ge ct n with z | z
      · exact z
      · rw [if_pos z] at hd; omega
    rw [if_neg (by omega)] at hd
    obtain ⟨many, ct', c1, c2, c3, c4, c5, c6⟩ := hC
    have ec : ct' = ct := by
      rw [hv] at c4
      exact ((nI_eq (by omega) (by omega)).mp c4).symm
    subst ec
    obtain ⟨many', rw, wp, D, hB, e5⟩ := id hP
    have m320 := hB.2.1
    have em : many' = many := by
      have := e5.1
      rw [c1] at this
      exact ((nI_eq (by omega) (by omega)).mp this).symm
    subst em
    have hR := okQ_R hq
    obtain ⟨p1, p2, p3⟩ := pt_ok h h1 hB
    obtain ⟨B1, a1, a2, a3⟩ := x0_addLetter (F := F) (A := A) (B := B) (V := V) (q := q) (D := kP m W A ct') hq c1 c2 p3 (fun p => kP_lt c3) hF c6
    have hq2 : okQ (q.1, q.2.1, q.2.2.2, q.2.2.1) := by
      refine ⟨hq.1, ?_⟩
      rcases hq.2 with ⟨z1, z2⟩ | ⟨z1, z2⟩
      · right; exact ⟨z2, z1⟩
      · left; exact ⟨z2, z1⟩
    have hP2 : PO m W A (u2 V 39 4 (nI (ct' + 1))) := by
      refine ⟨many', rw, wp, D, hB, ?_⟩
      rw [u2_pp _ _ (by omega)]
      exact e5
    obtain ⟨B2, u1, u3, u4⟩ := co_up (F := F) (A := A) (B := B1) (V := u2 V 39 4 (nI (ct' + 1))) (q := (q.1, q.2.1, q.2.2.2, q.2.2.1)) (ct := ct' + 1) h h1 hq2 hP2 (many := many') (by rw [u2_p _ _ (by omega)]; exact c1) c2 (by omega) (u2_s _ _ _ _) (fun t ht => by
      rw [a2 40 (by omega), a2 41 (by omega)]
      exact c5 t (by omega)) (fun p hp => by
      show B1 q.2.2.2 p = _
      rw [a3 p hp, kP_step h h1 hB]) hF
    obtain ⟨B', V', q', i1, i2, i3, i4, i5, i6, i7⟩ := ih u (ct' + 1) B2 (u2 V 39 4 (nI (ct' + 1))) (q.1, q.2.1, q.2.2.2, q.2.2.1) hq2 hP2 u4 (u2_s _ _ _ _) (by omega) (by
      by_cases z : n ≤ ct' + 1
      · rw [if_pos z]; omega
      · rw [if_neg z]; omega) (by omega)
    refine ⟨B', V', q', ?_, fun P hP => by rw [i2 P hP, u3 P (by omega) (by omega), a2 P (by omega)], fun p hp => by rw [i3 p hp, u2_pp _ _ hp], i4, i5, i6, i7⟩
    show s_X0_countTo_0 _ _ _ _ _ _ = _
    unfold s_X0_countTo_0
    rw [g_39_4, bs, hv, if_neg (fun z => by have := (nI_leI (by omega) (by omega)).mp z; omega), bs, if_neg (show ¬ (30 : Int32) ≤ nI ct' from fun z => by have := (nI_leI (a := 30) (by omega) (by omega)).mp z; omega), a1, bs, g_39_4, bs, hv, nI_1, w_39_4, bs, u1, bs]
    exact i1
theorem x0_countTo {A : tA2} {B : tB2} {V : tA2} {q : tQ} {m : Nat} {W : tW} (h : okL m W) (h1 : 1 ≤ m) {n : Nat} (hn : n ≤ 30) (hF : 400 ≤ F) (hq : okQ q) (hP : PO m W A V) (hC : CO m W A B V q) : ∃ B' V' q', x_X0_countTo F (mk A B V q) 39 33 (nI n) = some (mk A B' V' q') ∧ (∀ P, ¬ (40 ≤ P ∧ P ≤ 43) → B' P = B P) ∧ (∀ p, p ≠ 39 → V' p = V p) ∧ okQ q' ∧ q'.1 = q.1 ∧ q'.2.1 = q.2.1 ∧ CO m W A B' V' q' ∧ ∃ ct', V' 39 4 = nI ct' ∧ n ≤ ct' ∧ ct' ≤ 30 := by
  obtain ⟨many, ct, c1, c2, c3, c4, c5, c6⟩ := id hC
  unfold x_X0_countTo
  rw [c_39, bs]
  by_cases z : n ≤ ct
  · exact x0_ct_loop h h1 hn hF 0 F ct B V q hq hP hC c4 c3 (by rw [if_pos z]; omega) (by omega)
  · exact x0_ct_loop h h1 hn hF (n - ct) F ct B V q hq hP hC c4 c3 (by rw [if_neg z]; omega) (by omega)
/-- the net, the points, the counts are renewed where they are old -/
theorem x7_renewNet {A V : tA2} {B : tB2} {q : tQ} {m : Nat} {kd ln : Nat → Nat} {lt : Nat → Nat → Int32} (h1 : 1 ≤ m) (hI : InvW NOp SSp A B V q m kd ln lt) (hF : 700 ≤ F) : okL m (kd, ln, lt) ∧ ∃ A' B' V', x_X7_renewNet F (mk A B V q) 0 = some (mk A' B' V' q) ∧ InvW NOp SSp A' B' V' q m kd ln lt ∧ NOp A' B' V' q m kd ln lt ∧ V' 0 14 = 0 := by
  have hI0 := hI
  obtain ⟨hq, hW, hS, hZ, hR, hT, hSS, hN⟩ := hI
  obtain ⟨hm, v1, v2, hX, hM, hL⟩ := id hW
  have h : okL m (kd, ln, lt) := ⟨hm, fun w hw => ⟨(hM w hw).2.2.1, (hM w hw).2.2.2.1, (hM w hw).2.2.2.2.1, fun j hj => hL w hw j hj⟩⟩
  refine ⟨h, ?_⟩
  rcases hN with z | ⟨z1, z2⟩
  · obtain ⟨A1, e1, e2, e3⟩ := x1_learn (B := B) (q := q) (F := F) (A := A) (V := V) h hq (by omega) hX hSS
    obtain ⟨A2, V2, f1, f2, f3, f4⟩ := x2_lay (B := B) (q := q) (F := F) (A := A1) (V := u2 V 27 5 (nI (fll m))) h h1 e3 (u2_s _ _ _ _) hF
    obtain ⟨B3, g1, g2, g3⟩ := x0_begin (F := F) (A := A2) (B := B) (V := V2) (q := q) h h1 hq f4 (by omega)
    have aA : ∀ p, ¬ (29 ≤ p ∧ p ≤ 38) → A2 p = A p := fun p hp => by rw [f2 p (by omega), e2 p (by omega)]
    obtain ⟨V3, hV3⟩ : ∃ V3, V3 = u2 (u2 V2 39 4 0) 0 14 0 := ⟨_, rfl⟩
    have aV : ∀ p k, ¬ (p = 0 ∧ k = 14) → p ≠ 27 → p ≠ 33 → p ≠ 39 → V3 p k = V p k := fun p k h1 h2 h3 h4 => by rw [hV3, u2_ne h1, u2_p _ _ h4, f3 p k (by omega), u2_p _ _ h2]
    have nv : ∀ p, 1 ≤ p → ¬ (27 ≤ p ∧ p ≤ 43) → V3 p = V p := fun p h1 h2 => by funext k; exact aV p k (by omega) (by omega) (by omega) (by omega)
    have no : NOp A2 B3 V3 q m kd ln lt := by
      refine ⟨h1, ?_, netK_c e3 (f2 _ (by omega)) (f2 _ (by omega)), ?_, ?_, hq⟩
      · rw [hV3, u2_p _ _ (by omega), u2_p _ _ (by omega), f3 _ _ (by omega), u2_s]
      · obtain ⟨many, rw, wp, D, c1, c2⟩ := f4
        refine ⟨many, rw, wp, D, c1, ?_⟩
        rw [hV3, u2_pp _ _ (by omega), u2_pp _ _ (by omega)]
        exact c2
      · obtain ⟨many, ct, c1, c2, c3, c4, c5, c6⟩ := g3
        exact ⟨many, ct, by rw [hV3, u2_p _ _ (by omega)]; exact c1, c2, c3, by rw [hV3, u2_p _ _ (by omega)]; exact c4, c5, c6⟩
    have v14 : V3 0 14 = 0 := by rw [hV3, u2_s]
    refine ⟨A2, B3, V3, ?_, ?_, no, v14⟩
    · unfold x_X7_renewNet
      rw [c_0, bs, g_0_14, bs, z, if_neg (by decide), r_0_11, bs, r_0_2, bs, g_0_3, bs, v1, e1, bs, r_0_12, bs, r_0_11, bs, f1, bs, r_0_13, bs, r_0_12, bs, g1, bs, z_0_14_0, bs, hV3]
    · refine ⟨hq, WI_c hW hq (fun p h1 h2 => ⟨aA p (by omega), nv p (by omega) (by omega)⟩) (aA _ (by omega)) (aA _ (by omega)) (aA _ (by omega)) (aV _ _ (by omega) (by omega) (by omega) (by omega)) (aV _ _ (by omega) (by omega) (by omega) (by omega)), SI_c hS (fun p h1 h2 => ⟨aA p (by omega), nv p (by omega) (by omega)⟩) (aA _ (by omega)) (aA _ (by omega)) (aA _ (by omega)), ZI_c hZ (aA _ (by omega)) (aA _ (by omega)) (aV _ _ (by omega) (by omega) (by omega) (by omega)) (aV _ _ (by omega) (by omega) (by omega) (by omega)), RI_c hR (fun p h1 h2 => ⟨aA p (by omega), nv p (by omega) (by omega)⟩) (fun p h1 h2 => aA p (by omega)) (aV _ _ (by omega) (by omega) (by omega) (by omega)) (aV _ _ (by omega) (by omega) (by omega) (by omega)), TI_c hT (aV _ _ (by omega) (by omega) (by omega) (by omega)) (aV _ _ (by omega) (by omega) (by omega) (by omega)) (aV _ _ (by omega) (by omega) (by omega) (by omega)) (aV _ _ (by omega) (by omega) (by omega) (by omega)), by rw [aA _ (by omega)]; exact hSS, Or.inr ⟨v14, no⟩⟩
  · refine ⟨A, B, V, ?_, hI0, z2, z1⟩
    unfold x_X7_renewNet
    rw [c_0, bs, g_0_14, bs, z1, if_pos rfl]
end RN
