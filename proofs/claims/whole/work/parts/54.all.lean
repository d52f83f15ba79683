/-! step: all -/
def EX : Nat → Nat → Nat → Prop
  | 0, r, r' => r' = r
  | d + 1, r, r' => ∃ c, c < 3 ∧ EX d (bh r c) r'
theorem RD_EX {m : Nat} {W : tW} (h : okL m W) : ∀ (d r : Nat), RD m W d (XM m W r) ↔ ∃ r', EX d r r' ∧ ST m W r' = fll m
  | 0, r => by
    show XM m W r % 16 = fll m ↔ _
    rw [XM_mod h.1]
    constructor
    · intro z; exact ⟨r, rfl, z⟩
    · rintro ⟨r', rfl, z⟩; exact z
  | d + 1, r => by
    constructor
    · rintro ⟨c, hc, z⟩
      rw [← XM_bh h r c hc] at z
      obtain ⟨r', y1, y2⟩ := (RD_EX h d (bh r c)).mp z
      exact ⟨r', ⟨c, hc, y1⟩, y2⟩
    · rintro ⟨r', ⟨c, hc, y1⟩, y2⟩
      refine ⟨c, hc, ?_⟩
      rw [← XM_bh h r c hc]
      exact (RD_EX h d (bh r c)).mpr ⟨r', y1, y2⟩
theorem EX_lt : ∀ (d r1 r2 a b : Nat), r1 < r2 → EX d r1 a → EX d r2 b → a < b
  | 0, r1, r2, a, b, h, h1, h2 => by
    have e1 : a = r1 := h1
    have e2 : b = r2 := h2
    omega
  | d + 1, r1, r2, a, b, h, ⟨c1, hc1, h1⟩, ⟨c2, hc2, h2⟩ => EX_lt d (bh r1 c1) (bh r2 c2) a b (by unfold bh; omega) h1 h2
theorem EX_LN : ∀ (d r r' t : Nat), LNr t r → EX d r r' → LNr (t + d) r'
  | 0, r, r', t, h, e => by
    have : r' = r := e
    rw [this]; exact h
  | d + 1, r, r', t, h, ⟨c, hc, e⟩ => by
    have := EX_LN d (bh r c) r' (t + 1) ((LN_bh hc).mpr h) e
    rw [show t + (d + 1) = t + 1 + d by omega]; exact this
theorem LN_lt {t t' r r' : Nat} (h : LNr t r) (h' : LNr t' r') (ht : t < t') : r < r' := by
  have := lo_mono ht
  unfold LNr at h h'
  omega
theorem cg_LN {g : Nat → Int32} {b : Nat} : ∀ n, lok g b n → LNr n (cg g b n)
  | 0, _ => LN_0.mpr rfl
  | n + 1, h => by
    have c := (lok_c h (show n < n + 1 by omega)).1
    simp only [cg]
    exact (LN_bh c).mpr (cg_LN n (fun i hi => h i (by omega)))
theorem cg_EX {g : Nat → Int32} {D : Nat} (h : lok g 0 D) : ∀ (d q : Nat), q + d = D → EX d (cg g 0 q) (cg g 0 D)
  | 0, q, e => by
    show cg g 0 D = cg g 0 q
    rw [show q = D by omega]
  | d + 1, q, e => by
    have c := (lok_c h (show q < D by omega)).1
    exact ⟨_, c, cg_EX h d (q + 1) (by omega)⟩
/-- how far the beginnings of the first shortest row are -/
theorem far_cg {m : Nat} {W : tW} (h : okL m W) {g : Nat → Int32} {D : Nat} (hl : lok g 0 D) (hs : ST m W (cg g 0 D) = fll m) (hmin : ∀ r', ST m W r' = fll m → cg g 0 D ≤ r') {q : Nat} (hq : q ≤ D) : dst m W (XM m W (cg g 0 q)) (D - q) := by
  refine ⟨(RD_EX h _ _).mpr ⟨_, cg_EX hl (D - q) q (by omega), hs⟩, fun d' hd z => ?_⟩
  obtain ⟨r', y1, y2⟩ := (RD_EX h _ _).mp z
  have l1 := EX_LN d' _ r' q (cg_LN q (fun i hi => hl i (by omega))) y1
  have l2 := cg_LN D hl
  have := LN_lt l1 l2 (by omega)
  have := hmin r' y2
  omega
theorem far_less {m : Nat} {W : tW} (h : okL m W) {g : Nat → Int32} {D : Nat} (hl : lok g 0 D) (hmin : ∀ r', ST m W r' = fll m → cg g 0 D ≤ r') {q c : Nat} (hq : q < D) (hc : c < (g (0 + q)).toNatClampNeg) : ¬ dst m W (TM m W (XM m W (cg g 0 q)) c) (D - q - 1) := by
  have cl := (lok_c hl hq).1
  intro z
  rw [← XM_bh h _ c (by omega)] at z
  obtain ⟨r', y1, y2⟩ := (RD_EX h _ _).mp z.1
  have ex := cg_EX hl (D - q - 1) (q + 1) (by omega)
  have := EX_lt (D - q - 1) (bh (cg g 0 q) c) (cg g 0 (q + 1)) r' (cg g 0 D) (by simp only [cg, bh]; omega) y1 ex
  have := hmin r' y2
  omega
section AL
variable {F : Nat} {B : tB2} {V : tA2} {q : tQ}
theorem x8_all_in {m : Nat} {W : tW} (h : okL m W) {A : tA2} (hN : netM A m W 40) (hZ : FZ m W A) {g : Nat → Int32} {D : Nat} (hD : D ≤ 16) (hl : lok g 0 D) (hs : ST m W (cg g 0 D) = fll m) (hmin : ∀ r', ST m W r' = fll m → cg g 0 D ≤ r') {p : Nat} (hp : p < D) {l1 : Int32} (k59 : Int32 → Int32 → Int32 → Option (Int32 × pH)) : ∀ (j u c : Nat), c + j = (g (0 + p)).toNatClampNeg → j < u → x_X8_all_67 F k59 (mk A B V q) 68 l1 (nI (XM m W (cg g 0 p))) (nI p) u (nI c) = k59 (nI (XM m W (cg g 0 (p + 1)))) (g (0 + p)) (nI (p + 1)) := by
  have hm := h.1
  obtain ⟨cl, ce⟩ := lok_c hl hp
  have xl := XM_lt hm (W := W) (cg g 0 p)
  have ixl : inb (nI (XM m W (cg g 0 p))) 640 = true := inb_nI xl (by omega)
  have fis : A 82 (XM m W (cg g 0 p)) = nI (D - p) := (hZ _ xl _ (by omega)).mpr (far_cg h hl hs hmin (by omega))
  intro j
  induction j with
  | zero =>
    intro u c hc hu
    obtain ⟨u, rfl⟩ : ∃ z, u = z + 1 := ⟨u - 1, by omega⟩
    have tl := TM_lt hm (W := W) (XM m W (cg g 0 p)) c
    have et : TM m W (XM m W (cg g 0 p)) c = XM m W (cg g 0 (p + 1)) := by
      rw [← XM_bh h _ c (by omega)]
      simp only [cg]
      rw [← hc, Nat.add_zero]
    have fn : A 82 (TM m W (XM m W (cg g 0 p)) c) = nI (D - p - 1) := by
      refine (hZ _ tl _ (by omega)).mpr ?_
      rw [et]
      exact far_cg h hl hs hmin (by omega)
    show s_X8_all_67 _ _ _ _ _ _ _ _ _ = _
    unfold s_X8_all_67
    rw [r_68_20, bs, x8_behindLetter hm hN xl (by omega), bs, l_82 (inb_nI tl (by omega)), bs, tn (by omega), fn, bs, l_82 ixl, bs, tn (by omega), fis, nI_sub1 (by omega), if_pos rfl, bs, et, nI_1, ce, ← hc, Nat.add_zero]
    rfl
  | succ j ih =>
    intro u c hc hu
    obtain ⟨u, rfl⟩ : ∃ z, u = z + 1 := ⟨u - 1, by omega⟩
    have tl := TM_lt hm (W := W) (XM m W (cg g 0 p)) c
    have fn : ¬ A 82 (TM m W (XM m W (cg g 0 p)) c) = nI (D - p - 1) := fun z => far_less h hl hmin hp (by omega) ((hZ _ tl _ (by omega)).mp z)
    show s_X8_all_67 _ _ _ _ _ _ _ _ _ = _
    unfold s_X8_all_67
    rw [r_68_20, bs, x8_behindLetter hm hN xl (by omega), bs, l_82 (inb_nI tl (by omega)), bs, tn (by omega), bs, l_82 ixl, bs, tn (by omega), fis, nI_sub1 (by omega), if_neg fn, nI_1]
    exact ih u (c + 1) (by omega) (by omega)
theorem x8_all_out {m : Nat} {W : tW} (h : okL m W) {A : tA2} (hN : netM A m W 40) (hZ : FZ m W A) {g : Nat → Int32} {D : Nat} (hD : D ≤ 16) (hl : lok g 0 D) (hs : ST m W (cg g 0 D) = fll m) (hmin : ∀ r', ST m W r' = fll m → cg g 0 D ≤ r') {k : Nat} (hk : k < D) (hF : 10 ≤ F) : ∀ (d u p : Nat) (l3 : Int32), p + d = k → d + 1 < u → x_X8_all_59 F (mk A B V q) 68 (nI k) u (nI (XM m W (cg g 0 p))) l3 (nI p) = some (g k, mk A B V q) := by
  intro d
  induction d with
  | zero =>
    intro u p l3 hp hu
    obtain ⟨u, rfl⟩ : ∃ z, u = z + 2 := ⟨u - 2, by omega⟩
    obtain ⟨cl, ce⟩ := lok_c hl (show p < D by omega)
    have := x8_all_in (F := F) (B := B) (V := V) (q := q) (l1 := nI k) h hN hZ hD hl hs hmin (show p < D by omega) (x_X8_all_59 F (mk A B V q) 68 (nI k) (u + 1)) (g (0 + p)).toNatClampNeg F 0 (by omega) (by omega)
    show s_X8_all_59 _ _ _ _ _ _ _ _ = _
    unfold s_X8_all_59
    rw [nI_0] at this
    rw [if_neg (fun z => by have := (nI_ltI (by omega) (by omega)).mp z; omega), this]
    show s_X8_all_59 _ _ _ _ _ _ _ _ = _
    unfold s_X8_all_59
    rw [if_pos ((nI_ltI (by omega) (by omega)).mpr (by omega)), Nat.zero_add, show p = k by omega]
  | succ d ih =>
    intro u p l3 hp hu
    obtain ⟨u, rfl⟩ : ∃ z, u = z + 1 := ⟨u - 1, by omega⟩
    obtain ⟨cl, ce⟩ := lok_c hl (show p < D by omega)
    have := x8_all_in (F := F) (B := B) (V := V) (q := q) (l1 := nI k) h hN hZ hD hl hs hmin (show p < D by omega) (x_X8_all_59 F (mk A B V q) 68 (nI k) u) (g (0 + p)).toNatClampNeg F 0 (by omega) (by omega)
    show s_X8_all_59 _ _ _ _ _ _ _ _ = _
    unfold s_X8_all_59
    rw [nI_0] at this
    rw [if_neg (fun z => by have := (nI_ltI (by omega) (by omega)).mp z; omega), this]
    exact ih u (p + 1) _ (by omega) (by omega)
theorem withinM {h : pH} {a : Int32} : x_X8_within F h a (-1) 15 = some (cI (decide (-1 ≤ a.toInt ∧ a.toInt ≤ 15))) := by
  unfold x_X8_within
  have t1 : (-1 : Int32).toInt = -1 := rfl
  have t2 : (15 : Int32).toInt = 15 := rfl
  by_cases h1 : a < -1
  · rw [if_pos h1]
    rw [Int32.lt_iff_toInt_lt, t1] at h1
    rw [decide_eq_false (by omega)]; rfl
  · rw [if_neg h1]
    rw [Int32.lt_iff_toInt_lt, t1] at h1
    by_cases h2 : 15 < a
    · rw [if_pos h2]
      rw [Int32.lt_iff_toInt_lt, t2] at h2
      rw [decide_eq_false (by omega)]; rfl
    · rw [if_neg h2]
      rw [Int32.lt_iff_toInt_lt, t2] at h2
      rw [decide_eq_true (by omega)]; rfl
theorem step_all (hF : 700 ≤ F) : st_all (InvH NOp SSp) F := by
  intro h a1 hI
  obtain ⟨A, B, V, q, m, kd, ln, lt, rfl, hI⟩ := hI
  obtain ⟨hm, v1, v2, hX, hM, hL⟩ := id hI.2.1
  have self : InvH NOp SSp (mk A B V q) := ⟨A, B, V, q, m, kd, ln, lt, rfl, hI⟩
  have t1 : (-1 : Int32).toInt = -1 := rfl
  have t16 : (16 : Int32).toInt = 16 := rfl
  have nt : ¬ cI true = 0 := by decide
  by_cases hr : -1 ≤ a1.toInt ∧ a1.toInt ≤ 15
  · have c1 : ¬ a1 < -1 := by rw [Int32.lt_iff_toInt_lt, t1]; omega
    have c2 : a1 < 16 := by rw [Int32.lt_iff_toInt_lt, t16]; omega
    by_cases h0 : m = 0
    · refine ⟨(-3, mk A B V q), (-3, mk A B V q), ?_, ?_, rfl, self⟩
      · unfold x_X7_all
        rw [c_0, bs, if_neg c1, if_pos c2, g_0_3, bs, v1, h0, if_pos nI_0]
      · unfold x_X8_all
        rw [c_68, bs, withinM, bs, decide_eq_true hr, if_neg nt, g_68_5, bs, v2, h0, if_pos nI_0]
    · obtain ⟨ok, A1, B1, V1, e1, I1, N1, v14⟩ := x7_renewNet (F := F) (by omega) hI hF
      obtain ⟨n0, n1, n2, n3, n4, n5⟩ := N1
      obtain ⟨-, -, y2, -, yM, -⟩ := id I1.2.1
      obtain ⟨A2, f1, f2, f3, f4⟩ := x8_findFar (F := F) (A := A1) (B := B1) (V := V1) (q := q) ok y2 yM hF
      obtain ⟨many, rw, wp, D, p1, p2, p3, p4, p5, p6, p7, p8, p9, p10⟩ := n3
      rw [← p8] at p9 p10
      have I2 : InvW NOp SSp A2 B1 V1 q m kd ln lt := inv_scr NO_f I1 (fun p hp => by unfold scrA at hp; exact f2 p (by omega)) (fun _ _ _ => rfl) (fun _ _ _ => rfl)
      have x0 : XM m (kd, ln, lt) (cg (A1 38) 0 0) = 0 := by show XM m (kd, ln, lt) 0 = 0; unfold XM; rw [sx_0, ST_0]
      have far0 : A2 82 0 = nI D := by
        have := (f4 _ (XM_lt hm (cg (A1 38) 0 0)) _ (by omega)).mpr (far_cg ok p7 p9 p10 (Nat.zero_le D))
        rw [x0, Nat.sub_zero] at this
        exact this
      have l0 : aldI 0 (mk A2 B1 V1 q) 82 0 = some (nI D) := by
        rw [l_82 (show inb 0 640 = true by decide)]
        exact congrArg some far0
      have top7 : x_X7_all F (mk A B V q) 0 a1 = if 0 ≤ a1 then (if nI D ≤ a1 then some (-9, mk A1 B1 V1 q) else (aldI 0 (mk A1 B1 V1 q) 38 a1).bind fun v7 => some (v7, mk A1 B1 V1 q)) else some (nI D, mk A1 B1 V1 q) := by
        unfold x_X7_all
        simp only [c_0, bs, if_neg c1, if_pos c2, g_0_3, v1, if_neg (nz0 h0 (show m < 2 ^ 31 by omega)), e1, r_0_12, g_33_7, p6, r_33_4]
      have top8 : x_X8_all F (mk A1 B1 V1 q) 68 a1 = if a1 = -1 then some (nI D, mk A2 B1 V1 q) else if a1 < nI D then x_X8_all_59 F (mk A2 B1 V1 q) 68 a1 F 0 0 0 else some (-9, mk A2 B1 V1 q) := by
        unfold x_X8_all
        simp only [c_68, bs, withinM, decide_eq_true hr, if_neg nt, g_68_5, y2, if_neg (nz0 h0 (show m < 2 ^ 31 by omega)), f1, r_68_20, l0]
      rw [top7]
      by_cases hneg : 0 ≤ a1
      · have h0' : 0 ≤ a1.toInt := by have := Int32.le_iff_toInt_le.mp hneg; rwa [i0] at this
        obtain ⟨k, hk, rfl⟩ := inb_ex (a := a1) (n := 16) (inb_iff.mpr (by omega)) (by omega)
        have ne1 : ¬ nI k = -1 := fun z => by
          have := congrArg Int32.toInt z
          rw [nI_toInt (by omega), t1] at this
          omega
        rw [if_pos hneg]
        rw [if_neg ne1] at top8
        by_cases hkD : k < D
        · rw [if_neg (fun z => by have := (nI_leI (by omega) (by omega)).mp z; omega), l_38 (inb_nI (by omega) (by omega)), bs, tn (by omega)]
          rw [if_pos ((nI_ltI (by omega) (by omega)).mpr hkD)] at top8
          have ao := x8_all_out (F := F) (B := B1) (V := V1) (q := q) ok f3 f4 p5 p7 p9 p10 hkD (by omega) k F 0 0 (by omega) (by omega)
          rw [x0] at ao
          rw [show (nI 0 : Int32) = 0 from rfl] at ao
          rw [ao] at top8
          exact ⟨(_, _), (_, _), rfl, top8, rfl, A2, B1, V1, q, m, kd, ln, lt, rfl, I2⟩
        · rw [if_pos ((nI_leI (by omega) (by omega)).mpr (by omega))]
          rw [if_neg (fun z => hkD ((nI_ltI (by omega) (by omega)).mp z))] at top8
          exact ⟨(_, _), (_, _), rfl, top8, rfl, A2, B1, V1, q, m, kd, ln, lt, rfl, I2⟩
      · rw [if_neg hneg]
        have em : a1 = -1 := by
          apply Int32.toInt_inj.mp
          rw [t1]
          rw [Int32.le_iff_toInt_le, i0] at hneg
          omega
        rw [if_pos em] at top8
        exact ⟨(_, _), (_, _), rfl, top8, rfl, A2, B1, V1, q, m, kd, ln, lt, rfl, I2⟩
  · refine ⟨(-2, mk A B V q), (-2, mk A B V q), ?_, ?_, rfl, self⟩
    · unfold x_X7_all
      rw [c_0, bs]
      by_cases c1 : a1 < -1
      · rw [if_pos c1]
      · rw [if_neg c1, if_neg]
        rw [Int32.lt_iff_toInt_lt, t1] at c1
        rw [Int32.lt_iff_toInt_lt, t16]
        omega
    · unfold x_X8_all
      rw [c_68, bs, withinM, bs, decide_eq_false hr, if_pos cI_f]
end AL
