/-! step: reading; taking letters of a sheet -/
theorem inb_lo {a : Int32} {c : Nat} (h : inb a (c + 1) = true) (hc : c < 2 ^ 30) : ¬ a < 0 ∧ ¬ nI c < a := by
  obtain ⟨z1, z2⟩ := inb_iff.mp h
  constructor
  · rw [i32lt0]; omega
  · rw [Int32.lt_iff_toInt_lt, nI_toInt (by omega)]; omega
theorem inb_hi {a : Int32} {c : Nat} (h : inb a (c + 1) = false) (hc : c < 2 ^ 30) : a < 0 ∨ nI c < a := by
  rcases inb_f h with z | z
  · exact Or.inl (i32lt0.mpr z)
  · right
    rw [Int32.lt_iff_toInt_lt, nI_toInt (by omega)]; omega
theorem ifR {α : Type} {a : Int32} {c : Nat} (hc : c < 2 ^ 30) (X Y : α) : (if a < 0 then X else if nI c < a then X else Y) = if inb a (c + 1) = true then Y else X := by
  cases h : inb a (c + 1)
  · rcases inb_hi h hc with z | z
    · rw [if_pos z]; rfl
    · by_cases z2 : a < 0
      · rw [if_pos z2]; rfl
      · rw [if_neg z2, if_pos z]; rfl
  · obtain ⟨z1, z2⟩ := inb_lo h hc
    rw [if_neg z1, if_neg z2]; rfl
def fcN (t : Bool) (la l : Nat) (lane i n : Int32) : Nat := if t = false then 1 else if nI la = lane then (if 0 ≤ n then (if hcB i n l = true then 0 else 3) else 4) else 2
theorem fcN_le {t : Bool} {la l : Nat} {lane i n : Int32} : fcN t la l lane i n ≤ 4 := by
  unfold fcN
  repeat' split
  all_goals omega
theorem fcN_0 {t : Bool} {la l : Nat} {lane i n : Int32} (hf0 : fcN t la l lane i n = 0) : hcB i n l = true := by
  unfold fcN at hf0
  by_cases z1 : t = false
  · rw [if_pos z1] at hf0; omega
  · rw [if_neg z1] at hf0
    by_cases z2 : nI la = lane
    · rw [if_pos z2] at hf0
      by_cases z3 : 0 ≤ n
      · rw [if_pos z3] at hf0
        by_cases z4 : hcB i n l = true
        · exact z4
        · rw [if_neg z4] at hf0; omega
      · rw [if_neg z3] at hf0; omega
    · rw [if_neg z2] at hf0; omega
def shD (A V : tA2) (k : Nat) (t : Bool) (la l : Nat) : Prop := la < 3 ∧ l ≤ 60 ∧ V (44 + 2 * k) 1 = cI t ∧ (t = true → V (44 + 2 * k) 2 = nI la) ∧ V (44 + 2 * k) 3 = nI l ∧ A 70 k = nI l ∧ (t = false → A 69 k = -9) ∧ (t = true → A 69 k = nI la) ∧ ∀ i, i < 60 → A 71 (60 * k + i) = A (45 + 2 * k) i
theorem SI_D {A V : tA2} (h : SI A V) {k : Nat} (hk : k < 4) : ∃ t la l, shD A V k t la l := by
  obtain ⟨⟨l, l1, l2, l3⟩, h2, h3⟩ := h k hk
  rcases h2 with ⟨z1, z2⟩ | ⟨z1, la, z2, z3, z4⟩
  · exact ⟨false, 0, l, by omega, l1, z1, (fun z => by cases z), l2, l3, fun _ => z2, (fun z => by cases z), h3⟩
  · exact ⟨true, la, l, z2, l1, z1, fun _ => z3, l2, l3, (fun z => by cases z), fun _ => z4, h3⟩
theorem shD_c {A A' V V' : tA2} {k : Nat} {t : Bool} {la l : Nat} (h : shD A V k t la l) (h1 : V' (44 + 2 * k) = V (44 + 2 * k)) (h2 : A' 70 = A 70) (h3 : A' 69 = A 69) (h4 : A' 71 = A 71) (h5 : A' (45 + 2 * k) = A (45 + 2 * k)) : shD A' V' k t la l := by
  unfold shD
  rw [h1, h2, h3, h4, h5]
  exact h
section CE
variable {B : tB2} {q : tQ} {F : Nat}
theorem x4_faultOfCells {A V : tA2} {k : Nat} {t : Bool} {la l : Nat} (hk : k < 4) (h : shD A V k t la l) {lane i n : Int32} : x_X4_faultOfCells F (mk A B V q) (44 + 2 * k) lane i n = some (nI (fcN t la l lane i n)) := by
  obtain ⟨h1, h2, h3, h4, h5, h6, h7, h8, h9⟩ := h
  have hs := isS_k hk
  unfold x_X4_faultOfCells x_X4_faultOfLane fcN
  rw [cS hs, bs, bs, gS1 hs, bs, h3]
  cases t
  · rw [if_pos cI_f, bs]; rfl
  · rw [if_neg (show ¬ cI true = 0 by decide), gS2 hs, bs, h4 rfl, if_neg (show ¬ true = false by decide)]
    by_cases e : nI la = lane
    · rw [if_pos e, if_pos e, bs, if_pos rfl]
      by_cases e2 : 0 ≤ n
      · rw [if_pos e2, if_pos e2, x4_hasCells hs h5 (by omega), bs]
        cases hcB i n l
        · rfl
        · rfl
      · rw [if_neg e2, if_neg e2]; rfl
    · rw [if_neg e, if_neg e, bs]; rfl
theorem la_ne {la : Nat} (h : la < 3) : ¬ nI la = -9 := by
  rcases (show la = 0 ∨ la = 1 ∨ la = 2 by omega) with rfl | rfl | rfl <;> decide
theorem x8_against {A V : tA2} {k : Nat} {t : Bool} {la l : Nat} (hk : k < 4) (h : shD A V k t la l) {lane i n : Int32} : x_X8_against F (mk A B V q) 68 (nI k) lane i n = some (nI (fcN t la l lane i n)) := by
  obtain ⟨h1, h2, h3, h4, h5, h6, h7, h8, h9⟩ := h
  have hi : inb (nI k) 4 = true := inb_nI (by omega) (by omega)
  have tk : (nI k).toNatClampNeg = k := tn (by omega)
  unfold x_X8_against x_X8_against_23 x_X8_against_70 fcN
  simp only [c_68, bs, r_68_2, l_69 hi, tk, r_68_3, l_70 hi, h6]
  cases t
  · rw [h7 rfl, if_pos rfl, if_pos rfl]; rfl
  · rw [h8 rfl, if_neg (la_ne h1), if_neg (la_ne h1), if_neg (show ¬ true = false by decide)]
    by_cases e : nI la = lane
    · rw [if_pos e, if_pos e]
      by_cases e2 : 0 ≤ n
      · rw [if_pos e2, if_pos e2]
        have e2' : 0 ≤ n.toInt := by have := Int32.le_iff_toInt_le.mp e2; rwa [i0] at this
        by_cases a1 : i < 0
        · rw [if_pos a1, show hcB i n l = false by rw [i32lt0] at a1; simp only [hcB, decide_eq_false_iff_not]; omega]; rfl
        · rw [if_neg a1]
          rw [i32lt0] at a1
          by_cases a2 : nI l < i
          · rw [if_pos a2, show hcB i n l = false by rw [nIlt (by omega)] at a2; simp only [hcB, decide_eq_false_iff_not]; omega]; rfl
          · rw [if_neg a2]
            rw [nIlt (by omega)] at a2
            have es := subI (l := l) (by omega) (a := i) (by omega) (by omega)
            by_cases a3 : n ≤ nI l - i
            · rw [if_pos a3, show hcB i n l = true by rw [Int32.le_iff_toInt_le, es] at a3; simp only [hcB, decide_eq_true_eq]; omega]; rfl
            · rw [if_neg a3, show hcB i n l = false by rw [Int32.le_iff_toInt_le, es] at a3; simp only [hcB, decide_eq_false_iff_not]; omega]; rfl
      · rw [if_neg e2, if_neg e2]; rfl
    · rw [if_neg e, if_neg e]; rfl
theorem x4_lt_loop {V : tA2} {k a b : Nat} (hk : k < 4) (hab : a + b ≤ 60) (hb : b ≤ 40) : ∀ (d u j : Nat) (A : tA2), j + d = b → d < u → (∀ i, i < j → A 22 i = A (45 + 2 * k) (a + i)) → ∃ g, x_X4_lettersTo_20 F (44 + 2 * k) 22 (nI a) (nI b) u (mk A B V q) (nI j) = some (cI (alF (fun i => inb (A (45 + 2 * k) (a + i)) 3) j d), mk (va_up A 22 g) B V q) ∧ (alF (fun i => inb (A (45 + 2 * k) (a + i)) 3) j d = true → ∀ i, i < b → g i = A (45 + 2 * k) (a + i)) := by
  have hs := isS_k hk
  have e45 : 44 + 2 * k + 1 = 45 + 2 * k := by omega
  intro d
  induction d with
  | zero =>
    intro u j A hj hu hall
    obtain ⟨u, rfl⟩ : ∃ z, u = z + 1 := ⟨u - 1, by omega⟩
    refine ⟨A 22, ?_, fun _ i hi => hall i (by omega)⟩
    rw [up_same]
    show s_X4_lettersTo_20 _ _ _ _ _ _ _ _ = _
    unfold s_X4_lettersTo_20
    rw [if_pos ((nI_leI (by omega) (by omega)).mpr (by omega))]
    rfl
  | succ d ih =>
    intro u j A hj hu hall
    obtain ⟨u, rfl⟩ : ∃ z, u = z + 1 := ⟨u - 1, by omega⟩
    have hi60 : inb (nI (a + j)) 60 = true := inb_nI (by omega) (by omega)
    have top : x_X4_lettersTo_20 F (44 + 2 * k) 22 (nI a) (nI b) (u + 1) (mk A B V q) (nI j) = if inb (A (45 + 2 * k) (a + j)) 3 = true then x_X4_lettersTo_20 F (44 + 2 * k) 22 (nI a) (nI b) u (mk (u2 A 22 j (A (45 + 2 * k) (a + j))) B V q) (nI (j + 1)) else some (0, mk A B V q) := by
      show s_X4_lettersTo_20 _ _ _ _ _ _ _ _ = _
      unfold s_X4_lettersTo_20
      rw [if_neg (fun z => by have := (nI_leI (by omega) (by omega)).mp z; omega), rS hs, bs, nI_add, lS hs hi60, bs, show (3 : Int32) = nI 3 from rfl, x7_isBelow (by omega), bs, bs, lS hs hi60, bs, s_22 (inb_nI (by omega) (by omega)), bs, tn (by omega), tn (by omega), nI_1, e45]
      cases inb (A (45 + 2 * k) (a + j)) 3
      · rfl
      · rfl
    rw [top]
    simp only [alF]
    cases hb3 : inb (A (45 + 2 * k) (a + j)) 3
    · refine ⟨A 22, ?_, fun z => by simp at z⟩
      rw [up_same]
      rfl
    · have eA : u2 A 22 j (A (45 + 2 * k) (a + j)) (45 + 2 * k) = A (45 + 2 * k) := u2_pp _ _ (by omega)
      obtain ⟨g, h1, h2⟩ := ih u (j + 1) (u2 A 22 j (A (45 + 2 * k) (a + j))) (by omega) (by omega) (fun i hi => by
        rw [eA]
        by_cases e : i = j
        · subst e; rw [u2_s]
        · rw [u2_k _ _ e]; exact hall i (by omega))
      rw [eA, u2_up, up_up, ← u2_up] at h1
      rw [eA] at h2
      refine ⟨g, ?_, fun z => h2 (by simpa using z)⟩
      rw [if_pos rfl]
      simpa using h1
theorem x4_lettersTo {A V : tA2} {k a b l : Nat} (hk : k < 4) (hV : V (44 + 2 * k) 3 = nI l) (hl : l ≤ 60) (hab : a + b ≤ l) (hb : b ≤ 40) (hF : 70 ≤ F) : ∃ g, x_X4_lettersTo F (mk A B V q) (44 + 2 * k) 22 (nI a) (nI b) = some (cI (alF (fun i => inb (A (45 + 2 * k) (a + i)) 3) 0 b), mk (va_up A 22 g) B V q) ∧ (alF (fun i => inb (A (45 + 2 * k) (a + i)) 3) 0 b = true → ∀ i, i < b → g i = A (45 + 2 * k) (a + i)) := by
  have hs := isS_k hk
  obtain ⟨g, h1, h2⟩ := x4_lt_loop (B := B) (V := V) (q := q) (F := F) hk (show a + b ≤ 60 by omega) hb b F 0 A (by omega) (by omega) (fun i hi => absurd hi (by omega))
  refine ⟨g, ?_, h2⟩
  unfold x_X4_lettersTo
  rw [cS hs, bs, x4_hasCells hs hV (by omega), bs, hcB_nI hab (by omega), if_neg (by decide), mk_alen (p := 22) (n := 40) rfl, bs, if_pos ((nI_leI (by omega) (by omega)).mpr hb)]
  exact h1
theorem x8_al_loop {A V : tA2} {f b : Nat} (hf : f + b ≤ 240) : ∀ (d u j : Nat), j + d = b → d < u → x_X8_areLetters_2 F (mk A B V q) 68 (nI f) (nI b) u (nI j) = some (cI (alF (fun i => inb (A 71 (f + i)) 3) j d)) := by
  intro d
  induction d with
  | zero =>
    intro u j hj hu
    obtain ⟨u, rfl⟩ : ∃ z, u = z + 1 := ⟨u - 1, by omega⟩
    show s_X8_areLetters_2 _ _ _ _ _ _ _ = _
    unfold s_X8_areLetters_2
    rw [if_pos ((nI_leI (by omega) (by omega)).mpr (by omega))]
    rfl
  | succ d ih =>
    intro u j hj hu
    obtain ⟨u, rfl⟩ : ∃ z, u = z + 1 := ⟨u - 1, by omega⟩
    show s_X8_areLetters_2 _ _ _ _ _ _ _ = _
    unfold s_X8_areLetters_2
    rw [if_neg (fun z => by have := (nI_leI (by omega) (by omega)).mp z; omega), r_68_4, bs, nI_add, l_71 (inb_nI (by omega) (by omega)), bs, tn (by omega), x8_within (n := 3) rfl, bs, nI_1, ih u (j + 1) (by omega) (by omega)]
    simp only [alF]
    cases inb (A 71 (f + j)) 3
    · rfl
    · rfl
theorem x8_areLetters {A V : tA2} {f b : Nat} (hf : f + b ≤ 240) (hF : 250 ≤ F) : x_X8_areLetters F (mk A B V q) 68 (nI f) (nI b) = some (cI (alF (fun i => inb (A 71 (f + i)) 3) 0 b)) := by
  unfold x_X8_areLetters
  rw [c_68, bs]
  exact x8_al_loop hf b F 0 (by omega) (by omega)
theorem x8_rd_loop {A V : tA2} {r f b : Nat} (hr : r < 8) (hb : b ≤ 8) (hf : f + b ≤ 240) (hV : V 68 25 = nI r) : ∀ (d u j : Nat), j + d = b → d < u → x_X8_reading_147 F 68 (nI b) (nI f) u (mk (va_up A 90 (va_cpy (A 71) (A 90) f (8 * r) j)) B V q) (nI j) = some (nI r, mk (va_up A 90 (va_cpy (A 71) (A 90) f (8 * r) b)) B (u2 V 68 25 (nI (r + 1))) q) := by
  intro d
  induction d with
  | zero =>
    intro u j hj hu
    obtain ⟨u, rfl⟩ : ∃ z, u = z + 1 := ⟨u - 1, by omega⟩
    show s_X8_reading_147 _ _ _ _ _ _ _ = _
    unfold s_X8_reading_147
    rw [if_pos ((nI_leI (by omega) (by omega)).mpr (by omega)), g_68_25, bs, hV, nI_1, w_68_25, bs, g_68_25, bs, u2_s, nI_pred, show j = b by omega]
  | succ d ih =>
    intro u j hj hu
    obtain ⟨u, rfl⟩ : ∃ z, u = z + 1 := ⟨u - 1, by omega⟩
    show s_X8_reading_147 _ _ _ _ _ _ _ = _
    unfold s_X8_reading_147
    rw [if_neg (fun z => by have := (nI_leI (by omega) (by omega)).mp z; omega), r_68_29, bs, g_68_25, bs, hV, r_68_4, bs, nI_add, l_71 (inb_nI (by omega) (by omega)), bs, n8, nI_add, s_90 (inb_nI (by omega) (by omega)), bs, tn (by omega), tn (by omega), nI_1, up_ne _ _ (show 71 ≠ 90 by omega)]
    have e : u2 (va_up A 90 (va_cpy (A 71) (A 90) f (8 * r) j)) 90 (8 * r + j) (A 71 (f + j)) = va_up A 90 (va_cpy (A 71) (A 90) f (8 * r) (j + 1)) := by
      unfold u2
      rw [up_up, up_at, cpy_succ]
    rw [e]
    exact ih u (j + 1) (by omega) (by omega)
end CE
section ST11
variable {NO : tNO} {SS : (Nat → Int32) → Prop} {F : Nat}
theorem inv_rd (hNO : NOf NO) {A A' : tA2} {B : tB2} {V V' : tA2} {q : tQ} {m : Nat} {kd ln : Nat → Nat} {lt : Nat → Nat → Int32} (hI : InvW NO SS A B V q m kd ln lt) (hA : ∀ p, p ≠ 22 → ¬ (52 ≤ p ∧ p ≤ 67) → ¬ (87 ≤ p ∧ p ≤ 90) → A' p = A p) (hV : ∀ p k, ¬ (52 ≤ p ∧ p ≤ 67) → ¬ (p = 0 ∧ (k = 8 ∨ k = 16)) → ¬ (p = 68 ∧ (k = 0 ∨ k = 25)) → V' p k = V p k) (hf : V' 0 16 = V' 68 0) (hR' : RI A' V' m) : InvW NO SS A' B V' q m kd ln lt := by
  obtain ⟨hq, hW, hS, hZ, hR, hT, hSS, hN⟩ := hI
  have vv : ∀ p, ¬ (52 ≤ p ∧ p ≤ 67) → p ≠ 0 → p ≠ 68 → V' p = V p := fun p h1 h2 h3 => by funext k; exact hV p k h1 (by omega) (by omega)
  refine ⟨hq, WI_c hW hq (fun p h1 h2 => ⟨hA p (by omega) (by omega) (by omega), vv p (by omega) (by omega) (by omega)⟩) (hA _ (by omega) (by omega) (by omega)) (hA _ (by omega) (by omega) (by omega)) (hA _ (by omega) (by omega) (by omega)) (hV _ _ (by omega) (by omega) (by omega)) (hV _ _ (by omega) (by omega) (by omega)), SI_c hS (fun p h1 h2 => ⟨hA p (by omega) (by omega) (by omega), vv p (by omega) (by omega) (by omega)⟩) (hA _ (by omega) (by omega) (by omega)) (hA _ (by omega) (by omega) (by omega)) (hA _ (by omega) (by omega) (by omega)), ZI_c hZ (hA _ (by omega) (by omega) (by omega)) (hA _ (by omega) (by omega) (by omega)) (hV _ _ (by omega) (by omega) (by omega)) (hV _ _ (by omega) (by omega) (by omega)), hR', ⟨by rw [hV 0 15 (by omega) (by omega) (by omega), hV 68 1 (by omega) (by omega) (by omega)]; exact hT.1, hf⟩, by rw [hA _ (by omega) (by omega) (by omega)]; exact hSS, ?_⟩
  rw [hV 0 14 (by omega) (by omega) (by omega)]
  rcases hN with z | ⟨z1, z2⟩
  · exact Or.inl z
  · exact Or.inr ⟨z1, hNO A A' B B V V' q m kd ln lt (fun p h1 h2 => ⟨hA p (by omega) (by omega) (by omega), rfl, vv p (by omega) (by omega) (by omega)⟩) z2⟩
theorem step_reading (hNO : NOf NO) (hF : 300 ≤ F) : st_reading (InvH NO SS) F := by
  intro h a1 a2 a3 a4 a5 a6 hI
  obtain ⟨A, B, V, q, m, kd, ln, lt, rfl, hI⟩ := hI
  have hI0 := hI
  obtain ⟨hq, hW, hS, hZ, hR, hT, hSS, hN⟩ := hI
  obtain ⟨hm, v1, v2, hX, hM, hL⟩ := id hW
  have ff := fun x => inv_fault hNO hI0 x
  have i7 : ∀ x, x_X7_isWord F (mk A B (u2 V 0 16 x) q) 0 a1 = some (cI (inb a1 m)) := fun x => x7_isWord (by rw [u2_k _ _ (by omega)]; exact v1) hm
  have i8 : ∀ A', x_X8_isWord F (mk A' B (u2 (u2 V 0 16 0) 68 0 0) q) 68 a1 = some (cI (inb a1 m)) := fun A' => x8_isWord (by rw [u2_k _ _ (by omega), u2_p _ _ (by omega)]; exact v2) hm
  have T3 : (3 : Int32) = nI 3 := rfl
  have T2 : (2 : Int32) = nI 2 := rfl
  have T8 : (8 : Int32) = nI 8 := rfl
  have b3 : ∀ {h : pH}, x_X7_isBelow F h a3 (nI 3) = some (cI (inb a3 3)) := x7_isBelow (by omega)
  have b2 : ∀ {h : pH}, x_X7_isBelow F h a6 (nI 2) = some (cI (inb a6 2)) := x7_isBelow (by omega)
  have w8 : ∀ {h : pH}, x_X8_within F h a5 0 8 = some (cI (inb a5 9)) := x8_within (n := 9) rfl
  have w1 : ∀ {h : pH}, x_X8_within F h a6 0 1 = some (cI (inb a6 2)) := x8_within (n := 2) rfl
  have nt : ¬ cI true = 0 := by decide
  have triv : ∀ r : Int32, x_X7_reading F (mk A B V q) 0 a1 a2 a3 a4 a5 a6 = some (r, mk A B (u2 V 0 16 0) q) → x_X8_reading F (mk A B (u2 V 0 16 0) q) 68 a1 a2 a3 a4 a5 a6 = some (r, mk A B (u2 (u2 V 0 16 0) 68 0 0) q) → ∃ (q1 : Int32 × pH) (q2 : Int32 × pH), x_X7_reading F (mk A B V q) 0 a1 a2 a3 a4 a5 a6 = some q1 ∧ x_X8_reading F q1.2 68 a1 a2 a3 a4 a5 a6 = some q2 ∧ q1.1 = q2.1 ∧ InvH NO SS q2.2 := fun r e1 e2 => ⟨(r, _), (r, _), e1, e2, rfl, A, B, _, q, m, kd, ln, lt, rfl, ff 0⟩
  cases hb1 : inb a1 m
  · refine triv (-1) ?_ ?_
    · unfold x_X7_reading
      rw [c_0, bs, w_0_16, bs, i7, bs, hb1, if_pos cI_f]
    · unfold x_X8_reading
      rw [c_68, bs, w_68_0, bs, i8, bs, hb1, if_pos cI_f]
  · cases hb2 : inb a2 4
    · refine triv (-1) ?_ ?_
      · unfold x_X7_reading
        rw [c_0, bs, w_0_16, bs, i7, bs, hb1, if_neg nt, x7_isSheet, bs, hb2, if_pos cI_f]
      · unfold x_X8_reading
        rw [c_68, bs, w_68_0, bs, i8, bs, hb1, if_neg nt, x8_isSheet, bs, hb2, if_pos cI_f]
    · cases hb3 : inb a3 3
      · refine triv (-2) ?_ ?_
        · unfold x_X7_reading
          rw [c_0, bs, w_0_16, bs, i7, bs, hb1, if_neg nt, x7_isSheet, bs, hb2, if_neg nt, T3, b3, bs, hb3, if_pos cI_f]
        · unfold x_X8_reading
          rw [c_68, bs, w_68_0, bs, i8, bs, hb1, if_neg nt, x8_isSheet, bs, hb2, if_neg nt, x8_isSort, bs, hb3, if_pos cI_f]
      · cases hb5 : inb a5 9
        · refine triv (-2) ?_ ?_
          · unfold x_X7_reading
            rw [c_0, bs, w_0_16, bs, i7, bs, hb1, if_neg nt, x7_isSheet, bs, hb2, if_neg nt, T3, b3, bs, hb3, if_neg nt]
            refine Eq.trans (ifR (c := 8) (by omega) _ _) ?_
            rw [hb5]; rfl
          · unfold x_X8_reading
            rw [c_68, bs, w_68_0, bs, i8, bs, hb1, if_neg nt, x8_isSheet, bs, hb2, if_neg nt, x8_isSort, bs, hb3, if_neg nt, w8, bs, hb5, if_pos cI_f]
        · obtain ⟨n5, n5'⟩ := inb_lo (c := 8) hb5 (by omega)
          rw [← T8] at n5'
          cases hb6 : inb a6 2
          · refine triv (-2) ?_ ?_
            · unfold x_X7_reading
              rw [c_0, bs, w_0_16, bs, i7, bs, hb1, if_neg nt, x7_isSheet, bs, hb2, if_neg nt, T3, b3, bs, hb3, if_neg nt, if_neg n5, if_neg n5', T2, b2, bs, hb6, if_pos cI_f]
            · unfold x_X8_reading
              rw [c_68, bs, w_68_0, bs, i8, bs, hb1, if_neg nt, x8_isSheet, bs, hb2, if_neg nt, x8_isSort, bs, hb3, if_neg nt, w8, bs, hb5, if_neg nt, w1, bs, hb6, if_pos cI_f]
          · obtain ⟨k, hk, rfl⟩ := inb_ex hb2 (by omega)
            obtain ⟨t, la, l, hD⟩ := SI_D hS hk
            have hD7 : shD A (u2 V 0 16 0) k t la l := shD_c hD (u2_pp _ _ (by omega)) rfl rfl rfl rfl
            have hD8 : ∀ g, shD (va_up A 22 g) (u2 (u2 V 0 16 0) 68 0 0) k t la l := fun g => shD_c hD (by rw [u2_pp _ _ (by omega), u2_pp _ _ (by omega)]) (up_ne _ _ (by omega)) (up_ne _ _ (by omega)) (up_ne _ _ (by omega)) (up_ne _ _ (by omega))
            by_cases hf0 : fcN t la l a3 a4 a5 = 0
            · have hc : hcB a4 a5 l = true := fcN_0 hf0
              have hl := hD.2.1
              obtain ⟨a, b, hab, rfl, rfl⟩ := hcB_ex hc (by omega)
              have hb8 : b ≤ 8 := by
                obtain ⟨z1, z2⟩ := inb_iff.mp hb5
                rw [nI_toInt (by omega)] at z2
                omega
              obtain ⟨g, L7, Lg⟩ := x4_lettersTo (B := B) (q := q) (F := F) (A := A) (V := u2 V 0 16 0) (k := k) (a := a) (b := b) (l := l) hk hD7.2.2.2.2.1 hl hab (by omega) (by omega)
              have L8 := x8_areLetters (B := B) (q := q) (F := F) (A := va_up A 22 g) (V := u2 (u2 V 0 16 0) 68 0 0) (f := 60 * k + a) (b := b) (by omega) (by omega)
              have er : alF (fun i => inb (va_up A 22 g 71 (60 * k + a + i)) 3) 0 b = alF (fun i => inb (A (45 + 2 * k) (a + i)) 3) 0 b := alF_congr b 0 (fun i _ hi => by
                rw [up_ne _ _ (show 71 ≠ 22 by omega), Nat.add_assoc, hD.2.2.2.2.2.2.2.2 (a + i) (by omega)])
              rw [er] at L8
              have I1 : InvW NO SS (va_up A 22 g) B (u2 (u2 V 0 16 0) 68 0 0) q m kd ln lt := inv_scr hNO (ff 0) (fun p hp => up_ne _ _ (fun z => hp (by unfold scrA; omega))) (fun _ _ _ => rfl) (fun _ _ _ => rfl)
              have triv2 : ∀ r : Int32, x_X7_reading F (mk A B V q) 0 a1 (nI k) a3 (nI a) (nI b) a6 = some (r, mk (va_up A 22 g) B (u2 V 0 16 0) q) → x_X8_reading F (mk (va_up A 22 g) B (u2 V 0 16 0) q) 68 a1 (nI k) a3 (nI a) (nI b) a6 = some (r, mk (va_up A 22 g) B (u2 (u2 V 0 16 0) 68 0 0) q) → ∃ (q1 : Int32 × pH) (q2 : Int32 × pH), x_X7_reading F (mk A B V q) 0 a1 (nI k) a3 (nI a) (nI b) a6 = some q1 ∧ x_X8_reading F q1.2 68 a1 (nI k) a3 (nI a) (nI b) a6 = some q2 ∧ q1.1 = q2.1 ∧ InvH NO SS q2.2 := fun r e1 e2 => ⟨(r, _), (r, _), e1, e2, rfl, _, B, _, q, m, kd, ln, lt, rfl, I1⟩
              obtain ⟨rn, hrn, y1, y2, y3⟩ := id hR
              cases hbl : alF (fun i => inb (A (45 + 2 * k) (a + i)) 3) 0 b
              · rw [hbl] at L7 L8
                refine triv2 (-2) ?_ ?_
                · unfold x_X7_reading
                  rw [c_0, bs, w_0_16, bs, i7, bs, hb1, if_neg nt, x7_isSheet, bs, hb2, if_neg nt, T3, b3, bs, hb3, if_neg nt, if_neg n5, if_neg n5', T2, b2, bs, hb6, if_neg nt, r_0_0, bs, l_sh hk, bs, x4_faultOfCells hk hD7, bs, hf0, if_pos nI_0, bs, l_sh hk, bs, r_0_6, bs, L7, bs, if_pos cI_f]
                · unfold x_X8_reading
                  rw [c_68, bs, w_68_0, bs, i8, bs, hb1, if_neg nt, x8_isSheet, bs, hb2, if_neg nt, x8_isSort, bs, hb3, if_neg nt, w8, bs, hb5, if_neg nt, w1, bs, hb6, if_neg nt, x8_against hk (hD8 g), bs, hf0, if_pos nI_0, n60, nI_add, L8, bs, if_pos cI_f]
              · rw [hbl] at L7 L8
                have gl := Lg hbl
                by_cases h8 : rn = 8
                · refine triv2 (-4) ?_ ?_
                  · unfold x_X7_reading
                    rw [c_0, bs, w_0_16, bs, i7, bs, hb1, if_neg nt, x7_isSheet, bs, hb2, if_neg nt, T3, b3, bs, hb3, if_neg nt, if_neg n5, if_neg n5', T2, b2, bs, hb6, if_neg nt, r_0_0, bs, l_sh hk, bs, x4_faultOfCells hk hD7, bs, hf0, if_pos nI_0, bs, l_sh hk, bs, r_0_6, bs, L7, bs, if_neg nt, g_0_8, bs, u2_k _ _ (by omega), y1, h8, if_neg (by decide)]
                  · unfold x_X8_reading
                    rw [c_68, bs, w_68_0, bs, i8, bs, hb1, if_neg nt, x8_isSheet, bs, hb2, if_neg nt, x8_isSort, bs, hb3, if_neg nt, w8, bs, hb5, if_neg nt, w1, bs, hb6, if_neg nt, x8_against hk (hD8 g), bs, hf0, if_pos nI_0, n60, nI_add, L8, bs, if_neg nt, g_68_25, bs, u2_k _ _ (by omega), u2_p _ _ (by omega), y2, h8, if_pos (by decide)]
                · obtain ⟨w, hw, rfl⟩ := inb_ex hb1 (by omega)
                  obtain ⟨s, hs2, rfl⟩ := inb_ex hb6 (by omega)
                  have hrn8 : rn < 8 := by omega
                  have hr := isR_k hrn8
                  have hi8 : inb (nI rn) 8 = true := inb_nI (by omega) (by omega)
                  have tr : (nI rn).toNatClampNeg = rn := tn (by omega)
                  obtain ⟨sb, hsb, hsb2⟩ : ∃ sb : Bool, nI s = cI sb ∧ (if nI s = 1 then (1 : Int32) else 0) = cI sb := by
                    rcases (show s = 0 ∨ s = 1 by omega) with rfl | rfl
                    · exact ⟨false, rfl, rfl⟩
                    · exact ⟨true, rfl, rfl⟩
                  have e53 : 52 + 2 * rn + 1 = 53 + 2 * rn := by omega
                  obtain ⟨A1, hA1⟩ : ∃ A1, A1 = va_up (va_up A 22 g) (53 + 2 * rn) (va_cpy g (A (53 + 2 * rn)) 0 0 b) := ⟨_, rfl⟩
                  obtain ⟨V1, hV1⟩ : ∃ V1, V1 = u2 (u2 (u2 (u2 (u2 V 0 16 0) (52 + 2 * rn) 1 (nI w)) (52 + 2 * rn) 2 (nI b)) (52 + 2 * rn) 3 (cI sb)) 0 8 (nI (rn + 1)) := ⟨_, rfl⟩
                  have kp : x_X7_reading_144 F (mk (va_up A 22 g) B (u2 V 0 16 0) q) 0 (cI sb) (nI b) 22 (nI w) (52 + 2 * rn) = some (nI rn, mk A1 B V1 q) := by
                    unfold x_X7_reading_144 x_X3_keep
                    rw [cR hr, bs, wR1 hr, bs, wR2 hr, bs, zR3 hr (by cases sb; exact Or.inl rfl; exact Or.inr rfl), bs, rR hr, bs]
                    rw [mk_acp (p := 22) (n := 40) (p2 := 52 + 2 * rn + 1) (n2 := 8) rfl (saR hr) (by decide) (by decide) (nI_pos (by omega)) (by rw [tn (by omega)]; show 0 + b ≤ 40; omega) (by rw [tn (by omega)]; show 0 + b ≤ 8; omega), bs, bs]
                    rw [g_0_8, bs, u2_p _ _ (by omega), u2_p _ _ (by omega), u2_p _ _ (by omega), u2_k _ _ (by omega), y1, nI_1, w_0_8, bs, g_0_8, bs, u2_s, nI_pred, hA1, hV1, e53, tn (by omega), up_at, up_ne _ _ (show 53 + 2 * rn ≠ 22 by omega)]
                    rfl
                  have eA1 : ∀ p, p ≠ 22 → p ≠ 53 + 2 * rn → A1 p = A p := fun p h1 h2 => by rw [hA1, up_ne _ _ h2, up_ne _ _ h1]
                  have eV1 : ∀ p k, p ≠ 52 + 2 * rn → ¬ (p = 0 ∧ (k = 8 ∨ k = 16)) → V1 p k = V p k := fun p k h1 h2 => by rw [hV1, u2_ne (by omega), u2_p _ _ h1, u2_p _ _ h1, u2_p _ _ h1, u2_ne (by omega)]
                  obtain ⟨A2, hA2⟩ : ∃ A2, A2 = u2 (u2 (u2 A1 87 rn (nI w)) 88 rn (nI b)) 89 rn (cI sb) := ⟨_, rfl⟩
                  have eA2 : ∀ p, p ≠ 87 → p ≠ 88 → p ≠ 89 → A2 p = A1 p := fun p h1 h2 h3 => by rw [hA2, u2_pp _ _ h3, u2_pp _ _ h2, u2_pp _ _ h1]
                  have e71 : A2 71 = A 71 := by rw [eA2 _ (by omega) (by omega) (by omega), eA1 _ (by omega) (by omega)]
                  have e90 : A2 90 = A 90 := by rw [eA2 _ (by omega) (by omega) (by omega), eA1 _ (by omega) (by omega)]
                  have l9 := x8_rd_loop (B := B) (q := q) (F := F) (A := A2) (V := u2 V1 68 0 0) (r := rn) (f := 60 * k + a) (b := b) hrn8 hb8 (by omega) (by rw [u2_k _ _ (by omega), eV1 _ _ (by omega) (by omega)]; exact y2) b F 0 (by omega) (by omega)
                  rw [cpy_0, up_same, nI_0] at l9
                  refine ⟨(nI rn, mk A1 B V1 q), (nI rn, mk (va_up A2 90 (va_cpy (A2 71) (A2 90) (60 * k + a) (8 * rn) b)) B (u2 (u2 V1 68 0 0) 68 25 (nI (rn + 1))) q), ?_, ?_, rfl, _, B, _, q, m, kd, ln, lt, rfl, ?_⟩
                  · unfold x_X7_reading
                    rw [c_0, bs, w_0_16, bs, i7, bs, hb1, if_neg nt, x7_isSheet, bs, hb2, if_neg nt, T3, b3, bs, hb3, if_neg nt, if_neg n5, if_neg n5', T2, b2, bs, hb6, if_neg nt, r_0_0, bs, l_sh hk, bs, x4_faultOfCells hk hD7, bs, hf0, if_pos nI_0, bs, l_sh hk, bs, r_0_6, bs, L7, bs, if_neg nt, g_0_8, bs, u2_k _ _ (by omega), y1, T8, if_pos ((nI_ltI (by omega) (by omega)).mpr hrn8), r_0_7, bs, bs, l_rd hrn8, bs, r_0_6, bs, ← kp]
                    rw [← hsb2]
                    by_cases z : nI s = 1
                    · rw [if_pos z, if_pos z]
                    · rw [if_neg z, if_neg z]
                  · unfold x_X8_reading
                    have i9 : x_X8_isWord F (mk A1 B (u2 V1 68 0 0) q) 68 (nI w) = some (cI (inb (nI w) m)) := x8_isWord (by rw [u2_k _ _ (by omega), eV1 _ _ (by omega) (by omega)]; exact v2) hm
                    have hD9 : shD A1 (u2 V1 68 0 0) k t la l := shD_c hD (by rw [u2_pp _ _ (by omega)]; funext j; exact eV1 _ _ (by omega) (by omega)) (eA1 _ (by omega) (by omega)) (eA1 _ (by omega) (by omega)) (eA1 _ (by omega) (by omega)) (eA1 _ (by omega) (by omega))
                    have L9 := x8_areLetters (B := B) (q := q) (F := F) (A := A1) (V := u2 V1 68 0 0) (f := 60 * k + a) (b := b) (by omega) (by omega)
                    have er2 : alF (fun i => inb (A1 71 (60 * k + a + i)) 3) 0 b = true := by
                      rw [← hbl]
                      exact alF_congr b 0 (fun i _ hi => by
                        rw [eA1 _ (by omega) (by omega), Nat.add_assoc, hD.2.2.2.2.2.2.2.2 (a + i) (by omega)])
                    rw [er2] at L9
                    rw [c_68, bs, w_68_0, bs, i9, bs, hb1, if_neg nt, x8_isSheet, bs, hb2, if_neg nt, x8_isSort, bs, hb3, if_neg nt, w8, bs, hb5, if_neg nt, w1, bs, hb6, if_neg nt, x8_against hk hD9, bs, hf0, if_pos nI_0, n60, nI_add, L9, bs, if_neg nt, g_68_25, bs, u2_k _ _ (by omega), eV1 _ _ (by omega) (by omega), y2, T8, if_neg (nI_eq' (by omega) (by omega) h8), r_68_26, bs, bs, s_87 hi8, bs, r_68_27, bs, g_68_25, bs, u2_k _ _ (by omega), eV1 _ _ (by omega) (by omega), y2, s_88 hi8, bs, r_68_28, bs, g_68_25, bs, u2_k _ _ (by omega), eV1 _ _ (by omega) (by omega), y2, s_89 hi8, bs, tr, hsb, ← hA2]
                    exact l9
                  · refine inv_rd hNO hI0 (fun p h1 h2 h3 => by rw [up_ne _ _ (by omega), eA2 _ (by omega) (by omega) (by omega), eA1 _ h1 (by omega)]) (fun p j h1 h2 h3 => by rw [u2_ne (by omega), u2_ne (by omega), eV1 _ _ (by omega) (by omega)]) (by rw [u2_ne (by omega), u2_ne (by omega), u2_ne (by omega), u2_s, hV1, u2_ne (by omega), u2_p _ _ (by omega), u2_p _ _ (by omega), u2_p _ _ (by omega), u2_s]) ⟨rn + 1, by omega, by rw [u2_ne (by omega), u2_ne (by omega), hV1, u2_s], by rw [u2_s], fun j hj => ?_⟩
                    have vj : ∀ i, u2 (u2 V1 68 0 0) 68 25 (nI (rn + 1)) (52 + 2 * j) i = V1 (52 + 2 * j) i := fun i => by rw [u2_p _ _ (by omega), u2_p _ _ (by omega)]
                    rw [vj, vj, vj, up_at, up_ne _ _ (show 87 ≠ 90 by omega), up_ne _ _ (show 88 ≠ 90 by omega), up_ne _ _ (show 89 ≠ 90 by omega), up_ne _ _ (show 53 + 2 * j ≠ 90 by omega), eA2 (53 + 2 * j) (by omega) (by omega) (by omega)]
                    by_cases ej : j = rn
                    · subst ej
                      refine ⟨⟨w, hw, ?_, ?_⟩, ⟨b, hb8, ?_, ?_, fun i hi => ?_⟩, ⟨sb, ?_, ?_⟩⟩
                      · rw [hV1, u2_p _ _ (by omega), u2_k _ _ (by omega), u2_k _ _ (by omega), u2_s]
                      · rw [hA2, u2_p _ _ (by omega), u2_p _ _ (by omega), u2_s]
                      · rw [hV1, u2_p _ _ (by omega), u2_k _ _ (by omega), u2_s]
                      · rw [hA2, u2_p _ _ (by omega), u2_s]
                      · rw [pk_cpy_in (by omega) (by omega), e71, hA1, up_at, pk_cpy_in (by omega) (by omega), Nat.sub_zero, Nat.zero_add, gl i hi, show 8 * j + i - 8 * j = i by omega, Nat.add_assoc, hD.2.2.2.2.2.2.2.2 (a + i) (by omega)]
                      · rw [hV1, u2_p _ _ (by omega), u2_s]
                      · rw [hA2, u2_s]
                    · obtain ⟨o1, ⟨ol, p1, p2, p3, p4⟩, o3⟩ := y3 j (by omega)
                      rw [eV1 _ _ (by omega) (by omega), eV1 _ _ (by omega) (by omega), eV1 _ _ (by omega) (by omega), eA1 _ (by omega) (by omega)]
                      have f87 : A2 87 j = A 87 j := by rw [hA2, u2_p _ _ (by omega), u2_p _ _ (by omega), u2_k _ _ ej, eA1 _ (by omega) (by omega)]
                      have f88 : A2 88 j = A 88 j := by rw [hA2, u2_p _ _ (by omega), u2_k _ _ ej, u2_p _ _ (by omega), eA1 _ (by omega) (by omega)]
                      have f89 : A2 89 j = A 89 j := by rw [hA2, u2_k _ _ ej, u2_p _ _ (by omega), u2_p _ _ (by omega), eA1 _ (by omega) (by omega)]
                      rw [f87, f88, f89]
                      refine ⟨o1, ⟨ol, p1, p2, p3, fun i hi => ?_⟩, o3⟩
                      rw [pk_cpy_out (by omega), e90]
                      exact p4 i hi
            · obtain ⟨r, hr1, hr2, hr3⟩ : ∃ r, fcN t la l a3 a4 a5 = r ∧ r ≠ 0 ∧ r ≤ 4 := ⟨_, rfl, hf0, fcN_le⟩
              refine ⟨(-10 - nI r, mk A B (u2 V 0 16 (nI r)) q), (-10 - nI r, mk A B (u2 (u2 V 0 16 (nI r)) 68 0 (nI r)) q), ?_, ?_, rfl, A, B, _, q, m, kd, ln, lt, rfl, ff _⟩
              · unfold x_X7_reading
                rw [c_0, bs, w_0_16, bs, i7, bs, hb1, if_neg nt, x7_isSheet, bs, hb2, if_neg nt, T3, b3, bs, hb3, if_neg nt, if_neg n5, if_neg n5', T2, b2, bs, hb6, if_neg nt, r_0_0, bs, l_sh hk, bs, x4_faultOfCells hk hD7, bs, hr1, if_neg (nz0 hr2 (by omega)), x7_failWith, bs, u2_u2]
              · unfold x_X8_reading
                have hD9 : shD A (u2 (u2 V 0 16 (nI r)) 68 0 0) k t la l := shD_c hD (by rw [u2_pp _ _ (by omega), u2_pp _ _ (by omega)]) rfl rfl rfl rfl
                rw [c_68, bs, w_68_0, bs, x8_isWord (by rw [u2_k _ _ (by omega), u2_p _ _ (by omega)]; exact v2) hm, bs, hb1, if_neg nt, x8_isSheet, bs, hb2, if_neg nt, x8_isSort, bs, hb3, if_neg nt, w8, bs, hb5, if_neg nt, w1, bs, hb6, if_neg nt, x8_against hk hD9, bs, hr1, if_neg (nz0 hr2 (by omega)), x8_fails, bs, u2_u2]
end ST11
