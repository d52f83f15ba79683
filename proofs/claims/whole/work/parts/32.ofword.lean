/-! steps: ofWord, over -/
section OW
variable {NO : tNO} {SS : (Nat → Int32) → Prop} {F : Nat}
theorem within10 {h : pH} {a : Int32} : x_X8_within F h a 10 13 = some (cI (decide (10 ≤ a.toInt ∧ a.toInt ≤ 13))) := by
  unfold x_X8_within
  have t10 : (10 : Int32).toInt = 10 := rfl
  have t13 : (13 : Int32).toInt = 13 := rfl
  by_cases h1 : a < 10
  · rw [if_pos h1]
    rw [Int32.lt_iff_toInt_lt, t10] at h1
    rw [decide_eq_false (by omega)]; rfl
  · rw [if_neg h1]
    rw [Int32.lt_iff_toInt_lt, t10] at h1
    by_cases h2 : 13 < a
    · rw [if_pos h2]
      rw [Int32.lt_iff_toInt_lt, t13] at h2
      rw [decide_eq_false (by omega)]; rfl
    · rw [if_neg h2]
      rw [Int32.lt_iff_toInt_lt, t13] at h2
      rw [decide_eq_true (by omega)]; rfl
theorem step_ofWord (hNO : NOf NO) (hF : 80 ≤ F) : st_ofWord (InvH NO SS) F := by
  intro h a1 a2 hI
  obtain ⟨A, B, V, q, m, kd, ln, lt, rfl, hI⟩ := hI
  have hI0 := hI
  obtain ⟨hq, hW, hS, hZ, hR, hT, hSS, hN⟩ := hI
  obtain ⟨hm, v1, v2, hX, hM, hL⟩ := id hW
  obtain ⟨n, hn, z1, z2, z3⟩ := id hZ
  unfold x_X7_ofWord x_X8_ofWord
  simp only [c_0, c_68, bs, x7_isWord v1 hm, x8_isWord v2 hm, within10]
  have self : InvH NO SS (mk A B V q) := ⟨A, B, V, q, m, kd, ln, lt, rfl, hI0⟩
  cases hb : inb a1 m
  · simp only [if_pos cI_f]
    exact ⟨-1, (-1, _), rfl, rfl, rfl, self⟩
  · obtain ⟨w, hw, rfl⟩ := inb_ex hb (by omega)
    have b3 := wpl_b hq (show w < 4 by omega)
    have hXw := hX w hw
    obtain ⟨w1, w2, w3, w4, w5, w6, w7⟩ := id hXw
    obtain ⟨m1, m2, m3, m4, m5, m6⟩ := hM w hw
    have hi : inb (nI w) 4 = true := inb_nI (by omega) (by omega)
    have tw : (nI w).toNatClampNeg = w := tn (by omega)
    simp only [if_neg (show ¬ cI true = 0 by decide), r_0_2, bs, l_kn (okQ_kn hq) (show w < 4 by omega)]
    by_cases h0 : a2 = 0
    · subst h0
      simp only [if_true, gW2 w1, bs, w2, show cI (decide ((10 : Int) ≤ (0 : Int32).toInt ∧ (0 : Int32).toInt ≤ 13)) = 0 from rfl, r_68_7, l_72 hi, tw, m1]
      exact ⟨nI (kd w), (nI (kd w), _), rfl, rfl, rfl, self⟩
    · by_cases h1 : a2 = 1
      · subst h1
        simp only [if_neg (show ¬ (1 : Int32) = 0 by decide), if_true, gW1 w1, bs, w3, show cI (decide ((10 : Int) ≤ (1 : Int32).toInt ∧ (1 : Int32).toInt ≤ 13)) = 0 from rfl, r_68_8, l_73 hi, tw, m2]
        exact ⟨nI (ln w), (nI (ln w), _), rfl, rfl, rfl, self⟩
      · by_cases h2 : a2 = 2
        · subst h2
          simp only [if_neg (show ¬ (2 : Int32) = 0 by decide), if_neg (show ¬ (2 : Int32) = 1 by decide), if_true, bs, x6_unlikeForms hXw (show 6 ≤ F by omega), x8_areForms hm hM hw (show 6 ≤ F by omega), show cI (decide ((10 : Int) ≤ (2 : Int32).toInt ∧ (2 : Int32).toInt ≤ 13)) = 0 from rfl]
          cases anyF (fun j => !(fml (kd w) (ln w) (lt w) 0 j == fml (kd w) (ln w) (lt w) 1 j)) 0 (ln w)
          · exact ⟨1, (1, _), rfl, rfl, rfl, self⟩
          · exact ⟨2, (2, _), rfl, rfl, rfl, self⟩
        · by_cases h3 : a2 = 3
          · subst h3
            simp only [if_neg (show ¬ (3 : Int32) = 0 by decide), if_neg (show ¬ (3 : Int32) = 1 by decide), if_neg (show ¬ (3 : Int32) = 2 by decide), if_true, bs, r_0_4, g_0_5, z1, show cI (decide ((10 : Int) ≤ (3 : Int32).toInt ∧ (3 : Int32).toInt ≤ 13)) = 0 from rfl]
            rw [x6_timesIn hXw (r := 21) (N := 60) rfl (by omega) hn (by omega), bs, x8_lookAtSaid hn z2 (by omega), bs, x8_timesHeard hm (repM_c hM (up_ne _ _ (by omega)) (up_ne _ _ (by omega)) (up_ne _ _ (by omega))) hw hn (u2_s _ _ _ _) (by omega), bs]
            refine ⟨_, (_, _), rfl, rfl, ?_, _, B, _, q, m, kd, ln, lt, rfl, inv_look hNO hI0 _ _⟩
            show nI _ = nI _
            congr 1
            exact cnt_congr n 1 (fun e _ h2 => hWb_congr (fun i hi => (look_said z3 i (by omega)).symm))
          · simp only [if_neg h0, if_neg h1, if_neg h2, if_neg h3]
            by_cases hp : 10 ≤ a2.toInt ∧ a2.toInt ≤ 13
            · obtain ⟨t, ht, rfl⟩ := inb_ex (a := a2) (n := 14) (inb_iff.mpr (by omega)) (by omega)
              rw [nI_toInt (by omega)] at hp
              obtain ⟨j, rfl⟩ : ∃ j, t = 10 + j := ⟨t - 10, by omega⟩
              have e10 : nI (10 + j) - 10 = nI j := by
                have := pk_sub (a := 10 + j) (b := 10) (by omega)
                rw [show 10 + j - 10 = j by omega] at this
                exact this
              have e14 : nI (4 * w) + nI (10 + j) - 10 = nI (4 * w + j) := by
                rw [nI_add]
                have := pk_sub (a := 4 * w + (10 + j)) (b := 10) (by omega)
                rw [show 4 * w + (10 + j) - 10 = 4 * w + j by omega] at this
                exact this
              have g1 : ¬ nI (10 + j) < 10 := fun z => by have := (nI_ltI (b := 10) (by omega) (by omega)).mp z; omega
              have g2 : nI (10 + j) < 14 := (nI_ltI (b := 14) (by omega) (by omega)).mpr (by omega)
              have g3 : decide ((10 : Int) ≤ (nI (10 + j)).toInt ∧ (nI (10 + j)).toInt ≤ 13) = true := by
                rw [nI_toInt (by omega)]
                exact decide_eq_true hp
              simp only [if_neg g1, if_pos g2, g3, if_neg (show ¬ cI true = 0 by decide), gW1 w1, bs, w3, e10, n4, e14, r_68_8, l_73 hi, tw, m2, rW w1, r_68_9]
              by_cases hlt : j < ln w
              · have g4 : ¬ nI (ln w) ≤ nI j := fun z => by have := (nI_leI (by omega) (by omega)).mp z; omega
                simp only [if_neg g4]
                rw [lW w1 (inb_nI (by omega) (by omega)), bs, l_74 (inb_nI (by omega) (by omega)), bs, tn (by omega), tn (by omega), w7 j hlt, m6 j hlt]
                exact ⟨lt w j, (lt w j, _), rfl, rfl, rfl, self⟩
              · have g4 : nI (ln w) ≤ nI j := (nI_leI (by omega) (by omega)).mpr (by omega)
                simp only [if_pos g4]
                exact ⟨-9, (-9, _), rfl, rfl, rfl, self⟩
            · simp only [decide_eq_false hp, if_pos cI_f]
              have t10 : (10 : Int32).toInt = 10 := rfl
              have t14 : (14 : Int32).toInt = 14 := rfl
              refine ⟨-2, (-2, _), ?_, rfl, rfl, self⟩
              by_cases g1 : a2 < 10
              · rw [if_pos g1]
              · rw [if_neg g1, if_neg]
                intro g2
                rw [Int32.lt_iff_toInt_lt, t10] at g1
                rw [Int32.lt_iff_toInt_lt, t14] at g2
                omega
end OW
/-! over -/
def ovS (p : Nat → Bool) : Nat → Nat
  | 0 => 0
  | n + 1 => if p (n + 1) = true then n + 1 else ovS p n
def lov (la : Nat) (f g : Nat → Int32) (n : Nat) : Bool := (List.range n).all (fun i => f (la - n + i) == g i)
theorem lov_iff {la : Nat} {f g : Nat → Int32} {n : Nat} : lov la f g n = true ↔ ∀ i, i < n → f (la - n + i) = g i := by
  simp [lov, List.all_eq_true]
section OV
variable {A : tA2} {B : tB2} {V : tA2} {q : tQ} {F : Nat}
theorem x6_lo_loop {a k la : Nat} {f : Nat → Int32} (h : atW A V a k la f) {b k2 lb : Nat} {g : Nat → Int32} (h2 : atW A V b k2 lb g) {n : Nat} (hna : n ≤ la) (hnb : n ≤ lb) : ∀ (d u j : Nat), j + d = n → d < u → (∀ i, i < j → f (la - n + i) = g i) → x_X6_liesOver_2 F (mk A B V q) a b (nI n) u (nI j) = some (cI (lov la f g n)) := by
  obtain ⟨w1, w2, w3, w4, w5, w6, w7⟩ := h
  obtain ⟨y1, y2, y3, y4, y5, y6, y7⟩ := h2
  intro d
  induction d with
  | zero =>
    intro u j hj hu hall
    obtain ⟨u, rfl⟩ : ∃ z, u = z + 1 := ⟨u - 1, by omega⟩
    show s_X6_liesOver_2 _ _ _ _ _ _ _ = _
    unfold s_X6_liesOver_2
    rw [if_pos ((nI_leI (by omega) (by omega)).mpr (by omega)), show lov la f g n = true from lov_iff.mpr (fun i hi => hall i (by omega))]
    rfl
  | succ d ih =>
    intro u j hj hu hall
    obtain ⟨u, rfl⟩ : ∃ z, u = z + 1 := ⟨u - 1, by omega⟩
    show s_X6_liesOver_2 _ _ _ _ _ _ _ = _
    unfold s_X6_liesOver_2
    rw [if_neg (fun z => by have := (nI_leI (by omega) (by omega)).mp z; omega), rW w1, bs, gW1 w1, bs, w3, pk_sub hna, nI_add, lW w1 (inb_nI (by omega) (by omega)), bs, rW y1, bs, lW y1 (inb_nI (by omega) (by omega)), bs, tn (by omega), tn (by omega), w7 _ (by omega), y7 _ (by omega), nI_1]
    by_cases e : f (la - n + j) = g j
    · rw [if_pos e]
      exact ih u (j + 1) (by omega) (by omega) (fun i hi => by
        rcases Nat.lt_or_ge i j with z | z
        · exact hall i z
        · rw [show i = j by omega]; exact e)
    · rw [if_neg e, show lov la f g n = false by rw [Bool.eq_false_iff]; intro z; exact e (lov_iff.mp z j (by omega))]
      rfl
theorem x6_lo2 {a k la : Nat} {f : Nat → Int32} (h : atW A V a k la f) {b k2 lb : Nat} {g : Nat → Int32} (h2 : atW A V b k2 lb g) (hF : 6 ≤ F) : ∀ (n u : Nat), n ≤ la → n ≤ lb → n < u → x_X6_lettersOver_12 F (mk A B V q) a b u (nI n) = some (nI (ovS (lov la f g) n)) := by
  have l4 := h.2.2.2.2.2.1
  intro n
  induction n with
  | zero =>
    intro u h1 h3 hu
    obtain ⟨u, rfl⟩ : ∃ z, u = z + 1 := ⟨u - 1, by omega⟩
    show s_X6_lettersOver_12 _ _ _ _ _ _ = _
    unfold s_X6_lettersOver_12
    rw [if_pos (show nI 0 ≤ 0 by decide)]
    rfl
  | succ n ih =>
    intro u h1 h3 hu
    obtain ⟨u, rfl⟩ : ∃ z, u = z + 1 := ⟨u - 1, by omega⟩
    show s_X6_lettersOver_12 _ _ _ _ _ _ = _
    unfold s_X6_lettersOver_12 x_X6_liesOver
    have lp := x6_lo_loop (B := B) (q := q) (F := F) h h2 (n := n + 1) h1 h3 (n + 1) F 0 (by omega) (by omega) (fun i hi => absurd hi (by omega))
    rw [nI_0] at lp
    rw [if_neg (nI_nle (by omega) (by omega)), cW h.1, bs, lp, bs, pk_m1]
    cases hb : lov la f g (n + 1)
    · rw [if_pos cI_f, ih u (by omega) (by omega) (by omega)]
      simp [ovS, hb]
    · rw [if_neg (by decide)]
      simp [ovS, hb]
theorem x6_lettersOver {a k la : Nat} {f : Nat → Int32} (h : atW A V a k la f) {b k2 lb : Nat} {g : Nat → Int32} (h2 : atW A V b k2 lb g) (hF : 6 ≤ F) : x_X6_lettersOver F (mk A B V q) a b = some (nI (ovS (lov la f g) (if lb < la then lb else la))) := by
  have hh := h
  have hh2 := h2
  obtain ⟨w1, w2, w3, w4, w5, w6, w7⟩ := h
  obtain ⟨y1, y2, y3, y4, y5, y6, y7⟩ := h2
  unfold x_X6_lettersOver
  rw [cW w1, bs, gW1 w1, bs, gW1 y1, bs, w3, y3]
  by_cases hlt : lb < la
  · rw [if_pos ((nI_ltI (by omega) (by omega)).mpr hlt), if_pos hlt, x6_lo2 hh hh2 hF lb F (by omega) (by omega) (by omega)]
  · rw [if_neg (fun z => hlt ((nI_ltI (by omega) (by omega)).mp z)), if_neg hlt, x6_lo2 hh hh2 hF la F (by omega) (by omega) (by omega)]
theorem x8_ov_in {m : Nat} {kd ln : Nat → Nat} {lt : Nat → Nat → Int32} (hm : m ≤ 4) (h : repM A m kd ln lt) {a b n : Nat} (ha : a < m) (hb : b < m) (hna : n ≤ ln a) (hnb : n ≤ ln b) (k52 : Int32 → Option Int32) : ∀ (d u j : Nat), j + d = n → d + 1 < u → (∀ i, i < j → lt a (ln a - n + i) = lt b i) → x_X8_over_63 F k52 (mk A B V q) 68 (nI a) (nI b) (nI n) u 1 (nI j) = x_X8_over_123 F k52 (mk A B V q) 68 (nI a) (nI b) (nI n) (cI (lov (ln a) (lt a) (lt b) n)) := by
  obtain ⟨a1, a2, a3, a4, a5, a6⟩ := h a ha
  obtain ⟨b1, b2, b3, b4, b5, b6⟩ := h b hb
  have hi : inb (nI a) 4 = true := inb_nI (by omega) (by omega)
  have tw : (nI a).toNatClampNeg = a := tn (by omega)
  intro d
  induction d with
  | zero =>
    intro u j hj hu hall
    obtain ⟨u, rfl⟩ : ∃ z, u = z + 1 := ⟨u - 1, by omega⟩
    show s_X8_over_63 _ _ _ _ _ _ _ _ _ _ = _
    unfold s_X8_over_63
    rw [if_pos ((nI_leI (by omega) (by omega)).mpr (by omega)), show lov (ln a) (lt a) (lt b) n = true from lov_iff.mpr (fun i hi => hall i (by omega))]
    rfl
  | succ d ih =>
    intro u j hj hu hall
    obtain ⟨u, rfl⟩ : ∃ z, u = z + 1 := ⟨u - 1, by omega⟩
    show s_X8_over_63 _ _ _ _ _ _ _ _ _ _ = _
    unfold s_X8_over_63 x_X8_over_115
    rw [if_neg (fun z => by have := (nI_leI (by omega) (by omega)).mp z; omega), if_neg (by decide), r_68_9, bs, r_68_8, bs, l_73 hi, bs, tw, a2, n4, n4, nI_add, pk_sub (by omega), nI_add, nI_add, l_74 (inb_nI (by omega) (by omega)), bs, bs, l_74 (inb_nI (by omega) (by omega)), bs, tn (by omega), tn (by omega), show 4 * a + ln a - n + j = 4 * a + (ln a - n + j) by omega, a6 _ (by omega), b6 _ (by omega), nI_1]
    by_cases e : lt a (ln a - n + j) = lt b j
    · rw [if_pos e]
      exact ih u (j + 1) (by omega) (by omega) (fun i hi => by
        rcases Nat.lt_or_ge i j with z | z
        · exact hall i z
        · rw [show i = j by omega]; exact e)
    · rw [if_neg e, show lov (ln a) (lt a) (lt b) n = false by rw [Bool.eq_false_iff]; intro z; exact e (lov_iff.mp z j (by omega))]
      obtain ⟨u, rfl⟩ : ∃ z, u = z + 1 := ⟨u - 1, by omega⟩
      show s_X8_over_63 _ _ _ _ _ _ _ _ _ _ = _
      unfold s_X8_over_63
      by_cases z : nI n ≤ nI (j + 1)
      · rw [if_pos z]; rfl
      · rw [if_neg z, if_pos rfl]; rfl
theorem x8_ov_out {m : Nat} {kd ln : Nat → Nat} {lt : Nat → Nat → Int32} (hm : m ≤ 4) (h : repM A m kd ln lt) {a b : Nat} (ha : a < m) (hb : b < m) (hF : 8 ≤ F) : ∀ (n u : Nat), n ≤ ln a → n ≤ ln b → n < u → x_X8_over_52 F (mk A B V q) 68 (nI a) (nI b) u (nI n) = some (nI (ovS (lov (ln a) (lt a) (lt b)) n)) := by
  have l4 := (h a ha).2.2.2.2.1
  intro n
  induction n with
  | zero =>
    intro u h1 h3 hu
    obtain ⟨u, rfl⟩ : ∃ z, u = z + 1 := ⟨u - 1, by omega⟩
    show s_X8_over_52 _ _ _ _ _ _ _ = _
    unfold s_X8_over_52
    rw [if_pos (show nI 0 ≤ 0 by decide)]
    rfl
  | succ n ih =>
    intro u h1 h3 hu
    obtain ⟨u, rfl⟩ : ∃ z, u = z + 1 := ⟨u - 1, by omega⟩
    show s_X8_over_52 _ _ _ _ _ _ _ = _
    unfold s_X8_over_52
    have lp := fun k52 => x8_ov_in (B := B) (V := V) (q := q) (F := F) hm h ha hb (n := n + 1) h1 h3 k52 (n + 1) F 0 (by omega) (by omega) (fun i hi => absurd hi (by omega))
    rw [nI_0] at lp
    rw [if_neg (nI_nle (by omega) (by omega)), lp]
    unfold x_X8_over_123
    rw [pk_m1]
    cases hb : lov (ln a) (lt a) (lt b) (n + 1)
    · rw [if_pos cI_f, ih u (by omega) (by omega) (by omega)]
      simp [ovS, hb]
    · rw [if_neg (by decide)]
      simp [ovS, hb]
end OV
section ST7
variable {NO : tNO} {SS : (Nat → Int32) → Prop} {F : Nat}
theorem step_over (hF : 80 ≤ F) : st_over (InvH NO SS) F := by
  intro h a1 a2 hI
  obtain ⟨A, B, V, q, m, kd, ln, lt, rfl, hI⟩ := hI
  have hI0 := hI
  obtain ⟨hq, hW, hS, hZ, hR, hT, hSS, hN⟩ := hI
  obtain ⟨hm, v1, v2, hX, hM, hL⟩ := id hW
  have self : InvH NO SS (mk A B V q) := ⟨A, B, V, q, m, kd, ln, lt, rfl, hI0⟩
  unfold x_X7_over x_X8_over
  simp only [c_0, c_68, bs, x7_isWord v1 hm, x8_isWord v2 hm]
  cases hb : inb a1 m
  · simp only [if_pos cI_f]
    exact ⟨-1, -1, rfl, rfl, rfl, self⟩
  · cases hb2 : inb a2 m
    · simp only [if_neg (show ¬ cI true = 0 by decide), if_pos cI_f]
      exact ⟨-1, -1, rfl, rfl, rfl, self⟩
    · obtain ⟨a, ha, rfl⟩ := inb_ex hb (by omega)
      obtain ⟨b, hbm, rfl⟩ := inb_ex hb2 (by omega)
      have hia : inb (nI a) 4 = true := inb_nI (by omega) (by omega)
      have hib : inb (nI b) 4 = true := inb_nI (by omega) (by omega)
      have ta : (nI a).toNatClampNeg = a := tn (by omega)
      have tb : (nI b).toNatClampNeg = b := tn (by omega)
      obtain ⟨-, m2, -, m4, m5, -⟩ := hM a ha
      obtain ⟨-, y2, -, y4, y5, -⟩ := hM b hbm
      unfold x_X8_over_48
      simp only [if_neg (show ¬ cI true = 0 by decide), r_0_2, bs, l_kn (okQ_kn hq) (show a < 4 by omega), l_kn (okQ_kn hq) (show b < 4 by omega), x6_lettersOver (hX a ha) (hX b hbm) (show 6 ≤ F by omega), r_68_8, l_73 hia, l_73 hib, ta, tb, m2, y2]
      refine ⟨_, nI (ovS (lov (ln a) (lt a) (lt b)) (if ln b < ln a then ln b else ln a)), rfl, ?_, rfl, self⟩
      by_cases hle : ln b ≤ ln a
      · rw [if_pos ((nI_leI (by omega) (by omega)).mpr hle), x8_ov_out hm hM ha hbm (by omega) (ln b) F hle (by omega) (by omega)]
        congr 3
        by_cases e : ln b < ln a
        · rw [if_pos e]
        · rw [if_neg e]; omega
      · rw [if_neg (fun z => hle ((nI_leI (by omega) (by omega)).mp z)), x8_ov_out hm hM ha hbm (by omega) (ln a) F (by omega) (by omega) (by omega), if_neg (by omega)]
end ST7
