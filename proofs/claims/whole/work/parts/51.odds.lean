/-! step: odds -/
theorem gcd3_in {v k : Nat} : Nat.gcd (3 * v) (3 ^ (k + 1)) = 3 * Nat.gcd v (3 ^ k) := by
  rw [Nat.pow_succ, Nat.mul_comm (3 ^ k) 3, Nat.gcd_mul_left]
theorem gcd3_out {u : Nat} (h : u % 3 ≠ 0) : ∀ k, Nat.gcd u (3 ^ k) = 1 := by
  have h3 : Nat.gcd u 3 = 1 := by
    rw [Nat.gcd_comm, Nat.gcd_rec]
    rcases (show u % 3 = 1 ∨ u % 3 = 2 by omega) with z | z <;> rw [z] <;> decide
  intro k
  exact Nat.Coprime.pow_right k h3
section OD
variable {F : Nat}
theorem x7_od_loop {h : pH} {n : Nat} {wh : Int32} (hn : n ≤ 30) : ∀ (d u k up low : Nat), k + d = n → d < u → up < 2 ^ 62 → low * 3 ^ d < 2 ^ 62 → x_X7_odds_58 F h (nI n) wh u (lN up) (lN low) (nI k) = some (if wh = 0 then lN (up / Nat.gcd up (3 ^ d)) else lN (low * (3 ^ d / Nat.gcd up (3 ^ d))), h) := by
  intro d
  induction d with
  | zero =>
    intro u k up low hk hu h1 h2
    obtain ⟨u, rfl⟩ : ∃ z, u = z + 1 := ⟨u - 1, by omega⟩
    show s_X7_odds_58 _ _ _ _ _ _ _ _ = _
    unfold s_X7_odds_58
    rw [if_pos ((nI_leI (by omega) (by omega)).mpr (by omega))]
    simp only [Nat.pow_zero, Nat.gcd_one_right, Nat.div_one, Nat.mul_one]
    by_cases z : wh = 0
    · rw [if_pos z, if_pos z]
    · rw [if_neg z, if_neg z]
  | succ d ih =>
    intro u k up low hk hu h1 h2
    obtain ⟨u, rfl⟩ : ∃ z, u = z + 1 := ⟨u - 1, by omega⟩
    show s_X7_odds_58 _ _ _ _ _ _ _ _ = _
    unfold s_X7_odds_58 x_X7_odds_91
    have r := pk_lRem (a := up) (b := 3) (by omega) (by omega) (by omega)
    have q3 := pk_lDiv (a := up) (b := 3) (by omega) (by omega) (by omega)
    have p3 := lN_mul low 3
    rw [show (3 : Int64) = lN 3 from rfl, if_neg (fun z => by have := (nI_leI (by omega) (by omega)).mp z; omega), r, q3, p3, nI_1]
    have hz : (lg_cmp (lN (up % 3)) 0 = 0) ↔ up % 3 = 0 := by
      rw [lg_cmp_eq, show (0 : Int64) = lN 0 from rfl, lN_eq (by omega) (by omega)]
    have pw : 3 ^ (d + 1) = 3 ^ d * 3 := Nat.pow_succ ..
    by_cases e : up % 3 = 0
    · rw [if_pos (hz.mpr e)]
      obtain ⟨v, rfl⟩ : ∃ v, up = 3 * v := ⟨up / 3, by omega⟩
      rw [show 3 * v / 3 = v by omega, ih u (k + 1) v low (by omega) (by omega) (by omega) (by
        refine Nat.lt_of_le_of_lt ?_ h2
        apply Nat.mul_le_mul_left
        rw [pw]; omega), gcd3_in]
      rw [Nat.mul_div_mul_left _ _ (show 0 < 3 by omega), pw, Nat.mul_comm (3 ^ d) 3, Nat.mul_div_mul_left _ _ (show 0 < 3 by omega)]
    · rw [if_neg (fun z => e (hz.mp z)), ih u (k + 1) up (low * 3) (by omega) (by omega) h1 (by
        rw [Nat.mul_assoc, Nat.mul_comm 3]
        rw [pw] at h2
        exact h2), gcd3_out e, gcd3_out e, Nat.div_one, Nat.div_one, Nat.div_one, pw, Nat.mul_assoc, Nat.mul_comm 3]
theorem half_mod {y r : Nat} (h0 : 0 < r) (hr : r < y) : 2 * (y % r) < y := by
  have a := Nat.mod_lt y h0
  have b := Nat.div_add_mod y r
  have c : 1 ≤ y / r := (Nat.one_le_div_iff h0).mpr (by omega)
  have d : r ≤ r * (y / r) := Nat.le_mul_of_pos_right r (by omega)
  omega
theorem x8_lt_step {h : pH} {u0 d0 x y u : Nat} {wh : Int32} (hx : x < 2 ^ 63) (hy : y < 2 ^ 63) (hy0 : y ≠ 0) : x_X8_inLeastTerms_6 F h (lN u0) (lN d0) wh (u + 1) (lN x) (lN y) = x_X8_inLeastTerms_6 F h (lN u0) (lN d0) wh u (lN y) (lN (x % y)) := by
  show s_X8_inLeastTerms_6 _ _ _ _ _ _ _ _ = _
  unfold s_X8_inLeastTerms_6
  have ne : ¬ lN y = 0 := fun z => by
    have := congrArg Int64.toInt z
    rw [lNt hy] at this
    have e : (0 : Int64).toInt = 0 := rfl
    rw [e] at this
    omega
  rw [if_neg (fun z => ne ((lg_cmp_eq _ _).mp z)), if_neg ne, pk_lRem hx (by omega) hy]
theorem x8_lt_end {h : pH} {u0 d0 x u : Nat} {wh : Int32} (hu0 : u0 < 2 ^ 63) (hd0 : d0 < 2 ^ 63) (hx : x < 2 ^ 63) (hx0 : x ≠ 0) : x_X8_inLeastTerms_6 F h (lN u0) (lN d0) wh (u + 1) (lN x) (lN 0) = some (if wh = 0 then lN (u0 / x) else lN (d0 / x)) := by
  show s_X8_inLeastTerms_6 _ _ _ _ _ _ _ _ = _
  unfold s_X8_inLeastTerms_6
  have ne : ¬ lN x = 0 := fun z => by
    have := congrArg Int64.toInt z
    rw [lNt hx] at this
    have e : (0 : Int64).toInt = 0 := rfl
    rw [e] at this
    omega
  rw [if_pos (show lg_cmp (lN 0) 0 = 0 by decide), if_neg ne, pk_lDiv hu0 (by omega) hx, pk_lDiv hd0 (by omega) hx]
  by_cases z : wh = 0
  · rw [if_pos z, if_pos z]
  · rw [if_neg z, if_neg z, if_neg ne]
theorem gcd_st (x y : Nat) : Nat.gcd y (x % y) = Nat.gcd x y := by
  rw [Nat.gcd_comm x y, Nat.gcd_rec y x, Nat.gcd_comm]
theorem x8_lt_loop {h : pH} {u0 d0 : Nat} {wh : Int32} (hu0 : u0 < 2 ^ 63) (hd0 : d0 < 2 ^ 63) : ∀ (k u x y : Nat), y < 2 ^ k → 2 * k + 1 ≤ u → x < 2 ^ 63 → y < 2 ^ 63 → 0 < Nat.gcd x y → x_X8_inLeastTerms_6 F h (lN u0) (lN d0) wh u (lN x) (lN y) = some (if wh = 0 then lN (u0 / Nat.gcd x y) else lN (d0 / Nat.gcd x y)) := by
  intro k
  induction k with
  | zero =>
    intro u x y hy hu hx hy2 hg
    obtain ⟨u, rfl⟩ : ∃ z, u = z + 1 := ⟨u - 1, by omega⟩
    have : y = 0 := by simp at hy; exact hy
    subst this
    rw [Nat.gcd_zero_right] at hg ⊢
    exact x8_lt_end hu0 hd0 hx (by omega)
  | succ k ih =>
    intro u x y hy hu hx hy2 hg
    obtain ⟨u, rfl⟩ : ∃ z, u = z + 2 := ⟨u - 2, by omega⟩
    by_cases y0 : y = 0
    · subst y0
      rw [Nat.gcd_zero_right] at hg ⊢
      exact x8_lt_end hu0 hd0 hx (by omega)
    · have ry := Nat.mod_lt x (Nat.pos_of_ne_zero y0)
      rw [x8_lt_step hx hy2 y0, ← gcd_st x y]
      by_cases r0 : x % y = 0
      · rw [r0, Nat.gcd_zero_right]
        exact x8_lt_end hu0 hd0 hy2 y0
      · rw [x8_lt_step hy2 (by omega) r0, ← gcd_st y (x % y)]
        have hm := half_mod (Nat.pos_of_ne_zero r0) ry
        exact ih u (x % y) (y % (x % y)) (by rw [Nat.pow_succ] at hy; omega) (by omega) (by omega) (by omega) (by rw [gcd_st, gcd_st]; exact hg)
theorem x8_od_loop {A : tA2} {B : tB2} {V : tA2} {q : tQ} {n : Nat} {wh : Int32} (hn : n ≤ 30) : ∀ (d u k : Nat), k + d = n → d < u → x_X8_odds_40 F (mk A B V q) 68 (nI n) wh u (lN (3 ^ k)) (nI k) = ((x_X8_allWords F (mk A B V q) 68).bind fun v1 => (x_X8_waysWith F (mk A B V q) 68 v1).bind fun v2 => (x_X8_inLeastTerms F (mk A B V q) v2 (lN (3 ^ n)) wh).bind fun v3 => some (v3, mk A B V q)) := by
  intro d
  induction d with
  | zero =>
    intro u k hk hu
    obtain ⟨u, rfl⟩ : ∃ z, u = z + 1 := ⟨u - 1, by omega⟩
    show s_X8_odds_40 _ _ _ _ _ _ _ _ = _
    unfold s_X8_odds_40
    rw [if_pos ((nI_leI (by omega) (by omega)).mpr (by omega)), show k = n by omega]
  | succ d ih =>
    intro u k hk hu
    obtain ⟨u, rfl⟩ : ∃ z, u = z + 1 := ⟨u - 1, by omega⟩
    show s_X8_odds_40 _ _ _ _ _ _ _ _ = _
    unfold s_X8_odds_40
    rw [if_neg (fun z => by have := (nI_leI (by omega) (by omega)).mp z; omega), show (3 : Int64) = lN 3 from rfl, lN_mul, ← Nat.pow_succ, nI_1]
    exact ih u (k + 1) (by omega) (by omega)
theorem kA_le {m : Nat} {W : tW} {t : Nat} (ht : t ≤ 30) : kA m W t < 2 ^ 62 := by
  have a := kW_le (f := fun r => ind (ST m W r) (fll m)) (fun r => ind_le _ _) t 0
  have b := pow3_le ht
  unfold kA
  omega
theorem step_odds (hF : 700 ≤ F) : st_odds (InvH NOp SSp) F := by
  intro h a1 a2 hI
  obtain ⟨A, B, V, q, m, kd, ln, lt, rfl, hI⟩ := hI
  obtain ⟨hm, v1, v2, hX, hM, hL⟩ := id hI.2.1
  have self : InvH NOp SSp (mk A B V q) := ⟨A, B, V, q, m, kd, ln, lt, rfl, hI⟩
  have w30 : ∀ {h : pH}, x_X8_within F h a1 0 30 = some (cI (inb a1 31)) := x8_within (n := 31) rfl
  have w1 : ∀ {h : pH}, x_X8_within F h a2 0 1 = some (cI (inb a2 2)) := x8_within (n := 2) rfl
  have b2 : ∀ {h : pH}, x_X7_isBelow F h a2 (nI 2) = some (cI (inb a2 2)) := x7_isBelow (by omega)
  unfold x_X7_odds x_X8_odds
  simp only [c_0, c_68, bs, x7_isCounted, w30, w1, show (2 : Int32) = nI 2 from rfl, b2]
  cases hb : inb a1 31
  · simp only [if_pos cI_f]
    exact ⟨(_, _), (_, _), rfl, rfl, rfl, self⟩
  · simp only [if_neg (show ¬ cI true = 0 by decide)]
    cases hb2 : inb a2 2
    · simp only [if_pos cI_f]
      exact ⟨(_, _), (_, _), rfl, rfl, rfl, self⟩
    · simp only [if_neg (show ¬ cI true = 0 by decide), g_0_3, bs, v1]
      by_cases h0 : m = 0
      · simp only [if_pos (show nI m = 0 by rw [h0]; rfl)]
        refine ⟨(_, _), (_, _), rfl, ?_, rfl, self⟩
        rw [c_68, bs, g_68_5, bs, v2, if_pos (show nI m = 0 by rw [h0]; rfl)]
      · simp only [if_neg (nz0 h0 (by omega))]
        obtain ⟨n, hn, rfl⟩ := inb_ex hb (by omega)
        obtain ⟨ok, A1, B1, V1, A2, B2, V2, q2, e1, e2, I2, b40, b41⟩ := x7_counted (F := F) (n := n) (by omega) (by omega) hI hF
        obtain ⟨-, -, y2, -, yM, -⟩ := id I2.2.1
        obtain ⟨A3, B3, f1, f2, f3, f4⟩ := x8_findWays (F := F) (A := A2) (B := B2) (V := V2) (q := q2) ok y2 yM (n := n) (by omega) hF
        have kl := kA_le (m := m) (W := (kd, ln, lt)) (show n ≤ 30 by omega)
        have p3 := pow3_le (show n ≤ 30 by omega)
        have pp : 0 < 3 ^ n := Nat.pow_pos (by omega)
        have o7 := x7_od_loop (F := F) (h := mk A2 B2 V2 q2) (wh := a2) (show n ≤ 30 by omega) n F 0 (kA m (kd, ln, lt) n) 1 (by omega) (by omega) kl (by omega)
        have o8 := x8_od_loop (F := F) (A := A3) (B := B3) (V := V2) (q := q2) (wh := a2) (show n ≤ 30 by omega) n F 0 (by omega) (by omega)
        have l8 := x8_lt_loop (F := F) (h := mk A3 B3 V2 q2) (wh := a2) (u0 := kA m (kd, ln, lt) n) (d0 := 3 ^ n) (by omega) (by omega) 62 F (kA m (kd, ln, lt) n) (3 ^ n) p3 (by omega) (by omega) (by omega) (Nat.gcd_pos_of_pos_right _ pp)
        rw [Nat.one_mul] at o7
        refine ⟨(if a2 = 0 then lN (kA m (kd, ln, lt) n / Nat.gcd (kA m (kd, ln, lt) n) (3 ^ n)) else lN (3 ^ n / Nat.gcd (kA m (kd, ln, lt) n) (3 ^ n)), mk A2 B2 V2 q2), (if a2 = 0 then lN (kA m (kd, ln, lt) n / Nat.gcd (kA m (kd, ln, lt) n) (3 ^ n)) else lN (3 ^ n / Nat.gcd (kA m (kd, ln, lt) n) (3 ^ n)), mk A3 B3 V2 q2), ?_, ?_, rfl, A3, B3, V2, q2, m, kd, ln, lt, rfl, inv_ways I2 f2 f3⟩
        · rw [e1, bs, r_0_13, bs, r_0_12, bs, e2, bs, r_0_13, bs, r_39_0, bs, l_40 (inb_nI (by omega) (by omega)), bs, tn (by omega), b40]
          exact o7
        · dsimp only
          rw [c_68, bs, g_68_5, bs, y2, if_neg (nz0 h0 (by omega)), f1, bs]
          refine Eq.trans o8 ?_
          rw [x8_allWords hm y2, bs, x8_waysWith hm (fll_lt hm) f4 (by omega), bs]
          unfold x_X8_inLeastTerms
          refine Eq.trans (congrArg (fun z => Option.bind z _) l8) ?_
          rw [bs]
end OD
