/-! the points are laid -/
def BI (m : Nat) (W : tW) (A : tA2) (many i : Nat) (rw : Nat → Nat) : Prop :=
  1 ≤ many ∧ many ≤ 320 ∧ rw 0 = 0 ∧ (∀ j, j < many → A 35 j = nI (PP m W (rw j)) ∧ A 34 (PP m W (rw j)) = nI j) ∧ (∀ x, x < 640 → (∀ j, j < many → PP m W (rw j) ≠ x) → A 34 x = -9) ∧ (∀ j, 1 ≤ j → j < many → ∃ p c, p < j ∧ c < 3 ∧ rw j = bh (rw p) c ∧ A 36 j = nI (3 * p + c) ∧ 3 * p + c < i) ∧ (∀ j j', j < j' → j' < many → rw j < rw j') ∧ (∀ s, s < i → s / 3 < many ∧ ∃ j, j < many ∧ A 37 s = nI j ∧ PP m W (rw j) = PP m W (bh (rw (s / 3)) (s % 3)) ∧ rw j ≤ bh (rw (s / 3)) (s % 3))
theorem bi_inj {m : Nat} {W : tW} {A : tA2} {many i : Nat} {rw : Nat → Nat} (h : BI m W A many i rw) {j j' : Nat} (hj : j < many) (hj' : j' < many) (e : PP m W (rw j) = PP m W (rw j')) : j = j' := by
  obtain ⟨b1, b2, b3, b4, b5, b6, b7, b8⟩ := h
  have e1 := (b4 j hj).2
  have e2 := (b4 j' hj').2
  rw [e, e2] at e1
  exact ((nI_eq (by omega) (by omega)).mp e1).symm
/-- a point found before a step has a row not behind the step's row -/
theorem bi_old {m : Nat} {W : tW} {A : tA2} {many p c : Nat} {rw : Nat → Nat} (h : BI m W A many (3 * p + c) rw) (hp : p < many) (hc : c < 3) {j : Nat} (hj : j < many) : rw j < bh (rw p) c := by
  obtain ⟨b1, b2, b3, b4, b5, b6, b7, b8⟩ := h
  by_cases e : j = 0
  · subst e; rw [b3]; unfold bh; omega
  · obtain ⟨p', c', h1, h2, h3, h4, h5⟩ := b6 j (by omega) hj
    rw [h3]
    unfold bh
    rcases Nat.lt_or_ge p' p with z | z
    · have := b7 p' p z hp; omega
    · have : p' = p := by omega
      subst this
      omega
section PT
variable {B : tB2} {q : tQ} {F : Nat}
theorem mx0 {j : Nat} (h : j < 2 ^ 31) : (if (0 : Int32) < nI j then nI j else 0) = nI j := by
  by_cases e : j = 0
  · subst e; rfl
  · rw [if_pos (show (0 : Int32) < nI j from (nI_ltI (a := 0) (by omega) (by omega)).mpr (by omega))]
theorem x2_find_in {A V : tA2} {X j : Nat} {st : Int32} (hX : X < 640) (hj : j < 320) (h : A 34 X = nI j) : x_X2_find F (mk A B V q) 33 (nI X) st = some (nI j, mk A B V q) := by
  have hi : inb (nI X) 640 = true := inb_nI hX (by omega)
  unfold x_X2_find x_X2_find_61
  rw [c_33, bs, r_33_0, bs, l_34 hi, bs, tn (by omega), h, if_neg (nI_n9 (by omega)), bs, l_34 hi, bs, tn (by omega), h, mx0 (by omega)]
theorem x2_find_new {A V : tA2} {X many : Nat} {st : Int32} (hX : X < 640) (hm : many < 320) (h : A 34 X = -9) (hV : V 33 5 = nI many) : x_X2_find F (mk A B V q) 33 (nI X) st = some (nI many, mk (u2 (u2 (u2 A 34 X (nI many)) 35 many (nI X)) 36 many st) B (u2 V 33 5 (nI (many + 1))) q) := by
  have hi : inb (nI X) 640 = true := inb_nI hX (by omega)
  have hi3 : inb (nI many) 320 = true := inb_nI hm (by omega)
  have tX : (nI X).toNatClampNeg = X := tn (by omega)
  have tm : (nI many).toNatClampNeg = many := tn (by omega)
  unfold x_X2_find x_X2_find_61
  rw [c_33, bs, r_33_0, bs, l_34 hi, bs, tX, h, if_pos rfl, g_33_5, bs, hV, if_neg (show ¬ (320 : Int32) ≤ nI many from fun z => by have := (nI_leI (a := 320) (by omega) (by omega)).mp z; omega), bs, bs, s_34 hi, bs, r_33_1, bs, g_33_5, bs, hV, s_35 hi3, bs, r_33_2, bs, g_33_5, bs, hV, s_36 hi3, bs, g_33_5, bs, hV, nI_1, w_33_5, bs, r_33_0, bs, l_34 hi, bs, tX, tm, u2_p _ _ (by omega), u2_p _ _ (by omega), u2_s, mx0 (by omega)]
theorem x2_pointAfter {A V : tA2} {m : Nat} {W : tW} (h : okL m W) (hK : netK A m W 40) (hV : V 27 5 = nI (fll m)) {many i : Nat} {rw : Nat → Nat} (hB : BI m W A many i rw) {p c : Nat} (hp : p < many) (hc : c < 3) : x_X2_pointAfter F (mk A B V q) 33 27 (nI p) (nI c) = if ST m W (rw p) = fll m then some (nI p, mk A B V q) else (x_X2_find F (mk A B V q) 33 (nI (PP m W (bh (rw p) c))) (nI (3 * p + c))).bind fun v1 => some (v1.1, v1.2) := by
  have hm := h.1
  obtain ⟨b1, b2, b3, b4, b5, b6, b7, b8⟩ := hB
  have hP := PP_lt h (rw p)
  have h35 := (b4 p hp).1
  have sl := ST_lt hm (W := W) (rw p)
  have hfl := fll_lt hm
  unfold x_X2_pointAfter x_X2_pointAfter_69 x_X1_behind
  rw [c_33, bs, r_33_1, bs, l_35 (inb_nI (by omega) (by omega)), bs, tn (by omega), h35, d16 (by omega), bs, bs, l_35 (inb_nI (by omega) (by omega)), bs, tn (by omega), h35, g_27_5, bs, hV, r16 (by omega), PP_mod hm]
  by_cases e : ST m W (rw p) = fll m
  · rw [if_pos (by rw [e]), if_pos e]
  · rw [if_neg (nI_eq' (by omega) (by omega) e), if_neg e]
    have e2 : PP m W (rw p) / 16 = ph m W (rw p) := by unfold PP; rw [if_neg e]; omega
    have hst := ph_st (m := m) (W := W) (r := rw p)
    have hs40 := st_lt h hst
    have hk : bh (ph m W (rw p)) c < 121 := by unfold bh; omega
    obtain ⟨k1, k2⟩ := hK _ hs40 hst c hc
    have ebh : (3 : Int32) * nI (ph m W (rw p)) + 1 + nI c = nI (bh (ph m W (rw p)) c) := by rw [n3, nI_1, nI_add]; rfl
    have hHS := HS_lt hm W (bh (ph m W (rw p)) c)
    have ho := or_lt16 sl hHS
    rw [e2, ebh, r_27_1, bs, l_29 (inb_nI hk (by omega)), bs, tn (by omega), k1, bs, nIor, r_27_2, bs, l_30 (inb_nI hk (by omega)), bs, tn (by omega), k2, n3, nI_add]
    have est : (ST m W (rw p) ||| HS m W (bh (ph m W (rw p)) c)) = ST m W (bh (rw p) c) := by rw [HS_ph h hc, ST_bh hc]
    rw [est] at ho ⊢
    have ept : PP m W (bh (rw p) c) = if ST m W (bh (rw p) c) = fll m then fll m else 16 * ph m W (bh (rw p) c) + ST m W (bh (rw p) c) := rfl
    by_cases e3 : ST m W (bh (rw p) c) = fll m
    · rw [if_pos (by rw [e3]), ept, if_pos e3, e3]
      rw [show (0 : Int32) * 16 + nI (fll m) = nI (fll m) by rw [show (0 : Int32) * 16 = nI 0 from rfl, nI_add, Nat.zero_add]]
    · have hst2 := st_lt h (ph_st (m := m) (W := W) (r := bh (rw p) c))
      rw [if_neg (nI_eq' (by omega) (by omega) e3), ept, if_neg e3, ph_bh h hc]
      rw [show nI (ph m W (bh (rw p) c)) * 16 + nI (ST m W (bh (rw p) c)) = nI (16 * ph m W (bh (rw p) c) + ST m W (bh (rw p) c)) by rw [show (16 : Int32) = nI 16 from rfl, pk_mul, nI_add, Nat.mul_comm]]
def agP (A A' : tA2) : Prop := ∀ p, ¬ (34 ≤ p ∧ p ≤ 37) → A' p = A p
theorem bi_step {A V : tA2} {m : Nat} {W : tW} (h : okL m W) (hK : netK A m W 40) (hV : V 27 5 = nI (fll m)) {many : Nat} {rw : Nat → Nat} {p c : Nat} (hB : BI m W A many (3 * p + c) rw) (hM : V 33 5 = nI many) (hp : p < many) (hc : c < 3) : ∃ A' many' rw' j, x_X2_pointAfter F (mk A B V q) 33 27 (nI p) (nI c) = some (nI j, mk A' B (u2 V 33 5 (nI many')) q) ∧ agP A A' ∧ many ≤ many' ∧ j < 320 ∧ BI m W (u2 A' 37 (3 * p + c) (nI j)) many' (3 * p + c + 1) rw' := by
  have hm := h.1
  rw [x2_pointAfter h hK hV hB hp hc]
  have hB0 := hB
  have selfV : u2 V 33 5 (nI many) = V := by rw [← hM]; exact u2_self _ _ _
  have hX := PP_lt h (bh (rw p) c)
  have s1 : (3 * p + c) / 3 = p := by omega
  have s2 : (3 * p + c) % 3 = c := by omega
  obtain ⟨b1, b2, b3, b4, b5, b6, b7, b8⟩ := hB
  -- the step goes to a point that is there
  have old : ∀ j, j < many → PP m W (rw j) = PP m W (bh (rw p) c) → BI m W (u2 A 37 (3 * p + c) (nI j)) many (3 * p + c + 1) rw := by
    intro j hj e
    refine ⟨b1, b2, b3, fun j' hj' => ?_, fun x hx hn => ?_, fun j' h1 h2 => ?_, b7, fun s hs => ?_⟩
    · rw [u2_p _ _ (by omega), u2_p _ _ (by omega)]; exact b4 j' hj'
    · rw [u2_p _ _ (by omega)]; exact b5 x hx hn
    · obtain ⟨p', c', y1, y2, y3, y4, y5⟩ := b6 j' h1 h2
      exact ⟨p', c', y1, y2, y3, by rw [u2_p _ _ (by omega)]; exact y4, by omega⟩
    · by_cases es : s = 3 * p + c
      · subst es
        rw [s1, s2]
        exact ⟨hp, j, hj, u2_s _ _ _ _, e, Nat.le_of_lt (bi_old hB0 hp hc hj)⟩
      · obtain ⟨y1, j', y2, y3, y4, y5⟩ := b8 s (by omega)
        exact ⟨y1, j', y2, by rw [u2_k _ _ es]; exact y3, y4, y5⟩
  by_cases e : ST m W (rw p) = fll m
  · rw [if_pos e]
    refine ⟨A, many, rw, p, by rw [selfV], fun _ _ => rfl, Nat.le_refl _, by omega, old p hp ?_⟩
    have e2 : ST m W (bh (rw p) c) = fll m := by rw [ST_bh hc]; exact or_fll e (fun i hi => HS_bit hi)
    rw [(PP_fll hm).mpr e, (PP_fll hm).mpr e2]
  · rw [if_neg e]
    by_cases hf : ∃ j, j < many ∧ PP m W (rw j) = PP m W (bh (rw p) c)
    · obtain ⟨j, hj, ej⟩ := hf
      refine ⟨A, many, rw, j, ?_, fun _ _ => rfl, Nat.le_refl _, by omega, old j hj ej⟩
      rw [x2_find_in hX (show j < 320 by omega) (by rw [← ej]; exact (b4 j hj).2), bs, selfV]
    · have hno : ∀ j, j < many → PP m W (rw j) ≠ PP m W (bh (rw p) c) := fun j hj z => hf ⟨j, hj, z⟩
      have h9 := b5 _ hX hno
      obtain ⟨rw', hrw⟩ : ∃ rw' : Nat → Nat, rw' = va_up rw many (bh (rw p) c) := ⟨_, rfl⟩
      have ro : ∀ j, j < many → rw' j = rw j := fun j hj => by rw [hrw, up_ne _ _ (by omega)]
      have rn : rw' many = bh (rw p) c := by rw [hrw, up_at]
      have hlt : many < 320 := by
        have := few h (n := many + 1) (rw := rw') (fun i j hij hj e => by
          by_cases ej : j = many
          · subst ej
            rw [rn, ro i hij] at e
            exact hno i hij e
          · rw [ro i (by omega), ro j (by omega)] at e
            have := bi_inj hB0 (show i < many by omega) (show j < many by omega) e
            omega)
        omega
      refine ⟨_, many + 1, rw', many, by rw [x2_find_new hX hlt h9 hM, bs], fun x hx => by rw [u2_pp _ _ (by omega), u2_pp _ _ (by omega), u2_pp _ _ (by omega)], by omega, hlt, ?_⟩
      refine ⟨by omega, by omega, by rw [ro 0 (by omega)]; exact b3, fun j hj => ?_, fun x hx hn => ?_, fun j h1 h2 => ?_, fun j j' h1 h2 => ?_, fun s hs => ?_⟩
      · rw [u2_p _ _ (show 35 ≠ 37 by omega), u2_p _ _ (show 35 ≠ 36 by omega), u2_p _ _ (show 34 ≠ 37 by omega), u2_p _ _ (show 34 ≠ 36 by omega), u2_p _ _ (show 34 ≠ 35 by omega)]
        by_cases ej : j = many
        · subst ej
          rw [rn, u2_s, u2_s]
          exact ⟨rfl, rfl⟩
        · rw [ro j (by omega), u2_k _ _ ej, u2_p _ _ (by omega), u2_k _ _ (hno j (by omega))]
          exact b4 j (by omega)
      · rw [u2_p _ _ (by omega), u2_p _ _ (by omega), u2_p _ _ (by omega)]
        have := hn many (by omega)
        rw [rn] at this
        rw [u2_k _ _ (fun z => this z.symm)]
        exact b5 x hx (fun j hj => by have := hn j (by omega); rwa [ro j hj] at this)
      · rw [u2_p _ _ (by omega)]
        by_cases ej : j = many
        · subst ej
          exact ⟨p, c, hp, hc, by rw [rn, ro p hp], by rw [u2_s], by omega⟩
        · obtain ⟨p', c', y1, y2, y3, y4, y5⟩ := b6 j h1 (by omega)
          exact ⟨p', c', y1, y2, by rw [ro j (by omega), ro p' (by omega)]; exact y3, by rw [u2_k _ _ ej, u2_p _ _ (by omega), u2_p _ _ (by omega)]; exact y4, by omega⟩
      · by_cases ej : j' = many
        · subst ej
          rw [rn, ro j h1]
          exact bi_old hB0 hp hc h1
        · rw [ro j (by omega), ro j' (by omega)]
          exact b7 j j' h1 (by omega)
      · by_cases es : s = 3 * p + c
        · subst es
          rw [s1, s2]
          exact ⟨by omega, many, by omega, u2_s _ _ _ _, by rw [rn, ro p hp], by rw [rn, ro p hp]; exact Nat.le_refl _⟩
        · obtain ⟨y1, j', y2, y3, y4, y5⟩ := b8 s (by omega)
          refine ⟨by omega, j', by omega, by rw [u2_k _ _ es, u2_p _ _ (by omega), u2_p _ _ (by omega), u2_p _ _ (by omega)]; exact y3, ?_, ?_⟩
          · rw [ro j' y2, ro _ y1]; exact y4
          · rw [ro j' y2, ro _ y1]; exact y5
theorem netK_c {A A' : tA2} {m : Nat} {W : tW} {n : Nat} (h : netK A m W n) (h1 : A' 29 = A 29) (h2 : A' 30 = A 30) : netK A' m W n := fun s hs hst c hc => by rw [h1, h2]; exact h s hs hst c hc
theorem x2_lay_in {m : Nat} {W : tW} (h : okL m W) {p : Nat} (hF : 10 ≤ F) (k23 : pH → Int32 → Option pH) : ∀ (d u c : Nat) (A V : tA2) (many : Nat) (rw : Nat → Nat), c + d = 3 → d < u → netK A m W 40 → V 27 5 = nI (fll m) → V 33 5 = nI many → p < many → BI m W A many (3 * p + c) rw → ∃ A' many' rw', x_X2_lay_40 F k23 33 27 (nI p) u (mk A B V q) (nI c) = k23 (mk A' B (u2 V 33 5 (nI many')) q) (nI (p + 1)) ∧ agP A A' ∧ many ≤ many' ∧ BI m W A' many' (3 * (p + 1)) rw' := by
  intro d
  induction d with
  | zero =>
    intro u c A V many rw hc hu hK hV hM hp hB
    obtain ⟨u, rfl⟩ : ∃ z, u = z + 1 := ⟨u - 1, by omega⟩
    have selfV : u2 V 33 5 (nI many) = V := by rw [← hM]; exact u2_self _ _ _
    refine ⟨A, many, rw, ?_, fun _ _ => rfl, Nat.le_refl _, by rw [show 3 * (p + 1) = 3 * p + c by omega]; exact hB⟩
    show s_X2_lay_40 _ _ _ _ _ _ _ _ = _
    unfold s_X2_lay_40
    rw [show c = 3 by omega, if_pos (by decide), nI_1, selfV]
  | succ d ih =>
    intro u c A V many rw hc hu hK hV hM hp hB
    obtain ⟨u, rfl⟩ : ∃ z, u = z + 1 := ⟨u - 1, by omega⟩
    have p320 : p < 320 := by have := hB.2.1; omega
    obtain ⟨A1, many1, rw1, j, e1, e2, e3, e4, e5⟩ := bi_step (B := B) (q := q) (F := F) h hK hV hB hM hp (show c < 3 by omega)
    obtain ⟨A', many', rw', i1, i2, i3, i4⟩ := ih u (c + 1) (u2 A1 37 (3 * p + c) (nI j)) (u2 V 33 5 (nI many1)) many1 rw1 (by omega) (by omega) (netK_c hK (by rw [u2_pp _ _ (by omega), e2 _ (by omega)]) (by rw [u2_pp _ _ (by omega), e2 _ (by omega)])) (by rw [u2_p _ _ (by omega)]; exact hV) (u2_s _ _ _ _) (by omega) e5
    rw [u2_u2] at i1
    refine ⟨A', many', rw', ?_, fun x hx => by rw [i2 x hx, u2_pp _ _ (by omega), e2 x hx], by omega, i4⟩
    show s_X2_lay_40 _ _ _ _ _ _ _ _ = _
    unfold s_X2_lay_40
    rw [if_neg (show ¬ (3 : Int32) ≤ nI c from fun z => by have := (nI_leI (a := 3) (by omega) (by omega)).mp z; omega), r_33_3, bs, e1, bs]
    dsimp only
    rw [n3, nI_add, s_37 (inb_nI (by omega) (by omega)), bs, tn (by omega), nI_1]
    exact i1
theorem x2_lay_out {m : Nat} {W : tW} (h : okL m W) (hF : 10 ≤ F) : ∀ (d u p : Nat) (A V : tA2) (many : Nat) (rw : Nat → Nat), p + d = 320 → d < u → netK A m W 40 → V 27 5 = nI (fll m) → V 33 5 = nI many → p ≤ many → BI m W A many (3 * p) rw → ∃ A' many' rw', x_X2_lay_23 F 33 27 u (mk A B V q) (nI p) = x_X2_lay_74 F (mk A' B (u2 V 33 5 (nI many')) q) 33 27 ∧ agP A A' ∧ BI m W A' many' (3 * many') rw' := by
  intro d
  induction d with
  | zero =>
    intro u p A V many rw hc hu hK hV hM hp hB
    obtain ⟨u, rfl⟩ : ∃ z, u = z + 1 := ⟨u - 1, by omega⟩
    have selfV : u2 V 33 5 (nI many) = V := by rw [← hM]; exact u2_self _ _ _
    have := hB.2.1
    refine ⟨A, many, rw, ?_, fun _ _ => rfl, by rw [show many = p by omega] at hB ⊢; exact hB⟩
    show s_X2_lay_23 _ _ _ _ _ _ = _
    unfold s_X2_lay_23
    rw [g_33_5, bs, hM, if_pos ((nI_leI (by omega) (by omega)).mpr (by omega)), selfV]
  | succ d ih =>
    intro u p A V many rw hc hu hK hV hM hp hB
    obtain ⟨u, rfl⟩ : ∃ z, u = z + 1 := ⟨u - 1, by omega⟩
    have selfV : u2 V 33 5 (nI many) = V := by rw [← hM]; exact u2_self _ _ _
    have m320 := hB.2.1
    by_cases e : p = many
    · refine ⟨A, many, rw, ?_, fun _ _ => rfl, by rw [← e]; rw [← e] at hB; exact hB⟩
      show s_X2_lay_23 _ _ _ _ _ _ = _
      unfold s_X2_lay_23
      rw [g_33_5, bs, hM, if_pos ((nI_leI (by omega) (by omega)).mpr (by omega)), selfV]
    · obtain ⟨A1, many1, rw1, e1, e2, e3, e4⟩ := x2_lay_in (B := B) (q := q) (F := F) h (p := p) hF (x_X2_lay_23 F 33 27 u) 3 F 0 A V many rw (by omega) (by omega) hK hV hM (by omega) (by rw [Nat.add_zero]; exact hB)
      obtain ⟨A', many', rw', i1, i2, i3⟩ := ih u (p + 1) A1 (u2 V 33 5 (nI many1)) many1 rw1 (by omega) (by omega) (netK_c hK (e2 _ (by omega)) (e2 _ (by omega))) (by rw [u2_p _ _ (by omega)]; exact hV) (u2_s _ _ _ _) (by omega) e4
      rw [u2_u2] at i1
      refine ⟨A', many', rw', ?_, fun x hx => by rw [i2 x hx, e2 x hx], i3⟩
      show s_X2_lay_23 _ _ _ _ _ _ = _
      unfold s_X2_lay_23
      rw [g_33_5, bs, hM, if_neg (fun z => by have := (nI_leI (by omega) (by omega)).mp z; omega), if_neg (show ¬ (320 : Int32) ≤ nI p from fun z => by have := (nI_leI (a := 320) (by omega) (by omega)).mp z; omega)]
      rw [nI_0] at e1
      rw [e1]
      exact i1
end PT
