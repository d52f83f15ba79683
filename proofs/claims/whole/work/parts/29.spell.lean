/-! steps: sheet, spell, copy -/
section ST4
variable {NO : tNO} {SS : (Nat → Int32) → Prop} {F : Nat}
theorem step_sheet (hNO : NOf NO) (hF : 70 ≤ F) : st_sheet (InvH NO SS) F := by
  intro h a1 a2 a3 hI
  obtain ⟨A, B, V, q, m, kd, ln, lt, rfl, hI⟩ := hI
  have hI0 := hI
  obtain ⟨hq, hW, hS, hZ, hR, hT, hSS, hN⟩ := hI
  have ff := fun x => inv_fault hNO hI0 x
  cases hb : inb a1 4
  · refine ⟨(-1, mk A B (u2 V 0 16 0) q), (-1, mk A B (u2 (u2 V 0 16 0) 68 0 0) q), ?_, ?_, rfl, A, B, _, q, m, kd, ln, lt, rfl, ff 0⟩
    · unfold x_X7_sheet
      rw [c_0, bs, w_0_16, bs, x7_isSheet, bs, hb, if_pos cI_f]
    · unfold x_X8_sheet
      rw [c_68, bs, w_68_0, bs, x8_isSheet, bs, hb, if_pos cI_f]
  · obtain ⟨k, hk, rfl⟩ := inb_ex hb (by omega)
    have hs := isS_k hk
    have hi : inb (nI k) 4 = true := hb
    have tk : (nI k).toNatClampNeg = k := tn (by omega)
    cases hb2 : inb a2 3
    · refine ⟨(-2, mk A B (u2 V 0 16 0) q), (-2, mk A B (u2 (u2 V 0 16 0) 68 0 0) q), ?_, ?_, rfl, A, B, _, q, m, kd, ln, lt, rfl, ff 0⟩
      · unfold x_X7_sheet
        rw [c_0, bs, w_0_16, bs, x7_isSheet, bs, hb, if_neg (by decide), show (3 : Int32) = nI 3 from rfl, x7_isBelow (by omega), bs, hb2, if_pos cI_f]
      · unfold x_X8_sheet
        rw [c_68, bs, w_68_0, bs, x8_isSheet, bs, hb, if_neg (by decide), x8_isSort, bs, hb2, if_pos cI_f]
    · obtain ⟨la, hla, rfl⟩ := inb_ex hb2 (by omega)
      have b3 := x7_isBelow (F := F) (h := mk A B (u2 V 0 16 0) q) (a := nI la) (n := 3) (by omega)
      by_cases h60 : a3 ≤ 60
      · by_cases h0 : 0 ≤ a3
        · obtain ⟨l, hl, rfl⟩ : ∃ l, l ≤ 60 ∧ a3 = nI l := by
            have e1 : (0 : Int) ≤ a3.toInt := by have := Int32.le_iff_toInt_le.mp h0; rwa [i0] at this
            have e2 : a3.toInt ≤ 60 := by have := Int32.le_iff_toInt_le.mp h60; exact this
            obtain ⟨l, hl, e⟩ := inb_ex (inb_iff.mpr ⟨e1, (by omega : a3.toInt < (61 : Nat))⟩) (by omega)
            exact ⟨l, by omega, e⟩
          have e45 : 44 + 2 * k + 1 = 45 + 2 * k := by omega
          refine ⟨(1, mk (va_up A (45 + 2 * k) (fil (A (45 + 2 * k)) 0 60 0)) B (u2 (u2 (u2 (u2 V 0 16 0) (44 + 2 * k) 1 1) (44 + 2 * k) 2 (nI la)) (44 + 2 * k) 3 (nI l)) q), (1, mk (va_up (u2 (u2 (va_up A (45 + 2 * k) (fil (A (45 + 2 * k)) 0 60 0)) 69 k (nI la)) 70 k (nI l)) 71 (fil (A 71) (60 * k) (60 * k + 60) 0)) B (u2 (u2 (u2 (u2 (u2 V 0 16 0) (44 + 2 * k) 1 1) (44 + 2 * k) 2 (nI la)) (44 + 2 * k) 3 (nI l)) 68 0 0) q), ?_, ?_, rfl, _, B, _, q, m, kd, ln, lt, rfl, ?_⟩
          · unfold x_X7_sheet x_X4_begin
            rw [c_0, bs, w_0_16, bs, x7_isSheet, bs, hb, if_neg (by decide), show (3 : Int32) = nI 3 from rfl, b3, bs, hb2, if_neg (by decide), if_pos h60, if_pos h0, r_0_0, bs, l_sh hk, bs, cS hs, bs, zS1 hs (Or.inr rfl), bs, wS2 hs, bs, wS3 hs, bs, rS hs, bs, x_fill (saS hs) (by omega) 0 (by omega), bs, bs, e45]
          · unfold x_X8_sheet
            rw [c_68, bs, w_68_0, bs, x8_isSheet, bs, hb, if_neg (by decide), x8_isSort, bs, hb2, if_neg (by decide), if_pos h60, if_pos h0, r_68_2, bs, s_69 hi, bs, r_68_3, bs, s_70 hi, bs, tk, show (0 : Int32) = nI 0 from rfl, x8_sh_loop hk 60 F 0 _ (by omega) (by omega)]
            rw [Nat.add_zero, u2_pp (p' := 71) _ _ (by omega), u2_pp (p' := 71) _ _ (by omega), up_ne _ _ (show 71 ≠ 45 + 2 * k by omega)]
            rfl
          · have nv : ∀ p j, p ≠ 0 → p ≠ 68 → p ≠ 44 + 2 * k → u2 (u2 (u2 (u2 (u2 V 0 16 0) (44 + 2 * k) 1 1) (44 + 2 * k) 2 (nI la)) (44 + 2 * k) 3 (nI l)) 68 0 0 p j = V p j := fun p j h1 h2 h3 => by rw [u2_p _ _ h2, u2_p _ _ h3, u2_p _ _ h3, u2_p _ _ h3, u2_p _ _ h1]
            refine inv_sh hNO hI0 (fun p h1 h2 h3 h4 => by rw [up_ne _ _ h4, u2_pp _ _ h3, u2_pp _ _ h2, up_ne _ _ (by omega)]) (fun p j h1 h2 h3 => by rw [u2_ne h3, u2_p _ _ (by omega), u2_p _ _ (by omega), u2_p _ _ (by omega), u2_ne h2]) (by rw [u2_ne (p' := 0) (by omega), u2_p _ _ (by omega), u2_p _ _ (by omega), u2_p _ _ (by omega), u2_s, u2_s]) ?_
            intro k2 hk2
            obtain ⟨y1, y2, y3⟩ := hS k2 hk2
            by_cases e : k2 = k
            · subst e
              refine ⟨⟨l, hl, ?_, ?_⟩, Or.inr ⟨?_, la, hla, ?_, ?_⟩, fun i hi3 => ?_⟩
              · rw [u2_p _ _ (by omega), u2_s]
              · rw [up_ne _ _ (by omega), u2_s]
              · rw [u2_p _ _ (by omega), u2_k _ _ (by omega), u2_k _ _ (by omega), u2_s]
              · rw [u2_p _ _ (by omega), u2_k _ _ (by omega), u2_s]
              · rw [up_ne _ _ (by omega), u2_p _ _ (by omega), u2_s]
              · rw [up_at, up_ne _ _ (by omega), u2_pp _ _ (by omega), u2_pp _ _ (by omega), up_at]
                simp only [fil]
                rw [if_pos (by omega), if_pos (by omega)]
            · rw [nv _ _ (by omega) (by omega) (by omega), nv _ _ (by omega) (by omega) (by omega), nv _ _ (by omega) (by omega) (by omega)]
              refine ⟨?_, ?_, fun i hi3 => ?_⟩
              · rw [up_ne _ _ (show 70 ≠ 71 by omega), u2_k _ _ e, u2_p _ _ (by omega), up_ne _ _ (by omega)]
                exact y1
              · rw [up_ne _ _ (show 69 ≠ 71 by omega), u2_p _ _ (by omega), u2_k _ _ e, up_ne _ _ (by omega)]
                exact y2
              · rw [up_at, up_ne _ _ (by omega), u2_pp _ _ (by omega), u2_pp _ _ (by omega), up_ne _ _ (by omega)]
                simp only [fil]
                rw [if_neg (by omega)]
                exact y3 i hi3
        · refine ⟨(-14, mk A B (u2 V 0 16 4) q), (-14, mk A B (u2 (u2 V 0 16 4) 68 0 4) q), ?_, ?_, rfl, A, B, _, q, m, kd, ln, lt, rfl, ff 4⟩
          · unfold x_X7_sheet
            rw [c_0, bs, w_0_16, bs, x7_isSheet, bs, hb, if_neg (by decide), show (3 : Int32) = nI 3 from rfl, b3, bs, hb2, if_neg (by decide), if_pos h60, if_neg h0, x7_failWith, bs, u2_u2]
            rfl
          · unfold x_X8_sheet
            rw [c_68, bs, w_68_0, bs, x8_isSheet, bs, hb, if_neg (by decide), x8_isSort, bs, hb2, if_neg (by decide), if_pos h60, if_neg h0, x8_fails, bs, u2_u2]
            rfl
      · refine ⟨(-2, mk A B (u2 V 0 16 0) q), (-2, mk A B (u2 (u2 V 0 16 0) 68 0 0) q), ?_, ?_, rfl, A, B, _, q, m, kd, ln, lt, rfl, ff 0⟩
        · unfold x_X7_sheet
          rw [c_0, bs, w_0_16, bs, x7_isSheet, bs, hb, if_neg (by decide), show (3 : Int32) = nI 3 from rfl, b3, bs, hb2, if_neg (by decide), if_neg h60]
        · unfold x_X8_sheet
          rw [c_68, bs, w_68_0, bs, x8_isSheet, bs, hb, if_neg (by decide), x8_isSort, bs, hb2, if_neg (by decide), if_neg h60]
theorem step_spell (hNO : NOf NO) : st_spell (InvH NO SS) F := by
  intro h a1 a2 a3 hI
  obtain ⟨A, B, V, q, m, kd, ln, lt, rfl, hI⟩ := hI
  have hI0 := hI
  obtain ⟨hq, hW, hS, hZ, hR, hT, hSS, hN⟩ := hI
  obtain ⟨hm, v1, v2, hX, hM, hL⟩ := id hW
  cases hb : inb a1 m
  · refine ⟨(-1, mk A B V q), (-1, mk A B V q), ?_, ?_, rfl, A, B, _, q, m, kd, ln, lt, rfl, hI0⟩
    · unfold x_X7_spell
      rw [c_0, bs, x7_isWord v1 hm, bs, hb, if_pos cI_f]
    · unfold x_X8_spell
      rw [c_68, bs, x8_isWord v2 hm, bs, hb, if_pos cI_f]
  · obtain ⟨w, hw, rfl⟩ := inb_ex hb (by omega)
    have b3 := wpl_b hq (show w < 4 by omega)
    obtain ⟨w1, w2, w3, w4, w5, w6, w7⟩ := hX w hw
    obtain ⟨m1, m2, m3, m4, m5, m6⟩ := hM w hw
    have hi : inb (nI w) 4 = true := inb_nI (by omega) (by omega)
    have tw : (nI w).toNatClampNeg = w := tn (by omega)
    cases hb2 : inb a2 (ln w)
    · refine ⟨(-1, mk A B V q), (-1, mk A B V q), ?_, ?_, rfl, A, B, _, q, m, kd, ln, lt, rfl, hI0⟩
      · unfold x_X7_spell
        rw [c_0, bs, x7_isWord v1 hm, bs, hb, if_neg (by decide), r_0_2, bs, l_kn (okQ_kn hq) (by omega), bs, gW1 w1, bs, w3, x7_isBelow (by omega), bs, hb2, if_pos cI_f]
      · unfold x_X8_spell
        rw [c_68, bs, x8_isWord v2 hm, bs, hb, if_neg (by decide), r_68_8, bs, l_73 hi, bs, tw, m2, x8_within (n := ln w) (nI_m1 (by omega)), bs, hb2, if_pos cI_f]
    · obtain ⟨k, hk, rfl⟩ := inb_ex hb2 (by omega)
      cases hb3 : inb a3 3
      · refine ⟨(-2, mk A B V q), (-2, mk A B V q), ?_, ?_, rfl, A, B, _, q, m, kd, ln, lt, rfl, hI0⟩
        · unfold x_X7_spell
          rw [c_0, bs, x7_isWord v1 hm, bs, hb, if_neg (by decide), r_0_2, bs, l_kn (okQ_kn hq) (by omega), bs, gW1 w1, bs, w3, x7_isBelow (by omega), bs, hb2, if_neg (by decide), show (3 : Int32) = nI 3 from rfl, x7_isBelow (by omega), bs, hb3, if_pos cI_f]
        · unfold x_X8_spell
          rw [c_68, bs, x8_isWord v2 hm, bs, hb, if_neg (by decide), r_68_8, bs, l_73 hi, bs, tw, m2, x8_within (n := ln w) (nI_m1 (by omega)), bs, hb2, if_neg (by decide), x8_within (n := 3) rfl, bs, hb3, if_pos cI_f]
      · obtain ⟨c, hc, rfl⟩ := inb_ex hb3 (by omega)
        have hk4 : inb (nI k) 4 = true := inb_nI (by omega) (by omega)
        have hk16 : inb (nI (4 * w + k)) 16 = true := inb_nI (by omega) (by omega)
        refine ⟨(lt w k, mk (u2 A (wpl q.1 w + 1) k (nI c)) B (u2 V 0 14 1) q), (lt w k, mk (u2 (u2 A (wpl q.1 w + 1) k (nI c)) 74 (4 * w + k) (nI c)) B (u2 V 0 14 1) q), ?_, ?_, rfl, _, B, _, q, m, kd, ln, u2 lt w k (nI c), rfl, ?_⟩
        · unfold x_X7_spell
          rw [c_0, bs, x7_isWord v1 hm, bs, hb, if_neg (by decide), r_0_2, bs, l_kn (okQ_kn hq) (by omega), bs, gW1 w1, bs, w3, x7_isBelow (by omega), bs, hb2, if_neg (by decide), show (3 : Int32) = nI 3 from rfl, x7_isBelow (by omega), bs, hb3, if_neg (by decide), bs, l_kn (okQ_kn hq) (by omega), bs, rW w1, bs, lW w1 hk4, bs, bs, l_kn (okQ_kn hq) (by omega), bs, rW w1, bs, sW w1 hk4, bs, z_0_14_1, bs, tn (by omega), w7 k hk]
        · unfold x_X8_spell
          have e7 : ∀ p, p = 73 ∨ p = 74 → u2 A (wpl q.1 w + 1) k (nI c) p = A p := fun p hp => u2_pp _ _ (by omega)
          rw [c_68, bs, x8_isWord (by rw [u2_p _ _ (by omega)]; exact v2) hm, bs, hb, if_neg (by decide), r_68_8, bs, l_73 hi, bs, tw, e7 73 (by omega), m2, x8_within (n := ln w) (nI_m1 (by omega)), bs, hb2, if_neg (by decide), x8_within (n := 3) rfl, bs, hb3, if_neg (by decide), r_68_9, bs, n4, nI_add, l_74 hk16, bs, bs, s_74 hk16, bs, tn (by omega), e7 74 (by omega), m6 k hk]
        · have eA : ∀ p, p ≠ 74 → p ≠ wpl q.1 w + 1 → u2 (u2 A (wpl q.1 w + 1) k (nI c)) 74 (4 * w + k) (nI c) p = A p := fun p h1 h2 => by rw [u2_pp _ _ h1, u2_pp _ _ h2]
          have eV : ∀ p j, ¬ (p = 0 ∧ j = 14) → u2 V 0 14 1 p j = V p j := fun p j h1 => u2_ne h1
          have eVp : ∀ p, p ≠ 0 → u2 V 0 14 1 p = V p := fun p h1 => u2_pp _ _ h1
          refine ⟨hq, ⟨hm, by rw [eV _ _ (by omega)]; exact v1, by rw [eV _ _ (by omega)]; exact v2, fun w' hw' => ?_, fun w' hw' => ?_, fun w' hw' j hj => ?_⟩, SI_c hS (fun p h1 h2 => ⟨eA p (by omega) (by omega), eVp p (by omega)⟩) (eA _ (by omega) (by omega)) (eA _ (by omega) (by omega)) (eA _ (by omega) (by omega)), ZI_c hZ (eA _ (by omega) (by omega)) (eA _ (by omega) (by omega)) (eV _ _ (by omega)) (eV _ _ (by omega)), RI_c hR (fun p h1 h2 => ⟨eA p (by omega) (by omega), eVp p (by omega)⟩) (fun p h1 h2 => eA p (by omega) (by omega)) (eV _ _ (by omega)) (eV _ _ (by omega)), TI_c hT (eV _ _ (by omega)) (eV _ _ (by omega)) (eV _ _ (by omega)) (eV _ _ (by omega)), by rw [eA _ (by omega) (by omega)]; exact hSS, Or.inl (u2_s _ _ _ _)⟩
          · obtain ⟨y1, y2, y3, y4, y5, y6, y7⟩ := hX w' hw'
            have b4 := wpl_b hq (show w' < 4 by omega)
            refine ⟨y1, by rw [eV _ _ (by omega)]; exact y2, by rw [eV _ _ (by omega)]; exact y3, y4, y5, y6, fun j hj => ?_⟩
            by_cases e : w' = w ∧ j = k
            · obtain ⟨rfl, rfl⟩ := e
              rw [u2_p (p := 74) _ _ (by omega), u2_s, u2_s]
            · rw [u2_ne (f := lt) e, u2_p (p := 74) _ _ (by omega)]
              rw [u2_ne (by
                rintro ⟨z1, z2⟩
                apply e
                refine ⟨?_, z2⟩
                rcases okQ_kn hq with z | z <;> rw [z] at z1 <;> simp [wpl] at z1 <;> omega)]
              exact y7 j hj
          · obtain ⟨y1, y2, y3, y4, y5, y6⟩ := hM w' hw'
            rw [eA 72 (by omega) (by omega), eA 73 (by omega) (by omega)]
            refine ⟨y1, y2, y3, y4, y5, fun j hj => ?_⟩
            by_cases e : w' = w ∧ j = k
            · obtain ⟨rfl, rfl⟩ := e
              rw [u2_s, u2_s]
            · rw [u2_ne (f := lt) e, u2_k (p := 74) _ _ (by omega), u2_p _ _ (by omega)]
              exact y6 j hj
          · by_cases e : w' = w ∧ j = k
            · obtain ⟨rfl, rfl⟩ := e
              rw [u2_s]; exact ⟨c, hc, rfl⟩
            · rw [u2_ne (f := lt) e]; exact hL w' hw' j hj
end ST4
