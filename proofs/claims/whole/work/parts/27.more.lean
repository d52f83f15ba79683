/-! steps: as, tell, spelt, spell, put, cell, sheet -/
theorem wpl_b {q : tQ} (hq : okQ q) {w : Nat} (hw : w < 4) : 4 ≤ wpl q.1 w ∧ wpl q.1 w ≤ 19 := by
  rcases hq.1 with ⟨z, -⟩ | ⟨z, -⟩ <;> rw [z] <;> simp [wpl] <;> omega
theorem okQ_kn {q : tQ} (hq : okQ q) : q.1 = 3 ∨ q.1 = 12 := by
  rcases hq.1 with ⟨z, -⟩ | ⟨z, -⟩
  · exact Or.inl z
  · exact Or.inr z
section FR2
variable {NO : tNO} {SS : (Nat → Int32) → Prop} {A A' : tA2} {B : tB2} {V V' : tA2} {q : tQ} {m : Nat} {kd ln : Nat → Nat} {lt : Nat → Nat → Int32}
theorem inv_sh (hNO : NOf NO) (hI : InvW NO SS A B V q m kd ln lt) (hA : ∀ p, ¬ (45 ≤ p ∧ p ≤ 51) → p ≠ 69 → p ≠ 70 → p ≠ 71 → A' p = A p) (hV : ∀ p k, ¬ (44 ≤ p ∧ p ≤ 51) → ¬ (p = 0 ∧ k = 16) → ¬ (p = 68 ∧ k = 0) → V' p k = V p k) (hf : V' 0 16 = V' 68 0) (hS' : SI A' V') : InvW NO SS A' B V' q m kd ln lt := by
  obtain ⟨hq, hW, hS, hZ, hR, hT, hSS, hN⟩ := hI
  have vv : ∀ p, ¬ (44 ≤ p ∧ p ≤ 51) → p ≠ 0 → p ≠ 68 → V' p = V p := fun p h1 h2 h3 => by funext k; exact hV p k h1 (by omega) (by omega)
  have aa : ∀ p, ¬ (45 ≤ p ∧ p ≤ 51) → p ≠ 69 ∧ p ≠ 70 ∧ p ≠ 71 → A' p = A p := fun p h1 h2 => hA p h1 h2.1 h2.2.1 h2.2.2
  refine ⟨hq, WI_c hW hq (fun p h1 h2 => ⟨aa p (by omega) (by omega), vv p (by omega) (by omega) (by omega)⟩) (aa _ (by omega) (by omega)) (aa _ (by omega) (by omega)) (aa _ (by omega) (by omega)) (hV _ _ (by omega) (by omega) (by omega)) (hV _ _ (by omega) (by omega) (by omega)), hS', ZI_c hZ (aa _ (by omega) (by omega)) (aa _ (by omega) (by omega)) (hV _ _ (by omega) (by omega) (by omega)) (hV _ _ (by omega) (by omega) (by omega)), RI_c hR (fun p h1 h2 => ⟨aa p (by omega) (by omega), vv p (by omega) (by omega) (by omega)⟩) (fun p h1 h2 => aa p (by omega) (by omega)) (hV _ _ (by omega) (by omega) (by omega)) (hV _ _ (by omega) (by omega) (by omega)), ⟨by rw [hV 0 15 (by omega) (by omega) (by omega), hV 68 1 (by omega) (by omega) (by omega)]; exact hT.1, hf⟩, by rw [aa _ (by omega) (by omega)]; exact hSS, ?_⟩
  rw [hV 0 14 (by omega) (by omega) (by omega)]
  rcases hN with z | ⟨z1, z2⟩
  · exact Or.inl z
  · exact Or.inr ⟨z1, hNO A A' B B V V' q m kd ln lt (fun p h1 h2 => ⟨aa p (by omega) (by omega), rfl, vv p (by omega) (by omega) (by omega)⟩) z2⟩
theorem inv_trace (hNO : NOf NO) (hI : InvW NO SS A B V q m kd ln lt) (hV : ∀ p k, ¬ (p = 0 ∧ k = 15) → ¬ (p = 68 ∧ k = 1) → V' p k = V p k) (hf : V' 0 15 = V' 68 1) : InvW NO SS A B V' q m kd ln lt := by
  have hI0 := hI
  obtain ⟨hq, hW, hS, hZ, hR, hT, hSS, hN⟩ := hI
  refine inv_fld hNO hI0 (fun p k h1 h2 => hV p k (by omega) (by omega)) (hV _ _ (by omega) (by omega)) (hV _ _ (by omega) (by omega)) (hV _ _ (by omega) (by omega)) (ZI_c hZ rfl rfl (hV _ _ (by omega) (by omega)) (hV _ _ (by omega) (by omega))) (RI_c hR (fun p h1 h2 => ⟨rfl, by funext k; exact hV p k (by omega) (by omega)⟩) (fun _ _ _ => rfl) (hV _ _ (by omega) (by omega)) (hV _ _ (by omega) (by omega))) ⟨hf, ?_⟩
  rw [hV 0 16 (by omega) (by omega), hV 68 0 (by omega) (by omega)]; exact hT.2
end FR2
section ST2
variable {NO : tNO} {SS : (Nat → Int32) → Prop} {F : Nat}
theorem step_as (hNO : NOf NO) : st_as (InvH NO SS) F := by
  intro h a1 a2 hI
  obtain ⟨A, B, V, q, m, kd, ln, lt, rfl, hI⟩ := hI
  have hI0 := hI
  obtain ⟨hq, hW, hS, hZ, hR, hT, hSS, hN⟩ := hI
  obtain ⟨hm, v1, v2, hX, hM, hL⟩ := id hW
  have f0 := inv_fault hNO hI0 0
  have f2 := inv_fault hNO hI0 2
  have i7 : ∀ x, x_X7_isWord F (mk A B (u2 V 0 16 x) q) 0 a1 = some (cI (inb a1 m)) := fun x => x7_isWord (by rw [u2_k _ _ (by omega)]; exact v1) hm
  have i8 : ∀ x y, x_X8_isWord F (mk A B (u2 (u2 V 0 16 x) 68 0 y) q) 68 a1 = some (cI (inb a1 m)) := fun x y => x8_isWord (by rw [u2_k _ _ (by omega), u2_p _ _ (by omega)]; exact v2) hm
  cases hb : inb a1 m
  · refine ⟨(-1, mk A B (u2 V 0 16 0) q), (-1, mk A B (u2 (u2 V 0 16 0) 68 0 0) q), ?_, ?_, rfl, A, B, _, q, m, kd, ln, lt, rfl, f0⟩
    · unfold x_X7_as
      rw [c_0, bs, w_0_16, bs, i7, bs, hb, if_pos cI_f]
    · unfold x_X8_as
      rw [c_68, bs, w_68_0, bs, i8, bs, hb, if_pos cI_f]
  · obtain ⟨w, hw, rfl⟩ := inb_ex hb (by omega)
    cases hb2 : inb a2 3
    · refine ⟨(-2, mk A B (u2 V 0 16 0) q), (-2, mk A B (u2 (u2 V 0 16 0) 68 0 0) q), ?_, ?_, rfl, A, B, _, q, m, kd, ln, lt, rfl, f0⟩
      · unfold x_X7_as
        rw [c_0, bs, w_0_16, bs, i7, bs, hb, if_neg (by decide), show (3 : Int32) = nI 3 from rfl, x7_isBelow (by omega), bs, hb2, if_pos cI_f]
      · unfold x_X8_as
        rw [c_68, bs, w_68_0, bs, i8, bs, hb, if_neg (by decide), x8_within (n := 3) rfl, bs, hb2, if_pos cI_f]
    · obtain ⟨k, hk, rfl⟩ := inb_ex hb2 (by omega)
      have b3 := wpl_b hq (show w < 4 by omega)
      obtain ⟨w1, w2, w3, w4, w5, w6, w7⟩ := hX w hw
      obtain ⟨m1, m2, m3, m4, m5, m6⟩ := hM w hw
      have hi : inb (nI w) 4 = true := inb_nI (by omega) (by omega)
      by_cases hlt : kd w < k
      · refine ⟨(-12, mk A B (u2 V 0 16 2) q), (-12, mk A B (u2 (u2 V 0 16 2) 68 0 2) q), ?_, ?_, rfl, A, B, _, q, m, kd, ln, lt, rfl, f2⟩
        · unfold x_X7_as
          rw [c_0, bs, w_0_16, bs, i7, bs, hb, if_neg (by decide), show (3 : Int32) = nI 3 from rfl, x7_isBelow (by omega), bs, hb2, if_neg (by decide), r_0_2, bs, l_kn (okQ_kn hq) (by omega), bs, gW2 w1, bs, u2_p _ _ (by omega), w2, if_pos ((nI_ltI (by omega) (by omega)).mpr hlt), x7_failWith, bs, u2_u2]
          rfl
        · unfold x_X8_as
          rw [c_68, bs, w_68_0, bs, i8, bs, hb, if_neg (by decide), x8_within (n := 3) rfl, bs, hb2, if_neg (by decide), r_68_7, bs, l_72 hi, bs, tn (by omega), m1, if_pos ((nI_ltI (by omega) (by omega)).mpr hlt), x8_fails, bs, u2_u2]
          rfl
      · refine ⟨(1, mk A B (u2 V 0 16 0) q), (1, mk A B (u2 (u2 V 0 16 0) 68 0 0) q), ?_, ?_, rfl, A, B, _, q, m, kd, ln, lt, rfl, f0⟩
        · unfold x_X7_as
          rw [c_0, bs, w_0_16, bs, i7, bs, hb, if_neg (by decide), show (3 : Int32) = nI 3 from rfl, x7_isBelow (by omega), bs, hb2, if_neg (by decide), r_0_2, bs, l_kn (okQ_kn hq) (by omega), bs, gW2 w1, bs, u2_p _ _ (by omega), w2, if_neg (fun z => hlt ((nI_ltI (by omega) (by omega)).mp z))]
        · unfold x_X8_as
          rw [c_68, bs, w_68_0, bs, i8, bs, hb, if_neg (by decide), x8_within (n := 3) rfl, bs, hb2, if_neg (by decide), r_68_7, bs, l_72 hi, bs, tn (by omega), m1, if_neg (fun z => hlt ((nI_ltI (by omega) (by omega)).mp z))]
theorem step_tell (hNO : NOf NO) : st_tell (InvH NO SS) F := by
  intro h a1 hI
  obtain ⟨A, B, V, q, m, kd, ln, lt, rfl, hI⟩ := hI
  have hI0 := hI
  obtain ⟨hq, hW, hS, hZ, hR, hT, hSS, hN⟩ := hI
  obtain ⟨hm, v1, v2, hX, hM, hL⟩ := id hW
  cases hb : inb a1 m
  · refine ⟨(-1, mk A B V q), (-1, mk A B V q), ?_, ?_, rfl, A, B, _, q, m, kd, ln, lt, rfl, hI0⟩
    · unfold x_X7_tell
      rw [c_0, bs, x7_isWord v1 hm, bs, hb, if_pos cI_f]
    · unfold x_X8_tell
      rw [c_68, bs, x8_isWord v2 hm, bs, hb, if_pos cI_f]
  · obtain ⟨w, hw, rfl⟩ := inb_ex hb (by omega)
    have b3 := wpl_b hq (show w < 4 by omega)
    obtain ⟨w1, w2, w3, w4, w5, w6, w7⟩ := hX w hw
    obtain ⟨m1, m2, m3, m4, m5, m6⟩ := hM w hw
    have hi : inb (nI w) 4 = true := inb_nI (by omega) (by omega)
    have tw : (nI w).toNatClampNeg = w := tn (by omega)
    have fin : ∀ x : Int32, InvW NO SS A B (u2 (u2 V 0 15 x) 68 1 x) q m kd ln lt := fun x => inv_trace hNO hI0 (fun p k h1 h2 => by rw [u2_ne h2, u2_ne h1]) (by rw [u2_ne (p' := 0) (by omega), u2_s, u2_s])
    rcases (show kd w = 0 ∨ kd w = 1 ∨ kd w = 2 by omega) with e | e | e
    · refine ⟨(nI (ln w), mk A B (u2 V 0 15 (31 * V 0 15 + 1)) q), (nI (ln w), mk A B (u2 (u2 V 0 15 (31 * V 0 15 + 1)) 68 1 (31 * V 0 15 + 1)) q), ?_, ?_, rfl, A, B, _, q, m, kd, ln, lt, rfl, fin _⟩
      · unfold x_X7_tell x_X7_tellPlain
        rw [c_0, bs, x7_isWord v1 hm, bs, hb, if_neg (by decide), r_0_2, bs, l_kn (okQ_kn hq) (by omega), bs, gW2 w1, bs, w2, e, if_neg (by decide), bs, if_neg (by decide), bs, x7_leaveTrace, bs, gW1 w1, bs, u2_p _ _ (by omega), w3, bs]
      · unfold x_X8_tell
        rw [c_68, bs, x8_isWord (by rw [u2_p _ _ (by omega)]; exact v2) hm, bs, hb, if_neg (by decide), r_68_8, bs, l_73 hi, bs, r_68_7, bs, l_72 hi, bs, tw, m1, m2, e, if_neg (by decide), if_neg (by decide), x8_begins, bs, u2_p _ _ (by omega), ← hT.1]
    · refine ⟨(nI (ln w) + 100, mk A B (u2 V 0 15 (31 * (31 * V 0 15 + 2) + 1)) q), (nI (ln w) + 100, mk A B (u2 (u2 V 0 15 (31 * (31 * V 0 15 + 2) + 1)) 68 1 (31 * (31 * V 0 15 + 2) + 1)) q), ?_, ?_, rfl, A, B, _, q, m, kd, ln, lt, rfl, fin _⟩
      · unfold x_X7_tell x_X7_tellBoth x_X7_tellPlain
        rw [c_0, bs, x7_isWord v1 hm, bs, hb, if_neg (by decide), r_0_2, bs, l_kn (okQ_kn hq) (by omega), bs, gW2 w1, bs, w2, e, if_neg (by decide), bs, if_pos e1.symm, bs, x7_leaveTrace, bs, c_0, bs, x7_leaveTrace, bs, gW1 w1, bs, u2_u2, u2_s, u2_p _ _ (by omega), w3, bs, bs]
      · unfold x_X8_tell
        rw [c_68, bs, x8_isWord (by rw [u2_p _ _ (by omega)]; exact v2) hm, bs, hb, if_neg (by decide), r_68_8, bs, l_73 hi, bs, r_68_7, bs, l_72 hi, bs, tw, m1, m2, e, if_pos e1.symm, x8_begins, bs, x8_begins, bs, u2_u2, u2_s, u2_p _ _ (by omega), ← hT.1]
    · refine ⟨(nI (ln w) + 100 + nI (ln w), mk A B (u2 V 0 15 (31 * (31 * (31 * (31 * V 0 15 + 3) + 2) + 1) + 1)) q), (2 * nI (ln w) + 100, mk A B (u2 (u2 V 0 15 (31 * (31 * (31 * (31 * V 0 15 + 3) + 2) + 1) + 1)) 68 1 (31 * (31 * (31 * (31 * V 0 15 + 3) + 2) + 1) + 1)) q), ?_, ?_, ?_, A, B, _, q, m, kd, ln, lt, rfl, fin _⟩
      · unfold x_X7_tell x_X7_tellTurned x_X7_tellBoth x_X7_tellPlain
        rw [c_0, bs, x7_isWord v1 hm, bs, hb, if_neg (by decide), r_0_2, bs, l_kn (okQ_kn hq) (by omega), bs, gW2 w1, bs, w2, e, if_pos (by decide), bs, x7_leaveTrace, bs, c_0, bs, x7_leaveTrace, bs, c_0, bs, x7_leaveTrace, bs, gW1 w1, bs, bs, bs, c_0, bs, x7_leaveTrace, bs, gW1 w1, bs, bs, bs]
        simp only [u2_u2, u2_s]
        rw [u2_p _ _ (by omega), u2_p _ _ (by omega), w3]
      · unfold x_X8_tell
        rw [c_68, bs, x8_isWord (by rw [u2_p _ _ (by omega)]; exact v2) hm, bs, hb, if_neg (by decide), r_68_8, bs, l_73 hi, bs, r_68_7, bs, l_72 hi, bs, tw, m1, m2, e, if_neg (by decide), if_pos (by decide), x8_begins, bs, x8_begins, bs, x8_begins, bs, x8_begins, bs]
        simp only [u2_u2, u2_s]
        rw [u2_p _ _ (by omega), ← hT.1]
      · show nI (ln w) + 100 + nI (ln w) = 2 * nI (ln w) + 100
        rcases (show ln w = 1 ∨ ln w = 2 ∨ ln w = 3 ∨ ln w = 4 by omega) with z | z | z | z <;> rw [z] <;> decide
theorem step_spelt (hNO : NOf NO) : st_spelt (InvH NO SS) F := by
  intro h a1 hI
  obtain ⟨A, B, V, q, m, kd, ln, lt, rfl, hI⟩ := hI
  have hI0 := hI
  obtain ⟨hq, hW, hS, hZ, hR, hT, hSS, hN⟩ := hI
  obtain ⟨hm, v1, v2, hX, hM, hL⟩ := id hW
  cases hb : inb a1 m
  · refine ⟨(-1, mk A B V q), (-1, mk A B V q), ?_, ?_, rfl, A, B, _, q, m, kd, ln, lt, rfl, hI0⟩
    · unfold x_X7_spelt
      rw [c_0, bs, x7_isWord v1 hm, bs, hb, if_pos cI_f]
    · unfold x_X8_spelt
      rw [c_68, bs, x8_isWord v2 hm, bs, hb, if_pos cI_f]
  · obtain ⟨w, hw, rfl⟩ := inb_ex hb (by omega)
    have b3 := wpl_b hq (show w < 4 by omega)
    obtain ⟨w1, w2, w3, w4, w5, w6, w7⟩ := hX w hw
    obtain ⟨m1, m2, m3, m4, m5, m6⟩ := hM w hw
    have hi : inb (nI w) 4 = true := inb_nI (by omega) (by omega)
    have tw : (nI w).toNatClampNeg = w := tn (by omega)
    have fin : ∀ x : Int32, InvW NO SS A B (u2 (u2 V 0 15 x) 68 1 x) q m kd ln lt := fun x => inv_trace hNO hI0 (fun p k h1 h2 => by rw [u2_ne h2, u2_ne h1]) (by rw [u2_ne (p' := 0) (by omega), u2_s, u2_s])
    by_cases e : kd w = 2
    · refine ⟨(30, mk A B (u2 V 0 15 (31 * V 0 15 + 5)) q), (30, mk A B (u2 (u2 V 0 15 (31 * V 0 15 + 5)) 68 1 (31 * V 0 15 + 5)) q), ?_, ?_, rfl, A, B, _, q, m, kd, ln, lt, rfl, fin _⟩
      · unfold x_X7_spelt
        rw [c_0, bs, x7_isWord v1 hm, bs, hb, if_neg (by decide), r_0_2, bs, l_kn (okQ_kn hq) (by omega), bs, gW2 w1, bs, w2, e, if_pos (by decide), x7_leaveTrace, bs]
      · unfold x_X8_spelt x_X8_spelt_26
        rw [c_68, bs, x8_isWord (by rw [u2_p _ _ (by omega)]; exact v2) hm, bs, hb, if_neg (by decide), r_68_7, bs, l_72 hi, bs, tw, m1, e, if_pos (by decide), x8_begins, bs, r_68_7, bs, l_72 hi, bs, tw, m1, e, if_pos (by decide), u2_p _ _ (by omega), ← hT.1]
    · have e2 : ¬ nI (kd w) = 2 := nI_eq' (b := 2) (by omega) (by omega) e
      refine ⟨(lt w 0, mk A B (u2 V 0 15 (31 * V 0 15 + 4)) q), (lt w 0, mk A B (u2 (u2 V 0 15 (31 * V 0 15 + 4)) 68 1 (31 * V 0 15 + 4)) q), ?_, ?_, rfl, A, B, _, q, m, kd, ln, lt, rfl, fin _⟩
      · unfold x_X7_spelt
        rw [c_0, bs, x7_isWord v1 hm, bs, hb, if_neg (by decide), r_0_2, bs, l_kn (okQ_kn hq) (by omega), bs, gW2 w1, bs, w2, if_neg e2, x7_leaveTrace, bs, r_0_2, bs, l_kn (okQ_kn hq) (by omega), bs, rW w1, bs, lW w1 (show inb 0 4 = true by decide), bs]
        have z : (0 : Int32).toNatClampNeg = 0 := rfl
        rw [z, w7 0 (by omega)]
      · unfold x_X8_spelt x_X8_spelt_26
        rw [c_68, bs, x8_isWord (by rw [u2_p _ _ (by omega)]; exact v2) hm, bs, hb, if_neg (by decide), r_68_7, bs, l_72 hi, bs, tw, m1, if_neg e2, x8_begins, bs, r_68_7, bs, l_72 hi, bs, tw, m1, if_neg e2, r_68_9, bs, n4, l_74 (inb_nI (by omega) (by omega)), bs, tn (by omega), u2_p _ _ (by omega), ← hT.1]
        have := m6 0 (by omega)
        rw [Nat.add_zero] at this
        rw [this]
end ST2
