/-! steps that need little -/
theorem isS_k {k : Nat} (h : k < 4) : isS (44 + 2 * k) := by
  rcases (show k = 0 ∨ k = 1 ∨ k = 2 ∨ k = 3 by omega) with rfl | rfl | rfl | rfl <;> simp [isS]
theorem isR_k {k : Nat} (h : k < 8) : isR (52 + 2 * k) := by
  rcases (show k = 0 ∨ k = 1 ∨ k = 2 ∨ k = 3 ∨ k = 4 ∨ k = 5 ∨ k = 6 ∨ k = 7 by omega) with rfl | rfl | rfl | rfl | rfl | rfl | rfl | rfl <;> simp [isR]
section E1
variable {A : tA2} {B : tB2} {V : tA2} {q : tQ} {F : Nat}
theorem l_sh {k : Nat} (hk : k < 4) : aldR 3 (mk A B V q) 1 (nI k) = some (44 + 2 * k) := by
  rw [mk_aldR (t := 3) (n := 4) rfl (by omega) (by omega) (inb_nI hk (by omega)), tn (by omega)]
  rfl
theorem l_rd {k : Nat} (hk : k < 8) : aldR 5 (mk A B V q) 23 (nI k) = some (52 + 2 * k) := by
  rw [mk_aldR (t := 5) (n := 8) rfl (by omega) (by omega) (inb_nI hk (by omega)), tn (by omega)]
  rfl
theorem x7_failWith {x : Int32} : x_X7_failWith F (mk A B V q) 0 x = some (-10 - x, mk A B (u2 V 0 16 x) q) := by
  unfold x_X7_failWith
  rw [c_0, bs, w_0_16, bs]
theorem x8_fails {x : Int32} : x_X8_fails F (mk A B V q) 68 x = some (-10 - x, mk A B (u2 V 68 0 x) q) := by
  unfold x_X8_fails
  rw [c_68, bs, w_68_0, bs]
theorem x8_lost {x : Int32} : x_X8_lost F (mk A B V q) 68 x = some (-9223372036854775808, mk A B (u2 V 68 0 x) q) := by
  unfold x_X8_lost
  rw [c_68, bs, w_68_0, bs]
theorem x7_leaveTrace {x : Int32} : x_X7_leaveTrace F (mk A B V q) 0 x = some (mk A B (u2 V 0 15 (31 * V 0 15 + x)) q) := by
  unfold x_X7_leaveTrace
  rw [c_0, bs, g_0_15, bs, w_0_15, bs]
theorem x8_begins {x : Int32} : x_X8_begins F (mk A B V q) 68 x = some (mk A B (u2 V 68 1 (31 * V 68 1 + x)) q) := by
  unfold x_X8_begins
  rw [c_68, bs, g_68_1, bs, w_68_1, bs]
end E1
section ST
variable {NO : tNO} {SS : (Nat → Int32) → Prop} {F : Nat}
theorem step_trace : st_trace (InvH NO SS) F := by
  intro h hI
  obtain ⟨A, B, V, q, m, kd, ln, lt, rfl, hI⟩ := hI
  have hT := hI.2.2.2.2.2.1
  refine ⟨V 0 15, V 68 1, ?_, ?_, hT.1, A, B, V, q, m, kd, ln, lt, rfl, hI⟩
  · unfold x_X7_trace
    rw [c_0, bs, g_0_15, bs]
  · unfold x_X8_trace
    rw [c_68, bs, g_68_1, bs]
theorem step_fault : st_fault (InvH NO SS) F := by
  intro h hI
  obtain ⟨A, B, V, q, m, kd, ln, lt, rfl, hI⟩ := hI
  have hT := hI.2.2.2.2.2.1
  refine ⟨V 0 16, V 68 0, ?_, ?_, hT.2, A, B, V, q, m, kd, ln, lt, rfl, hI⟩
  · unfold x_X7_fault
    rw [c_0, bs, g_0_16, bs]
  · unfold x_X8_fault
    rw [c_68, bs, g_68_0, bs]
theorem step_hush (hNO : NOf NO) : st_hush (InvH NO SS) F := by
  intro h hI
  obtain ⟨A, B, V, q, m, kd, ln, lt, rfl, hI⟩ := hI
  have hI0 := hI
  obtain ⟨hq, hW, hS, hZ, hR, hT, hSS, hN⟩ := hI
  obtain ⟨hm, v1, v2, -⟩ := id hW
  obtain ⟨n, hn, z1, z2, z3⟩ := hZ
  by_cases h0 : m = 0
  · refine ⟨(-3, mk A B V q), (-3, mk A B V q), ?_, ?_, rfl, A, B, V, q, m, kd, ln, lt, rfl, hI0⟩
    · unfold x_X7_hush
      rw [c_0, bs, g_0_3, bs, v1, h0, if_pos nI_0]
    · unfold x_X8_hush
      rw [c_68, bs, g_68_5, bs, v2, h0, if_pos nI_0]
  · refine ⟨(nI n, mk A B (u2 V 0 5 0) q), (nI n, mk A B (u2 (u2 V 0 5 0) 68 6 0) q), ?_, ?_, rfl, A, B, u2 (u2 V 0 5 0) 68 6 0, q, m, kd, ln, lt, rfl, ?_⟩
    · unfold x_X7_hush
      rw [c_0, bs, g_0_3, bs, v1, if_neg (nz0 h0 (by omega)), g_0_5, bs, w_0_5, bs, z1]
    · unfold x_X8_hush
      rw [c_68, bs, g_68_5, bs, u2_p _ _ (by omega), v2, if_neg (nz0 h0 (by omega)), g_68_6, bs, w_68_6, bs, u2_p _ _ (by omega), z2]
    · have e : ∀ p k, ¬ (p = 0 ∧ k = 5) → ¬ (p = 68 ∧ k = 6) → u2 (u2 V 0 5 0) 68 6 0 p k = V p k := fun p k h1 h2 => by rw [u2_ne h2, u2_ne h1]
      refine inv_fld hNO hI0 (fun p k h1 h2 => e p k (by omega) (by omega)) (e _ _ (by omega) (by omega)) (e _ _ (by omega) (by omega)) (e _ _ (by omega) (by omega)) ⟨0, by omega, ?_, ?_, fun i hi => absurd hi (by omega)⟩ (RI_c hR (fun p h1 h2 => ⟨rfl, by funext k; exact e p k (by omega) (by omega)⟩) (fun _ _ _ => rfl) (e _ _ (by omega) (by omega)) (e _ _ (by omega) (by omega))) (TI_c hT (e _ _ (by omega) (by omega)) (e _ _ (by omega) (by omega)) (e _ _ (by omega) (by omega)) (e _ _ (by omega) (by omega)))
      · rw [u2_ne (p' := 0) (by omega), u2_s]; rfl
      · rw [u2_s]; rfl
theorem step_back (hNO : NOf NO) : st_back (InvH NO SS) F := by
  intro h a1 hI
  obtain ⟨A, B, V, q, m, kd, ln, lt, rfl, hI⟩ := hI
  have hI0 := hI
  obtain ⟨hq, hW, hS, hZ, hR, hT, hSS, hN⟩ := hI
  obtain ⟨n, hn, z1, z2, z3⟩ := id hR
  cases hb : inb a1 (n + 1)
  · refine ⟨(-2, mk A B V q), (-2, mk A B V q), ?_, ?_, rfl, A, B, V, q, m, kd, ln, lt, rfl, hI0⟩
    · unfold x_X7_back
      rw [c_0, bs]
      rcases inb_f hb with z | z
      · rw [if_pos (by rw [Int32.lt_iff_toInt_lt, i0]; exact z)]
      · by_cases z4 : a1 < 0
        · rw [if_pos z4]
        · rw [if_neg z4, g_0_8, bs, z1, if_neg (by rw [Int32.le_iff_toInt_le, nI_toInt (by omega)]; omega)]
    · unfold x_X8_back
      rw [c_68, bs, g_68_25, bs, z2, x8_within (n := n + 1) (by rw [nI_toInt (by omega)]; omega), bs, hb, if_pos cI_f]
  · obtain ⟨j, hj, rfl⟩ := inb_ex hb (by omega)
    have e : ∀ p k, ¬ (p = 0 ∧ k = 8) → ¬ (p = 68 ∧ k = 25) → u2 (u2 V 0 8 (nI (n - j))) 68 25 (nI (n - j)) p k = V p k := fun p k h1 h2 => by rw [u2_ne h2, u2_ne h1]
    refine ⟨(nI (n - j), mk A B (u2 V 0 8 (nI (n - j))) q), (nI (n - j), mk A B (u2 (u2 V 0 8 (nI (n - j))) 68 25 (nI (n - j))) q), ?_, ?_, rfl, A, B, _, q, m, kd, ln, lt, rfl, ?_⟩
    · unfold x_X7_back
      rw [c_0, bs, if_neg (nI_pos (by omega)), g_0_8, bs, z1, if_pos ((nI_leI (by omega) (by omega)).mpr (by omega)), bs, pk_sub (by omega), w_0_8, bs, g_0_8, bs, u2_s]
    · unfold x_X8_back
      rw [c_68, bs, g_68_25, bs, u2_p _ _ (by omega), z2, x8_within (n := n + 1) (by rw [nI_toInt (by omega)]; omega), bs, hb, if_neg (by decide), bs, pk_sub (by omega), w_68_25, bs, g_68_25, bs, u2_s]
    · refine inv_fld hNO hI0 (fun p k h1 h2 => e p k (by omega) (by omega)) (e _ _ (by omega) (by omega)) (e _ _ (by omega) (by omega)) (e _ _ (by omega) (by omega)) (ZI_c hZ rfl rfl (e _ _ (by omega) (by omega)) (e _ _ (by omega) (by omega))) ⟨n - j, by omega, ?_, ?_, fun k hk => ?_⟩ (TI_c hT (e _ _ (by omega) (by omega)) (e _ _ (by omega) (by omega)) (e _ _ (by omega) (by omega)) (e _ _ (by omega) (by omega)))
      · rw [u2_ne (p' := 0) (by omega), u2_s]
      · rw [u2_s]
      · rw [e _ _ (by omega) (by omega), e _ _ (by omega) (by omega), e _ _ (by omega) (by omega)]
        exact z3 k (by omega)
theorem step_lose (hNO : NOf NO) : st_lose (InvH NO SS) F := by
  intro h a1 hI
  obtain ⟨A, B, V, q, m, kd, ln, lt, rfl, hI⟩ := hI
  have hI0 := hI
  obtain ⟨hq, hW, hS, hZ, hR, hT, hSS, hN⟩ := hI
  cases hb : inb a1 4
  · refine ⟨(-1, mk A B V q), (-1, mk A B V q), ?_, ?_, rfl, A, B, V, q, m, kd, ln, lt, rfl, hI0⟩
    · unfold x_X7_lose
      rw [c_0, bs, x7_isSheet, bs, hb, if_pos cI_f]
    · unfold x_X8_lose
      rw [c_68, bs, x8_isSheet, bs, hb, if_pos cI_f]
  · obtain ⟨j, hj, rfl⟩ := inb_ex hb (by omega)
    have hs := isS_k hj
    obtain ⟨s1, s2, s3⟩ := hS j hj
    have hi : inb (nI j) 4 = true := hb
    obtain ⟨r, hr1, hr2⟩ : ∃ r : Int32, (if V (44 + 2 * j) 1 = 0 then (0 : Int32) else 1) = r ∧ (if A 69 j = -9 then (0 : Int32) else 1) = r := by
      rcases s2 with ⟨z1, z2⟩ | ⟨z1, la, z2, z3, z4⟩
      · exact ⟨0, by rw [if_pos z1], by rw [if_pos z2]⟩
      · refine ⟨1, by rw [z1]; decide, ?_⟩
        rw [z4, if_neg]
        rcases (show la = 0 ∨ la = 1 ∨ la = 2 by omega) with rfl | rfl | rfl <;> decide
    refine ⟨(r, mk A B (u2 V (44 + 2 * j) 1 0) q), (r, mk (u2 A 69 j (-9)) B (u2 V (44 + 2 * j) 1 0) q), ?_, ?_, rfl, _, B, _, q, m, kd, ln, lt, rfl, ?_⟩
    · unfold x_X7_lose x_X7_lose_26
      rw [c_0, bs, x7_isSheet, bs, hb, if_neg (by decide), r_0_0, bs, l_sh hj, bs, gS1 hs, bs, ← hr1]
      by_cases z : V (44 + 2 * j) 1 = 0
      · rw [if_pos z, if_pos z, bs, l_sh hj, bs, zS1 hs (Or.inl rfl), bs]
      · rw [if_neg z, if_neg z, bs, l_sh hj, bs, zS1 hs (Or.inl rfl), bs]
    · unfold x_X8_lose x_X8_lose_25
      rw [c_68, bs, x8_isSheet, bs, hb, if_neg (by decide), r_68_2, bs, l_69 hi, bs, tn (by omega), ← hr2]
      by_cases z : A 69 j = -9
      · rw [if_pos z, if_pos z, bs, s_69 hi, bs, tn (by omega)]
      · rw [if_neg z, if_neg z, bs, s_69 hi, bs, tn (by omega)]
    · have eV : ∀ p, p ≠ 44 + 2 * j → u2 V (44 + 2 * j) 1 0 p = V p := fun p hp => u2_pp _ _ hp
      have eA : ∀ p, p ≠ 69 → u2 A 69 j (-9) p = A p := fun p hp => u2_pp _ _ hp
      refine ⟨hq, WI_c hW hq (fun p h1 h2 => ⟨eA p (by omega), eV p (by omega)⟩) (eA _ (by omega)) (eA _ (by omega)) (eA _ (by omega)) (by rw [eV _ (by omega)]) (by rw [eV _ (by omega)]), ?_, ZI_c hZ (eA _ (by omega)) (eA _ (by omega)) (by rw [eV _ (by omega)]) (by rw [eV _ (by omega)]), RI_c hR (fun p h1 h2 => ⟨eA p (by omega), eV p (by omega)⟩) (fun p h1 h2 => eA p (by omega)) (by rw [eV _ (by omega)]) (by rw [eV _ (by omega)]), TI_c hT (by rw [eV _ (by omega)]) (by rw [eV _ (by omega)]) (by rw [eV _ (by omega)]) (by rw [eV _ (by omega)]), by rw [eA _ (by omega)]; exact hSS, ?_⟩
      · intro k hk
        obtain ⟨t1, t2, t3⟩ := hS k hk
        by_cases e : k = j
        · subst e
          refine ⟨?_, Or.inl ⟨u2_s _ _ _ _, u2_s _ _ _ _⟩, ?_⟩
          · rw [u2_k _ _ (by omega), eA _ (by omega)]; exact t1
          · intro i hi2
            rw [eA _ (by omega), eA _ (by omega)]; exact t3 i hi2
        · rw [eV _ (by omega), eA 70 (by omega), eA 71 (by omega), eA (45 + 2 * k) (by omega), u2_k _ _ e]
          exact ⟨t1, t2, t3⟩
      · rw [eV _ (by omega)]
        rcases hN with z | ⟨z1, z2⟩
        · exact Or.inl z
        · exact Or.inr ⟨z1, hNO A _ B B V _ q m kd ln lt (fun p h1 h2 => ⟨eA p (by omega), rfl, eV p (by omega)⟩) z2⟩
end ST
