/-! words: the model's side -/
def FRM (A0 V0 A V : tA2) : Prop := (∀ p, p ≠ 76 → p ≠ 77 → p ≠ 78 → A p = A0 p) ∧ (∀ p i, ¬ (p = 68 ∧ (i = 11 ∨ i = 12)) → V p i = V0 p i)
def MR (f : Nat) (A0 V0 A V : tA2) (k rw w : Nat) (D : tD) : Prop := FRM A0 V0 A V ∧ V 68 11 = nI (f + k) ∧ V 68 12 = nI rw ∧ ∀ j, j < w → A 76 j = nI (D.2.1 j) ∧ A 77 j = nI (D.2.2.1 j) ∧ ∀ i, i < D.2.2.1 j → A 78 (4 * j + i) = D.2.2.2 j i
section MT
variable {B : tB2} {q : tQ} {F : Nat}
theorem within97 {h : pH} {a : Int32} : x_X8_within F h a 97 99 = some (cI (ltX a)) := by
  unfold x_X8_within
  have t97 : (97 : Int32).toInt = 97 := rfl
  have t99 : (99 : Int32).toInt = 99 := rfl
  by_cases h1 : a < 97
  · rw [if_pos h1]
    rw [Int32.lt_iff_toInt_lt, t97] at h1
    rw [show ltX a = false by simp only [ltX, decide_eq_false_iff_not]; omega]; rfl
  · rw [if_neg h1]
    rw [Int32.lt_iff_toInt_lt, t97] at h1
    by_cases h2 : 99 < a
    · rw [if_pos h2]
      rw [Int32.lt_iff_toInt_lt, t99] at h2
      rw [show ltX a = false by simp only [ltX, decide_eq_false_iff_not]; omega]; rfl
    · rw [if_neg h2]
      rw [Int32.lt_iff_toInt_lt, t99] at h2
      rw [show ltX a = true by simp only [ltX, decide_eq_true_eq]; omega]; rfl
theorem x8_isSign {A V : tA2} {f n k : Nat} (hV : V 68 11 = nI (f + k)) (hk : k ≤ n) (hn : f + n ≤ 240) {x : Int32} : x_X8_isSign F (mk A B V q) 68 (nI (f + n)) x = if k < n ∧ A 71 (f + k) = x then some (1, mk A B (u2 V 68 11 (nI (f + (k + 1)))) q) else some (0, mk A B V q) := by
  unfold x_X8_isSign
  rw [c_68, bs, g_68_11, bs, hV]
  by_cases hkn : k < n
  · rw [if_neg (fun z => by have := (nI_leI (by omega) (by omega)).mp z; omega), r_68_4, bs, bs, l_71 (inb_nI (by omega) (by omega)), bs, tn (by omega), bs, nI_1, w_68_11, bs]
    by_cases e : A 71 (f + k) = x
    · rw [if_pos e, if_pos ⟨hkn, e⟩, Nat.add_assoc]
    · rw [if_neg e, if_neg (fun z => e z.2)]
  · rw [if_pos ((nI_leI (by omega) (by omega)).mpr (by omega)), if_neg (fun z => hkn z.1)]
theorem rl_loop {A0 V0 : tA2} {f n wi : Nat} (hn : f + n ≤ 240) (hwi : wi < 4) : ∀ (d u k s : Nat) (D : tD) (A V : tA2), k + d = n → d < u → MR f A0 V0 A V k wi D.1 D → D.1 = wi + 1 → okT s D → s = (if D.2.2.1 wi = 0 then 4 else 5) → ∃ k' s' D' A' V', x_X8_readWord_102 F 68 (nI (f + n)) (nI wi) u (mk A B V q) = some (cI (decide (0 < D'.2.2.1 wi)), mk A' B V' q) ∧ MR f A0 V0 A' V' k' wi D'.1 D' ∧ D'.1 = wi + 1 ∧ k' ≤ n ∧ s' = (if D'.2.2.1 wi = 0 then 4 else 5) ∧ okT s' D' ∧ prD (fun i => A0 71 (f + i)) (n - k) k s D = prD (fun i => A0 71 (f + i)) (n - k') k' s' D' ∧ (D'.2.2.1 wi = 4 ∨ k' = n ∨ ltX (A0 71 (f + k')) = false) := by
  have hi4 : inb (nI wi) 4 = true := inb_nI (by omega) (by omega)
  have tw : (nI wi).toNatClampNeg = wi := tn (by omega)
  intro d
  induction d with
  | zero =>
    intro u k s D A V hk hu hM hw hD hs
    obtain ⟨u, rfl⟩ : ∃ z, u = z + 1 := ⟨u - 1, by omega⟩
    have l4 := hD.2.2.2.2.1 wi (by omega)
    obtain ⟨m1, m2, m3, m4⟩ := id hM
    refine ⟨k, s, D, A, V, ?_, hM, hw, by omega, hs, hD, rfl, Or.inr (Or.inl (by omega))⟩
    show s_X8_readWord_102 _ _ _ _ _ _ = _
    unfold s_X8_readWord_102 x_X8_readWord_189
    have m77 := (m4 wi (by omega)).2.1
    have fin : (if nI (D.2.2.1 wi) ≤ 0 then some ((0 : Int32), mk A B V q) else some (1, mk A B V q)) = some (cI (decide (0 < D.2.2.1 wi)), mk A B V q) := by
      by_cases e : 0 < D.2.2.1 wi
      · rw [if_neg (nI_nle e (by omega)), decide_eq_true e]; rfl
      · rw [show D.2.2.1 wi = 0 by omega, if_pos (by decide)]; rfl
    simp only [r_68_14, bs, l_77 hi4, tw, m77, fin, g_68_11, m2]
    rw [if_pos (show nI (f + n) ≤ nI (f + k) from (nI_leI (by omega) (by omega)).mpr (by omega)), ite_self]
  | succ d ih =>
    intro u k s D A V hk hu hM hw hD hs
    obtain ⟨u, rfl⟩ : ∃ z, u = z + 1 := ⟨u - 1, by omega⟩
    have l4 := hD.2.2.2.2.1 wi (by omega)
    have hM0 := hM
    obtain ⟨m1, m2, m3, m4⟩ := hM
    have m77 := (m4 wi (by omega)).2.1
    have m71 : A 71 = A0 71 := m1.1 71 (by omega) (by omega) (by omega)
    have top : x_X8_readWord_102 F 68 (nI (f + n)) (nI wi) (u + 1) (mk A B V q) = if (D.2.2.1 wi = 4 ∨ ltX (A0 71 (f + k)) = false) then some (cI (decide (0 < D.2.2.1 wi)), mk A B V q) else x_X8_readWord_102 F 68 (nI (f + n)) (nI wi) u (mk (u2 (u2 A 78 (4 * wi + D.2.2.1 wi) (A0 71 (f + k) - 97)) 77 wi (nI (D.2.2.1 wi + 1))) B (u2 V 68 11 (nI (f + (k + 1)))) q) := by
      show s_X8_readWord_102 _ _ _ _ _ _ = _
      unfold s_X8_readWord_102 x_X8_readWord_189
      have fin : (if nI (D.2.2.1 wi) ≤ 0 then some ((0 : Int32), mk A B V q) else some (1, mk A B V q)) = some (cI (decide (0 < D.2.2.1 wi)), mk A B V q) := by
        by_cases e : 0 < D.2.2.1 wi
        · rw [if_neg (nI_nle e (by omega)), decide_eq_true e]; rfl
        · rw [show D.2.2.1 wi = 0 by omega, if_pos (by decide)]; rfl
      simp only [r_68_14, bs, l_77 hi4, tw, m77, fin, g_68_11, m2, r_68_4, r_68_15]
      by_cases e4 : D.2.2.1 wi = 4
      · rw [if_pos (Or.inl e4), if_pos (by rw [e4]; decide)]
      · rw [if_neg (show ¬ (4 : Int32) ≤ nI (D.2.2.1 wi) from fun z => by have := (nI_leI (a := 4) (by omega) (by omega)).mp z; omega), if_neg (fun z => by have := (nI_leI (by omega) (by omega)).mp z; omega), l_71 (inb_nI (by omega) (by omega)), bs, tn (by omega), m71, within97, bs, bs]
        cases hl : ltX (A0 71 (f + k))
        · rw [if_pos cI_f, if_pos (Or.inr rfl)]
        · rw [if_neg (by decide), if_neg (by simp [e4]), n4, nI_add, s_78 (inb_nI (by omega) (by omega)), bs, tn (by omega), r_68_14, bs, l_77 hi4, bs, s_77 hi4, bs, tw, u2_p _ _ (by omega), m77, nI_1, g_68_11, bs, m2, nI_1, w_68_11, bs, Nat.add_assoc]
    by_cases hst : (D.2.2.1 wi = 4 ∨ ltX (A0 71 (f + k)) = false)
    · rw [if_pos hst] at top
      refine ⟨k, s, D, A, V, top, hM0, hw, by omega, hs, hD, rfl, ?_⟩
      rcases hst with z | z
      · exact Or.inl z
      · exact Or.inr (Or.inr z)
    · rw [if_neg hst] at top
      have hl : ltX (A0 71 (f + k)) = true := by
        cases hz : ltX (A0 71 (f + k))
        · exact absurd (Or.inr hz) hst
        · rfl
      have hlt : D.2.2.1 wi < 4 := by omega
      have ew : D.1 - 1 = wi := by omega
      have et : tlD D (A0 71 (f + k)) = some (5, (D.1, D.2.1, va_up D.2.2.1 wi (D.2.2.1 wi + 1), u2 D.2.2.2 wi (D.2.2.1 wi) (A0 71 (f + k) - 97))) := by
        unfold tlD
        rw [ew, if_pos ⟨hl, hlt⟩]
      have en : nxD s D (A0 71 (f + k)) = some (5, (D.1, D.2.1, va_up D.2.2.1 wi (D.2.2.1 wi + 1), u2 D.2.2.2 wi (D.2.2.1 wi) (A0 71 (f + k) - 97))) := by
        by_cases e : D.2.2.1 wi = 0
        · rw [if_pos e] at hs
          rw [hs, nx4]; exact et
        · rw [if_neg e] at hs
          rw [hs, nx5, if_neg]; exact et
          intro z
          rw [z] at hl
          exact absurd hl (by decide)
      have hD' := nxD_ok hD en
      obtain ⟨k', s', D', A', V', r1, r2, r3, r4, r5, r6, r7, r8⟩ := ih u (k + 1) 5 (D.1, D.2.1, va_up D.2.2.1 wi (D.2.2.1 wi + 1), u2 D.2.2.2 wi (D.2.2.1 wi) (A0 71 (f + k) - 97)) (u2 (u2 A 78 (4 * wi + D.2.2.1 wi) (A0 71 (f + k) - 97)) 77 wi (nI (D.2.2.1 wi + 1))) (u2 V 68 11 (nI (f + (k + 1)))) (by omega) (by omega) (by
        refine ⟨⟨fun p h1 h2 h3 => by rw [u2_pp _ _ h2, u2_pp _ _ h3]; exact m1.1 p h1 h2 h3, fun p i h => by rw [u2_ne (by omega)]; exact m1.2 p i h⟩, u2_s _ _ _ _, by rw [u2_k _ _ (by omega)]; exact m3, fun j hj => ?_⟩
        dsimp only at hj ⊢
        obtain ⟨b1, b2, b3⟩ := m4 j hj
        rw [u2_p (p' := 76) _ _ (by omega), u2_p (p' := 76) _ _ (by omega)]
        by_cases e : j = wi
        · subst e
          refine ⟨b1, by rw [u2_s, up_at], fun i hi => ?_⟩
          rw [up_at] at hi
          rw [u2_p _ _ (by omega)]
          by_cases ei : i = D.2.2.1 j
          · subst ei; rw [u2_s, u2_s]
          · rw [u2_k _ _ (by omega), u2_k _ _ ei]; exact b3 i (by omega)
        · refine ⟨b1, by rw [u2_k _ _ e, u2_p _ _ (by omega), up_ne _ _ e]; exact b2, fun i hi => ?_⟩
          rw [up_ne _ _ e] at hi
          rw [u2_p _ _ (by omega), u2_p _ _ e]
          have lj := hD.2.2.2.2.1 j hj
          rw [u2_k _ _ (by omega)]; exact b3 i hi) hw hD' (if_neg (show ¬ va_up D.2.2.1 wi (D.2.2.1 wi + 1) wi = 0 by rw [up_at]; omega)).symm
      refine ⟨k', s', D', A', V', by rw [top]; exact r1, r2, r3, r4, r5, r6, ?_, r8⟩
      rw [← r7, show n - k = (n - (k + 1)) + 1 by omega]
      exact prD_s (c := fun i => A0 71 (f + i)) en
theorem x8_readWord {A0 V0 A V : tA2} {f n k wi : Nat} {D : tD} (hn : f + n ≤ 240) (hwi : wi < 4) (hk : k ≤ n) (hF : 250 ≤ F) (hM : MR f A0 V0 A V k wi wi D) (hw : D.1 = wi + 1) (hD : okT 2 D) : (∃ A' V', x_X8_readWord F (mk A B V q) 68 (nI (f + n)) (nI wi) = some (0, mk A' B V' q) ∧ FRM A0 V0 A' V' ∧ (prD (fun i => A0 71 (f + i)) (n - k) k 2 D).1 = false ∧ V' 68 11 = nI (f + (prD (fun i => A0 71 (f + i)) (n - k) k 2 D).2.1)) ∨ (∃ k' D' A' V', x_X8_readWord F (mk A B V q) 68 (nI (f + n)) (nI wi) = some (1, mk A' B V' q) ∧ MR f A0 V0 A' V' k' wi D'.1 D' ∧ D'.1 = wi + 1 ∧ k' ≤ n ∧ okT 5 D' ∧ prD (fun i => A0 71 (f + i)) (n - k) k 2 D = prD (fun i => A0 71 (f + i)) (n - k') k' 5 D' ∧ (D'.2.2.1 wi = 4 ∨ k' = n ∨ ltX (A0 71 (f + k')) = false)) := by
  have hi4 : inb (nI wi) 4 = true := inb_nI (by omega) (by omega)
  have tw : (nI wi).toNatClampNeg = wi := tn (by omega)
  obtain ⟨m1, m2, m3, m4⟩ := hM
  have m71 : A 71 = A0 71 := m1.1 71 (by omega) (by omega) (by omega)
  have ew : D.1 - 1 = wi := by omega
  have ln0 : D.2.2.1 wi = 0 := by have := hD.2.2.2.2.2.2.1 (by omega) (by omega); rwa [ew] at this
  have no59 : ∀ (x : Int32), x_X8_readWord_59 F (mk A B V q) 68 (nI (f + n)) (nI wi) ((-9)) (nI wi) 76 = some (0, mk (u2 A 76 wi (-9)) B V q) := fun x => by
    unfold x_X8_readWord_59
    rw [s_76 hi4, bs, r_68_13, bs, l_76 hi4, bs, tw, u2_s, if_pos rfl]
  by_cases hkn : k < n
  · have top : x_X8_readWord F (mk A B V q) 68 (nI (f + n)) (nI wi) = x_X8_readWord_21 F (mk A B V q) 68 (nI (f + n)) (nI wi) (A0 71 (f + k)) := by
      unfold x_X8_readWord
      rw [c_68, bs, g_68_11, bs, m2, if_neg (fun z => by have := (nI_leI (by omega) (by omega)).mp z; omega), r_68_4, bs, bs, l_71 (inb_nI (by omega) (by omega)), bs, tn (by omega), m71]
    cases hx : kdX (A0 71 (f + k)) with
    | none =>
      left
      refine ⟨u2 A 76 wi (-9), V, ?_, ⟨fun p h1 h2 h3 => by rw [u2_pp _ _ h1]; exact m1.1 p h1 h2 h3, m1.2⟩, ?_, ?_⟩
      · rw [top]
        unfold x_X8_readWord_21
        unfold kdX at hx
        rw [r_68_13, bs]
        by_cases h1 : A0 71 (f + k) = 112
        · rw [if_pos h1] at hx; cases hx
        · rw [if_neg h1] at hx
          by_cases h2 : A0 71 (f + k) = 98
          · rw [if_pos h2] at hx; cases hx
          · rw [if_neg h2] at hx
            by_cases h3 : A0 71 (f + k) = 116
            · rw [if_pos h3] at hx; cases hx
            · rw [if_neg h1, if_neg h2, if_neg h3]; exact no59 0
      · rw [show n - k = (n - (k + 1)) + 1 by omega, prD_n (c := fun i => A0 71 (f + i)) (show nxD 2 D (A0 71 (f + k)) = none by rw [nx2]; unfold tkD; rw [hx]; rfl)]
      · rw [show n - k = (n - (k + 1)) + 1 by omega, prD_n (c := fun i => A0 71 (f + i)) (show nxD 2 D (A0 71 (f + k)) = none by rw [nx2]; unfold tkD; rw [hx]; rfl)]
        exact m2
    | some kk =>
      have k2 := kdX_le hx
      obtain ⟨A1, hA1⟩ : ∃ A1, A1 = u2 A 76 wi (nI kk) := ⟨_, rfl⟩
      obtain ⟨V1, hV1⟩ : ∃ V1, V1 = u2 V 68 11 (nI (f + (k + 1))) := ⟨_, rfl⟩
      have v11 : V1 68 11 = nI (f + (k + 1)) := by rw [hV1, u2_s]
      have top2 : x_X8_readWord F (mk A B V q) 68 (nI (f + n)) (nI wi) = (x_X8_isSign F (mk A1 B V1 q) 68 (nI (f + n)) 47).bind fun v6 => if v6.1 = 0 then some (0, v6.2) else (getR 8 v6.2 68 14).bind fun v7 => (astI 0 v6.2 v7 (nI wi) 0).bind fun v8 => x_X8_readWord_102 F 68 (nI (f + n)) (nI wi) F v8 := by
        have e59 : x_X8_readWord_21 F (mk A B V q) 68 (nI (f + n)) (nI wi) (A0 71 (f + k)) = x_X8_readWord_59 F (mk A B V q) 68 (nI (f + n)) (nI wi) (nI kk) (nI wi) 76 := by
          unfold x_X8_readWord_21
          unfold kdX at hx
          rw [r_68_13, bs]
          by_cases h1 : A0 71 (f + k) = 112
          · rw [if_pos h1] at hx ⊢; have := Option.some.inj hx; subst this; rfl
          · rw [if_neg h1] at hx ⊢
            by_cases h2 : A0 71 (f + k) = 98
            · rw [if_pos h2] at hx ⊢; have := Option.some.inj hx; subst this; rfl
            · rw [if_neg h2] at hx ⊢
              by_cases h3 : A0 71 (f + k) = 116
              · rw [if_pos h3] at hx ⊢; have := Option.some.inj hx; subst this; rfl
              · rw [if_neg h3] at hx; cases hx
        rw [top, e59]
        unfold x_X8_readWord_59
        rw [s_76 hi4, bs, r_68_13, bs, l_76 hi4, bs, tw, u2_s, if_neg (la_ne (by omega)), g_68_11, bs, m2, nI_1, w_68_11, bs, Nat.add_assoc, ← hA1, ← hV1]
      rw [x8_isSign v11 (by omega) hn] at top2
      have a71 : A1 71 = A0 71 := by rw [hA1, u2_pp _ _ (by omega)]; exact m71
      rw [a71] at top2
      have en : nxD 2 D (A0 71 (f + k)) = some (3, D.1, va_up D.2.1 wi kk, D.2.2.1, D.2.2.2) := by rw [nx2]; unfold tkD; rw [hx, bs, ew]
      have hD3 := nxD_ok hD en
      have pr3 : prD (fun i => A0 71 (f + i)) (n - k) k 2 D = prD (fun i => A0 71 (f + i)) (n - (k + 1)) (k + 1) 3 (D.1, va_up D.2.1 wi kk, D.2.2.1, D.2.2.2) := by
        rw [show n - k = (n - (k + 1)) + 1 by omega]
        exact prD_s (c := fun i => A0 71 (f + i)) en
      have fr1 : FRM A0 V0 A1 V1 := ⟨fun p h1 h2 h3 => by rw [hA1, u2_pp _ _ h1]; exact m1.1 p h1 h2 h3, fun p i h => by rw [hV1, u2_ne (by omega)]; exact m1.2 p i h⟩
      by_cases hs : k + 1 < n ∧ A0 71 (f + (k + 1)) = 47
      · rw [if_pos hs, bs] at top2
        rw [if_neg (show ¬ ((1 : Int32), mk A1 B (u2 V1 68 11 (nI (f + (k + 1 + 1)))) q).1 = 0 from (by decide : ¬ (1 : Int32) = 0)), r_68_14, bs, s_77 hi4, bs, tw] at top2
        have en4 : nxD 3 (D.1, va_up D.2.1 wi kk, D.2.2.1, D.2.2.2) (A0 71 (f + (k + 1))) = some (4, D.1, va_up D.2.1 wi kk, D.2.2.1, D.2.2.2) := by rw [nx3, if_pos hs.2]
        have hD4 := nxD_ok hD3 en4
        have pr4 : prD (fun i => A0 71 (f + i)) (n - (k + 1)) (k + 1) 3 (D.1, va_up D.2.1 wi kk, D.2.2.1, D.2.2.2) = prD (fun i => A0 71 (f + i)) (n - (k + 2)) (k + 2) 4 (D.1, va_up D.2.1 wi kk, D.2.2.1, D.2.2.2) := by
          rw [show n - (k + 1) = (n - (k + 2)) + 1 by omega]
          exact prD_s (c := fun i => A0 71 (f + i)) en4
        obtain ⟨k', s', D', A', V', r1, r2, r3, r4, r5, r6, r7, r8⟩ := rl_loop (B := B) (q := q) (F := F) (A0 := A0) (V0 := V0) hn hwi (n - (k + 2)) F (k + 2) 4 (D.1, va_up D.2.1 wi kk, D.2.2.1, D.2.2.2) (u2 A1 77 wi 0) (u2 V1 68 11 (nI (f + (k + 1 + 1)))) (by omega) (by omega) (by
          refine ⟨⟨fun p h1 h2 h3 => by rw [u2_pp _ _ h2]; exact fr1.1 p h1 h2 h3, fun p i h => by rw [u2_ne (by omega)]; exact fr1.2 p i h⟩, u2_s _ _ _ _, by rw [u2_k _ _ (by omega), hV1, u2_k _ _ (by omega)]; exact m3, fun j hj => ?_⟩
          dsimp only at hj ⊢
          by_cases e : j = wi
          · subst e
            refine ⟨by rw [u2_p _ _ (by omega), hA1, u2_s, up_at], by rw [u2_s, ln0]; rfl, fun i hi => absurd hi (by omega)⟩
          · obtain ⟨b1, b2, b3⟩ := m4 j (by omega)
            refine ⟨by rw [u2_p _ _ (by omega), hA1, u2_k _ _ e, up_ne _ _ e]; exact b1, by rw [u2_k _ _ e, hA1, u2_p _ _ (by omega)]; exact b2, fun i hi => by rw [u2_p _ _ (by omega), hA1, u2_p _ _ (by omega)]; exact b3 i hi⟩) hw hD4 (by dsimp only; rw [if_pos ln0])
        rw [r1] at top2
        by_cases e0 : D'.2.2.1 wi = 0
        · left
          refine ⟨A', V', by rw [top2, e0]; rfl, r2.1, ?_, ?_⟩
          · rw [pr3, pr4, r7, r5, if_pos e0]
            rcases r8 with z | z | z
            · omega
            · rw [z, Nat.sub_self]; rfl
            · rcases Nat.lt_or_ge k' n with z2 | z2
              · rw [show n - k' = (n - (k' + 1)) + 1 by omega, prD_n (c := fun i => A0 71 (f + i)) (show nxD 4 D' (A0 71 (f + k')) = none by rw [nx4]; unfold tlD; rw [if_neg (by simp [z])])]
              · rw [show n - k' = 0 by omega]; rfl
          · rw [pr3, pr4, r7, r5, if_pos e0]
            rcases r8 with z | z | z
            · omega
            · rw [z, Nat.sub_self, ← z]; exact r2.2.1
            · rcases Nat.lt_or_ge k' n with z2 | z2
              · rw [show n - k' = (n - (k' + 1)) + 1 by omega, prD_n (c := fun i => A0 71 (f + i)) (show nxD 4 D' (A0 71 (f + k')) = none by rw [nx4]; unfold tlD; rw [if_neg (by simp [z])])]
                exact r2.2.1
              · rw [show n - k' = 0 by omega]; exact r2.2.1
        · right
          rw [if_neg e0] at r5
          subst r5
          refine ⟨k', D', A', V', by rw [top2, decide_eq_true (by omega)]; rfl, r2, r3, r4, r6, by rw [pr3, pr4, r7], r8⟩
      · rw [if_neg hs, bs] at top2
        rw [if_pos (show ((0 : Int32), mk A1 B V1 q).1 = 0 from rfl)] at top2
        left
        refine ⟨A1, V1, top2, fr1, ?_, ?_⟩
        · rw [pr3]
          rcases Nat.lt_or_ge (k + 1) n with z2 | z2
          · rw [show n - (k + 1) = (n - (k + 2)) + 1 by omega, prD_n (c := fun i => A0 71 (f + i)) (show nxD 3 _ (A0 71 (f + (k + 1))) = none by rw [nx3, if_neg (fun z => hs ⟨z2, z⟩)])]
          · rw [show n - (k + 1) = 0 by omega]; rfl
        · rw [pr3]
          rcases Nat.lt_or_ge (k + 1) n with z2 | z2
          · rw [show n - (k + 1) = (n - (k + 2)) + 1 by omega, prD_n (c := fun i => A0 71 (f + i)) (show nxD 3 _ (A0 71 (f + (k + 1))) = none by rw [nx3, if_neg (fun z => hs ⟨z2, z⟩)])]
            exact v11
          · rw [show n - (k + 1) = 0 by omega]; exact v11
  · left
    refine ⟨u2 A 76 wi (-9), V, ?_, ⟨fun p h1 h2 h3 => by rw [u2_pp _ _ h1]; exact m1.1 p h1 h2 h3, m1.2⟩, ?_, ?_⟩
    · unfold x_X8_readWord x_X8_readWord_21
      rw [c_68, bs, g_68_11, bs, m2, if_pos ((nI_leI (by omega) (by omega)).mpr (by omega)), r_68_13, bs, if_neg (by decide), if_neg (by decide), if_neg (by decide)]
      exact no59 0
    · rw [show n - k = 0 by omega]; rfl
    · rw [show n - k = 0 by omega]; exact m2
end MT
