/-! step: words -/
section MA
variable {B : tB2} {q : tQ} {F : Nat}
theorem ra_stop {A0 : tA2} {f n k : Nat} {D : tD} (hk : k < n) (h : ¬ (A0 71 (f + k) = 59 ∧ D.1 < 4)) (hs : D.2.2.1 (D.1 - 1) = 4 ∨ k = n ∨ ltX (A0 71 (f + k)) = false) : prD (fun i => A0 71 (f + i)) (n - k) k 5 D = (false, k, D) := by
  rw [show n - k = (n - (k + 1)) + 1 by omega]
  apply prD_n (c := fun i => A0 71 (f + i))
  show nxD 5 D (A0 71 (f + k)) = none
  rw [nx5]
  by_cases e : A0 71 (f + k) = 59
  · rw [if_pos e]
    unfold bgD
    rw [if_neg (fun z => h ⟨e, z⟩)]
  · rw [if_neg e]
    unfold tlD
    rw [if_neg]
    rintro ⟨z1, z2⟩
    rcases hs with z | z | z
    · omega
    · omega
    · rw [z] at z1; cases z1
theorem ra_loop {A0 V0 : tA2} {f n : Nat} (hn : f + n ≤ 240) (hF : 250 ≤ F) : ∀ (g u k s : Nat) (D : tD) (A V : tA2), D.1 + g = 4 → g < u → k ≤ n → MR f A0 V0 A V k D.1 D.1 D → okT s D → (D.1 = 0 ∧ s = 1 ∨ s = 5 ∧ (D.2.2.1 (D.1 - 1) = 4 ∨ k = n ∨ ltX (A0 71 (f + k)) = false)) → ∃ A' V', x_X8_readAll_17 F 68 (nI (f + n)) u (mk A B V q) = some (cI (prD (fun i => A0 71 (f + i)) (n - k) k s D).1, mk A' B V' q) ∧ FRM A0 V0 A' V' ∧ V' 68 11 = nI (f + (prD (fun i => A0 71 (f + i)) (n - k) k s D).2.1) ∧ ((prD (fun i => A0 71 (f + i)) (n - k) k s D).1 = true → ∃ k', MR f A0 V0 A' V' k' (prD (fun i => A0 71 (f + i)) (n - k) k s D).2.2.1 (prD (fun i => A0 71 (f + i)) (n - k) k s D).2.2.1 (prD (fun i => A0 71 (f + i)) (n - k) k s D).2.2) := by
  intro g
  induction g with
  | zero =>
    intro u k s D A V hg hu hk hM hD hs
    obtain ⟨u, rfl⟩ : ∃ z, u = z + 1 := ⟨u - 1, by omega⟩
    obtain ⟨rfl, hst⟩ : s = 5 ∧ (D.2.2.1 (D.1 - 1) = 4 ∨ k = n ∨ ltX (A0 71 (f + k)) = false) := by
      rcases hs with z | z
      · omega
      · exact z
    have hM0 := hM
    obtain ⟨m1, m2, m3, m4⟩ := hM
    have top : x_X8_readAll_17 F 68 (nI (f + n)) (u + 1) (mk A B V q) = if k = n then some (1, mk A B V q) else some (0, mk A B V q) := by
      show s_X8_readAll_17 _ _ _ _ _ = _
      unfold s_X8_readAll_17 x_X8_readAll_77
      rw [g_68_12, bs, m3, show D.1 = 4 by omega, if_neg (by decide), bs, if_pos (by decide), g_68_11, bs, m2]
      by_cases e : k = n
      · rw [if_pos (by rw [e]), if_pos e]
      · rw [if_neg (nI_eq' (by omega) (by omega) (by omega)), if_neg e]
    by_cases e : k = n
    · rw [if_pos e] at top
      have pe : prD (fun i => A0 71 (f + i)) (n - k) k 5 D = (true, k, D) := by rw [show n - k = 0 by omega]; rfl
      rw [pe]
      exact ⟨A, V, top, m1, m2, fun _ => ⟨k, hM0⟩⟩
    · rw [if_neg e] at top
      rw [ra_stop (by omega) (by omega) hst]
      exact ⟨A, V, top, m1, m2, fun z => by cases z⟩
  | succ g ih =>
    intro u k s D A V hg hu hk hM hD hs
    obtain ⟨u, rfl⟩ : ∃ z, u = z + 1 := ⟨u - 1, by omega⟩
    have hM0 := hM
    obtain ⟨m1, m2, m3, m4⟩ := hM
    have m71 : A 71 = A0 71 := m1.1 71 (by omega) (by omega) (by omega)
    have body : ∃ A' V', x_X8_readAll_40 F (x_X8_readAll_17 F 68 (nI (f + n)) u) (mk A B V q) 68 (nI (f + n)) = some (cI (prD (fun i => A0 71 (f + i)) (n - k) k s D).1, mk A' B V' q) ∧ FRM A0 V0 A' V' ∧ V' 68 11 = nI (f + (prD (fun i => A0 71 (f + i)) (n - k) k s D).2.1) ∧ ((prD (fun i => A0 71 (f + i)) (n - k) k s D).1 = true → ∃ k', MR f A0 V0 A' V' k' (prD (fun i => A0 71 (f + i)) (n - k) k s D).2.2.1 (prD (fun i => A0 71 (f + i)) (n - k) k s D).2.2.1 (prD (fun i => A0 71 (f + i)) (n - k) k s D).2.2) ∨ (s = 5 ∧ k = n) := by
      by_cases hcut : s = 5 ∧ k = n
      · exact ⟨A, V, Or.inr hcut⟩
      · unfold x_X8_readAll_40
        rw [x8_isSign m2 hk hn, m71]
        by_cases hsg : k < n ∧ A0 71 (f + k) = 59
        · rw [if_pos hsg, bs]
          rw [if_neg (show ¬ ((1 : Int32), mk A B (u2 V 68 11 (nI (f + (k + 1)))) q).1 = 0 from (by decide : ¬ (1 : Int32) = 0)), g_68_12, bs, u2_k _ _ (by omega), m3]
          have ebg : bgD D = some (2, D.1 + 1, D.2.1, va_up D.2.2.1 D.1 0, D.2.2.2) := by unfold bgD; rw [if_pos (by omega)]
          have en : nxD s D (A0 71 (f + k)) = some (2, D.1 + 1, D.2.1, va_up D.2.2.1 D.1 0, D.2.2.2) := by
            rcases hs with ⟨-, z⟩ | ⟨z, -⟩
            · rw [z, nx1, if_pos hsg.2]; exact ebg
            · rw [z, nx5, if_pos hsg.2]; exact ebg
          have hD2 := nxD_ok hD en
          have pr2 : prD (fun i => A0 71 (f + i)) (n - k) k s D = prD (fun i => A0 71 (f + i)) (n - (k + 1)) (k + 1) 2 (D.1 + 1, D.2.1, va_up D.2.2.1 D.1 0, D.2.2.2) := by
            rw [show n - k = (n - (k + 1)) + 1 by omega]
            exact prD_s (c := fun i => A0 71 (f + i)) en
          rw [pr2]
          have hM2 : MR f A0 V0 A (u2 V 68 11 (nI (f + (k + 1)))) (k + 1) D.1 D.1 (D.1 + 1, D.2.1, va_up D.2.2.1 D.1 0, D.2.2.2) := by
            refine ⟨⟨m1.1, fun p i h => by rw [u2_ne (by omega)]; exact m1.2 p i h⟩, u2_s _ _ _ _, by rw [u2_k _ _ (by omega)]; exact m3, fun j hj => ?_⟩
            dsimp only
            rw [up_ne _ _ (show j ≠ D.1 by omega)]
            exact m4 j hj
          rcases x8_readWord (B := B) (q := q) (F := F) hn (show D.1 < 4 by omega) (show k + 1 ≤ n by omega) hF hM2 rfl hD2 with ⟨A', V', y1, y2, y3, y4⟩ | ⟨k', D', A', V', y1, y2, y3, y4, y5, y6, y7⟩
          · refine ⟨A', V', Or.inl ⟨?_, y2, y4, fun z => by rw [y3] at z; cases z⟩⟩
            dsimp only
            rw [y1, bs, y3, if_pos rfl]; rfl
          · dsimp only
            rw [y1, bs]
            obtain ⟨n1, n2, n3, n4'⟩ := y2
            rw [if_neg (show ¬ ((1 : Int32), mk A' B V' q).1 = 0 from (by decide : ¬ (1 : Int32) = 0)), g_68_12, bs, n3, nI_1, w_68_12, bs]
            obtain ⟨A2, V2, i1, i2, i3, i4⟩ := ih u k' 5 D' A' (u2 V' 68 12 (nI (D.1 + 1))) (by omega) (by omega) y4 (by
              refine ⟨⟨n1.1, fun p i h => by rw [u2_ne (by omega)]; exact n1.2 p i h⟩, by rw [u2_k _ _ (by omega)]; exact n2, by rw [u2_s, y3], n4'⟩) y5 (Or.inr ⟨rfl, by rw [show D'.1 - 1 = D.1 by omega]; exact y7⟩)
            rw [y6]
            exact ⟨A2, V2, Or.inl ⟨i1, i2, i3, i4⟩⟩
        · rw [if_neg hsg, bs]
          rw [if_pos (show ((0 : Int32), mk A B V q).1 = 0 from rfl)]
          refine ⟨A, V, Or.inl ?_⟩
          have pe : prD (fun i => A0 71 (f + i)) (n - k) k s D = (false, k, D) := by
            rcases hs with ⟨-, z⟩ | ⟨z, hst⟩
            · rcases Nat.lt_or_ge k n with z2 | z2
              · rw [show n - k = (n - (k + 1)) + 1 by omega, z]
                apply prD_n (c := fun i => A0 71 (f + i))
                show nxD 1 D (A0 71 (f + k)) = none
                rw [nx1, if_neg (fun z3 => hsg ⟨z2, z3⟩)]
              · rw [show n - k = 0 by omega, z]; rfl
            · rw [z]
              exact ra_stop (by omega) (fun z3 => hsg ⟨by omega, z3.1⟩) hst
          rw [pe]
          exact ⟨rfl, m1, m2, fun z => by cases z⟩
    have top : x_X8_readAll_17 F 68 (nI (f + n)) (u + 1) (mk A B V q) = if s = 5 ∧ k = n then some (1, mk A B V q) else x_X8_readAll_40 F (x_X8_readAll_17 F 68 (nI (f + n)) u) (mk A B V q) 68 (nI (f + n)) := by
      show s_X8_readAll_17 _ _ _ _ _ = _
      unfold s_X8_readAll_17 x_X8_readAll_77
      rw [g_68_12, bs, m3]
      rcases hs with ⟨z1, z2⟩ | ⟨z1, -⟩
      · rw [z1, if_pos nI_0, if_neg (by omega)]
      · have := hD.2.2.1 (by omega)
        rw [if_neg (nz0 (by omega) (by omega)), bs, if_neg (show ¬ (4 : Int32) ≤ nI D.1 from fun z => by have := (nI_leI (a := 4) (by omega) (by omega)).mp z; omega), g_68_11, bs, m2]
        by_cases e : k = n
        · rw [if_pos ((nI_leI (by omega) (by omega)).mpr (by omega)), bs, if_pos (by rw [e]), if_pos ⟨z1, e⟩]
        · rw [if_neg (fun z => by have := (nI_leI (by omega) (by omega)).mp z; omega), if_neg (fun z => e z.2)]
    obtain ⟨A', V', hb⟩ := body
    by_cases hcut : s = 5 ∧ k = n
    · rw [if_pos hcut] at top
      have pe : prD (fun i => A0 71 (f + i)) (n - k) k s D = (true, k, D) := by rw [show n - k = 0 by omega, hcut.1]; rfl
      rw [pe]
      exact ⟨A, V, top, m1, m2, fun _ => ⟨k, hM0⟩⟩
    · rw [if_neg hcut] at top
      rcases hb with hb | hb
      · exact ⟨A', V', by rw [top]; exact hb.1, hb.2⟩
      · exact absurd hb hcut
theorem x8_readAll {A V : tA2} {f n : Nat} (hn : f + n ≤ 240) (hF : 250 ≤ F) (hV : V 68 11 = nI f) (D0 : tD) (h0 : D0.1 = 0) (hD0 : okT 0 D0) : ∃ A' V', x_X8_readAll F (mk A B V q) 68 (nI (f + n)) = some (cI (prD (fun i => A 71 (f + i)) n 0 0 D0).1, mk A' B V' q) ∧ FRM A V A' V' ∧ V' 68 11 = nI (f + (prD (fun i => A 71 (f + i)) n 0 0 D0).2.1) ∧ ((prD (fun i => A 71 (f + i)) n 0 0 D0).1 = true → ∃ k', MR f A V A' V' k' (prD (fun i => A 71 (f + i)) n 0 0 D0).2.2.1 (prD (fun i => A 71 (f + i)) n 0 0 D0).2.2.1 (prD (fun i => A 71 (f + i)) n 0 0 D0).2.2) := by
  unfold x_X8_readAll
  rw [c_68, bs, w_68_12, bs, x8_isSign (k := 0) (by rw [u2_k _ _ (by omega), Nat.add_zero]; exact hV) (by omega) hn]
  have fr : FRM A V A (u2 V 68 12 0) := ⟨fun _ _ _ _ => rfl, fun p i h => u2_ne (by omega)⟩
  by_cases hs : 0 < n ∧ A 71 (f + 0) = 119
  · rw [if_pos hs, bs]
    rw [if_neg (show ¬ ((1 : Int32), mk A B (u2 (u2 V 68 12 0) 68 11 (nI (f + (0 + 1)))) q).1 = 0 from (by decide : ¬ (1 : Int32) = 0))]
    have en : nxD 0 D0 (A 71 (f + 0)) = some (1, D0) := by rw [nx0, if_pos hs.2]
    have pr : prD (fun i => A 71 (f + i)) n 0 0 D0 = prD (fun i => A 71 (f + i)) (n - 1) 1 1 D0 := by
      have : n = (n - 1) + 1 := by omega
      rw [this]
      exact prD_s (c := fun i => A 71 (f + i)) en
    rw [pr]
    exact ra_loop (B := B) (q := q) (F := F) (A0 := A) (V0 := V) hn hF 4 F 1 1 D0 A (u2 (u2 V 68 12 0) 68 11 (nI (f + (0 + 1)))) (by omega) (by omega) (by omega) ⟨⟨fun _ _ _ _ => rfl, fun p i h => by rw [u2_ne (by omega), u2_ne (by omega)]⟩, by rw [u2_s], by rw [u2_k _ _ (by omega), u2_s, h0]; rfl, fun j hj => absurd hj (by omega)⟩ (nxD_ok hD0 en) (Or.inl ⟨h0, rfl⟩)
  · rw [if_neg hs, bs]
    rw [if_pos (show ((0 : Int32), mk A B (u2 V 68 12 0) q).1 = 0 from rfl)]
    have pe : prD (fun i => A 71 (f + i)) n 0 0 D0 = (false, 0, D0) := by
      rcases Nat.eq_zero_or_pos n with z | z
      · rw [z]; rfl
      · rw [show n = (n - 1) + 1 by omega]
        apply prD_n (c := fun i => A 71 (f + i))
        show nxD 0 D0 (A 71 (f + 0)) = none
        rw [nx0, if_neg (fun z2 => hs ⟨z, z2⟩)]
    rw [pe]
    exact ⟨A, _, rfl, fr, by rw [u2_k _ _ (by omega), Nat.add_zero]; exact hV, fun z => by cases z⟩
/-! the copying -/
theorem x8_wc_in {V : tA2} {w : Nat} (hw : w < 4) (k95 : pH → Int32 → Option (Int32 × pH)) : ∀ (d u j : Nat) (A : tA2), j + d = 4 → d < u → ∃ A', x_X8_words_135 F k95 68 (nI w) u (mk A B V q) (nI j) = k95 (mk A' B V q) (nI (w + 1)) ∧ (∀ p, p ≠ 74 → A' p = A p) ∧ (∀ i, ¬ (4 * w + j ≤ i ∧ i < 4 * w + 4) → A' 74 i = A 74 i) ∧ ∀ i, j ≤ i → i < 4 → A' 74 (4 * w + i) = A 78 (4 * w + i) := by
  intro d
  induction d with
  | zero =>
    intro u j A hj hu
    obtain ⟨u, rfl⟩ : ∃ z, u = z + 1 := ⟨u - 1, by omega⟩
    refine ⟨A, ?_, fun _ _ => rfl, fun _ _ => rfl, fun i h1 h2 => by omega⟩
    show s_X8_words_135 _ _ _ _ _ _ _ = _
    unfold s_X8_words_135
    rw [show j = 4 by omega, if_pos (by decide), nI_1]
  | succ d ih =>
    intro u j A hj hu
    obtain ⟨u, rfl⟩ : ∃ z, u = z + 1 := ⟨u - 1, by omega⟩
    obtain ⟨A', h1, h2, h3, h4⟩ := ih u (j + 1) (u2 A 74 (4 * w + j) (A 78 (4 * w + j))) (by omega) (by omega)
    refine ⟨A', ?_, fun p hp => by rw [h2 p hp, u2_pp _ _ hp], fun i hi => by rw [h3 i (by omega), u2_k _ _ (by omega)], fun i hi1 hi2 => ?_⟩
    · show s_X8_words_135 _ _ _ _ _ _ _ = _
      unfold s_X8_words_135
      rw [if_neg (show ¬ (4 : Int32) ≤ nI j from fun z => by have := (nI_leI (a := 4) (by omega) (by omega)).mp z; omega), r_68_9, bs, r_68_15, bs, n4, nI_add, l_78 (inb_nI (by omega) (by omega)), bs, s_74 (inb_nI (by omega) (by omega)), bs, tn (by omega), nI_1]
      exact h1
    · by_cases e : i = j
      · subst e; rw [h3 _ (by omega), u2_s]
      · rw [h4 i (by omega) hi2, u2_p _ _ (by omega)]
theorem x8_wc_out {V : tA2} {m : Nat} (hm : m ≤ 4) (hV : V 68 5 = nI m) (hF : 20 ≤ F) : ∀ (d u w : Nat) (A : tA2), w + d = m → d < u → ∃ A', x_X8_words_95 F 68 u (mk A B V q) (nI w) = some (nI m, mk A' B (u2 (u2 V 68 6 0) 68 25 0) q) ∧ (∀ p, p ≠ 72 → p ≠ 73 → p ≠ 74 → A' p = A p) ∧ (∀ i, i < w → A' 72 i = A 72 i ∧ A' 73 i = A 73 i ∧ ∀ k, k < 4 → A' 74 (4 * i + k) = A 74 (4 * i + k)) ∧ ∀ i, w ≤ i → i < m → A' 72 i = A 76 i ∧ A' 73 i = A 77 i ∧ ∀ k, k < 4 → A' 74 (4 * i + k) = A 78 (4 * i + k) := by
  intro d
  induction d with
  | zero =>
    intro u w A hw hu
    obtain ⟨u, rfl⟩ : ∃ z, u = z + 1 := ⟨u - 1, by omega⟩
    refine ⟨A, ?_, fun _ _ _ _ => rfl, fun _ _ => ⟨rfl, rfl, fun _ _ => rfl⟩, fun i h1 h2 => by omega⟩
    show s_X8_words_95 _ _ _ _ _ = _
    unfold s_X8_words_95
    rw [g_68_5, bs, hV, if_pos ((nI_leI (by omega) (by omega)).mpr (by omega)), w_68_6, bs, w_68_25, bs, g_68_5, bs, u2_k _ _ (by omega), u2_k _ _ (by omega), hV]
  | succ d ih =>
    intro u w A hw hu
    obtain ⟨u, rfl⟩ : ∃ z, u = z + 1 := ⟨u - 1, by omega⟩
    have hi4 : inb (nI w) 4 = true := inb_nI (by omega) (by omega)
    have tw : (nI w).toNatClampNeg = w := tn (by omega)
    obtain ⟨A1, h1, h2, h3, h4⟩ := x8_wc_in (B := B) (q := q) (F := F) (V := V) (show w < 4 by omega) (x_X8_words_95 F 68 u) 4 F 0 (u2 (u2 A 72 w (A 76 w)) 73 w (A 77 w)) (by omega) (by omega)
    obtain ⟨A', i1, i2, i3, i4⟩ := ih u (w + 1) A1 (by omega) (by omega)
    refine ⟨A', ?_, fun p p1 p2 p3 => by rw [i2 p p1 p2 p3, h2 p p3, u2_pp _ _ p2, u2_pp _ _ p1], fun i hi => ?_, fun i hi1 hi2 => ?_⟩
    · show s_X8_words_95 _ _ _ _ _ = _
      unfold s_X8_words_95
      rw [g_68_5, bs, hV, if_neg (fun z => by have := (nI_leI (by omega) (by omega)).mp z; omega), r_68_7, bs, r_68_13, bs, l_76 hi4, bs, s_72 hi4, bs, r_68_8, bs, r_68_14, bs, l_77 hi4, bs, s_73 hi4, bs, tw, u2_p (p' := 77) _ _ (by omega)]
      rw [nI_0] at h1
      rw [h1]
      exact i1
    · obtain ⟨z1, z2, z3⟩ := i3 i (by omega)
      rw [z1, z2, h2 72 (by omega), h2 73 (by omega), u2_p (p' := 72) _ _ (by omega), u2_k _ _ (by omega), u2_k _ _ (by omega), u2_p _ _ (by omega)]
      refine ⟨rfl, rfl, fun k hk => ?_⟩
      rw [z3 k hk, h3 _ (by omega), u2_p _ _ (by omega), u2_p _ _ (by omega)]
    · by_cases e : i = w
      · subst e
        obtain ⟨z1, z2, z3⟩ := i3 i (by omega)
        rw [z1, z2, h2 72 (by omega), h2 73 (by omega), u2_p (p' := 72) _ _ (by omega), u2_s, u2_s]
        refine ⟨rfl, rfl, fun k hk => ?_⟩
        rw [z3 k hk, h4 k (by omega) hk, u2_p _ _ (by omega), u2_p _ _ (by omega)]
      · obtain ⟨z1, z2, z3⟩ := i4 i (by omega) hi2
        rw [z1, z2, h2 76 (by omega), h2 77 (by omega), u2_p (p' := 76) _ _ (by omega), u2_p (p' := 76) _ _ (by omega), u2_p (p' := 77) _ _ (by omega), u2_p (p' := 77) _ _ (by omega)]
        refine ⟨rfl, rfl, fun k hk => ?_⟩
        rw [z3 k hk, h2 78 (by omega), u2_p _ _ (by omega), u2_p _ _ (by omega)]
/-! references that change -/
theorem mk_putR {A : tA2} {V : tA2} {q q' : tQ} {p k ci x : Nat} (hs : (shp p).1 = ci) (hc : ci ≤ 8) (hk : (fkb ci)[k]? = some false) (h1 : ∀ p' k', p' ≠ p → rf q' p' k' = rf q p' k') (h3 : ∀ k', k' ≠ k → (fkb ci)[k']? = some false → rf q' p k' = rf q p k') (h2 : rf q' p k = x) : putV ci (mk A B V q) p k (.ref x) = some (mk A B V q') := by
  have hl : k < (fkb ci).length := (List.getElem?_eq_some_iff.mp hk).1
  unfold putV
  rw [mk_obj hs hc]
  simp only [List.length_mapIdx, hl, and_self, if_true]
  congr 1
  funext j
  by_cases e : j = p
  · subst e
    rw [up_at, mk_obj hs hc]
    congr 2
    apply List.ext_getElem?
    intro i
    by_cases ei : i = k
    · subst ei
      rw [List.getElem?_set_self (by rw [List.length_mapIdx]; exact hl)]
      simp [List.getElem?_mapIdx, hk, h2]
    · rw [List.getElem?_set_ne (Ne.symm ei)]
      rw [List.getElem?_mapIdx, List.getElem?_mapIdx]
      cases hf : (fkb ci)[i]? with
      | none => rfl
      | some b =>
        cases b
        · rw [h3 i ei hf]
        · rfl
  · rw [up_ne _ _ e]
    unfold mk
    have : rf q' j = rf q j := by funext i; exact h1 j i e
    rw [this]
theorem pr_0_2 {A : tA2} {V : tA2} {x : Nat} : putV 7 (mk A B V q) 0 2 (.ref x) = some (mk A B V (x, q.2)) := by
  refine mk_putR (ci := 7) rfl (by decide) rfl (fun p k h => ?_) (fun k h _ => ?_) ?_
  · unfold rf
    simp [h]
  · unfold rf
    simp [h]
  · simp [rf]
theorem pr_2_0 {A : tA2} {V : tA2} {x : Nat} : putV 5 (mk A B V q) 2 0 (.ref x) = some (mk A B V (q.1, x, q.2.2)) := by
  refine mk_putR (ci := 5) rfl (by decide) rfl (fun p k h => ?_) (fun k h hf => ?_) ?_
  · unfold rf
    simp [h]
  · have e : (fkb 5) = [false, true] := rfl
    rw [e] at hf
    match k, h, hf with
    | 0, h, _ => exact absurd rfl h
    | 1, _, hf => cases hf
    | k + 2, _, hf => simp at hf
  · simp [rf]
theorem x7_takeText {A V : tA2} : x_X7_takeText F (mk A B V q) 0 = some (mk A B (u2 (u2 (u2 (u2 V 0 3 (V 2 1)) 0 5 0) 0 8 0) 0 14 1) (q.2.1, q.1, q.2.2)) := by
  unfold x_X7_takeText
  rw [c_0, bs, r_0_2, bs, r_0_1, bs, r_2_0, bs, pr_0_2, bs, r_0_1, bs, pr_2_0, bs, r_0_1, bs, g_2_1, bs, w_0_3, bs, w_0_5, bs, w_0_8, bs, z_0_14_1, bs]
end MA
section ST13
variable {NO : tNO} {SS : (Nat → Int32) → Prop} {F : Nat}
theorem step_words (hNO : NOf NO) (hF : 300 ≤ F) : st_words (InvH NO SS) F := by
  intro h a1 a2 a3 a4 hI
  obtain ⟨A, B, V, q, m, kd, ln, lt, rfl, hI⟩ := hI
  have hI0 := hI
  obtain ⟨hq, hW, hS, hZ, hR, hT, hSS, hN⟩ := hI
  obtain ⟨hm, v1, v2, hX, hM, hL⟩ := id hW
  have ff := fun x => inv_fault hNO hI0 x
  have T3 : (3 : Int32) = nI 3 := rfl
  have b3 : ∀ {h : pH}, x_X7_isBelow F h a2 (nI 3) = some (cI (inb a2 3)) := x7_isBelow (by omega)
  have nt : ¬ cI true = 0 := by decide
  have triv : ∀ r : Int32, x_X7_words F (mk A B V q) 0 a1 a2 a3 a4 = some (r, mk A B (u2 V 0 16 0) q) → x_X8_words F (mk A B (u2 V 0 16 0) q) 68 a1 a2 a3 a4 = some (r, mk A B (u2 (u2 V 0 16 0) 68 0 0) q) → ∃ (q1 : Int32 × pH) (q2 : Int32 × pH), x_X7_words F (mk A B V q) 0 a1 a2 a3 a4 = some q1 ∧ x_X8_words F q1.2 68 a1 a2 a3 a4 = some q2 ∧ q1.1 = q2.1 ∧ InvH NO SS q2.2 := fun r e1 e2 => ⟨(r, _), (r, _), e1, e2, rfl, A, B, _, q, m, kd, ln, lt, rfl, ff 0⟩
  cases hb1 : inb a1 4
  · refine triv (-1) ?_ ?_
    · unfold x_X7_words
      rw [c_0, bs, w_0_16, bs, x7_isSheet, bs, hb1, if_pos cI_f]
    · unfold x_X8_words
      rw [c_68, bs, w_68_0, bs, x8_isSheet, bs, hb1, if_pos cI_f]
  · cases hb2 : inb a2 3
    · refine triv (-2) ?_ ?_
      · unfold x_X7_words
        rw [c_0, bs, w_0_16, bs, x7_isSheet, bs, hb1, if_neg nt, T3, b3, bs, hb2, if_pos cI_f]
      · unfold x_X8_words
        rw [c_68, bs, w_68_0, bs, x8_isSheet, bs, hb1, if_neg nt, x8_isSort, bs, hb2, if_pos cI_f]
    · obtain ⟨k, hk, rfl⟩ := inb_ex hb1 (by omega)
      obtain ⟨t, la, l, hD⟩ := SI_D hS hk
      have hD7 : shD A (u2 V 0 16 0) k t la l := shD_c hD (u2_pp _ _ (by omega)) rfl rfl rfl rfl
      by_cases hf0 : fcN t la l a2 a3 a4 = 0
      · have hc : hcB a3 a4 l = true := fcN_0 hf0
        have hl := hD.2.1
        obtain ⟨a, n, hab, rfl, rfl⟩ := hcB_ex hc (by omega)
        have hd : q.2.1 = 3 ∨ q.2.1 = 12 := by rcases hq.1 with ⟨-, z⟩ | ⟨-, z⟩ <;> omega
        have db := dlo_b (dr := q.2.1)
        obtain ⟨D0, hD0⟩ : ∃ D0 : tD, D0 = (0, (fun _ => 0), (fun _ => 0), (fun _ _ => 0)) := ⟨_, rfl⟩
        have d01 : D0.1 = 0 := by rw [hD0]
        have ok0 : okT 0 D0 := ⟨by omega, by omega, by omega, fun j hj => by omega, fun j hj => by omega, fun j hj => by omega, by omega, fun j hj => by omega⟩
        have cr0 : CR q.2.1 A (u2 V 0 16 0) A (u2 (u2 V 0 16 0) 2 1 0) 0 D0 := ⟨fun _ _ => rfl, fun p h1 h2 => u2_pp _ _ h2, by rw [u2_s, d01]; rfl, fun j hj => by omega⟩
        obtain ⟨A7, V7, p1, s7, p2, p3⟩ := x5_ff_loop (B := B) (F := F) (k0 := k) (a := a) (n := n) hq hk (by omega) n F 0 0 D0 A (u2 (u2 V 0 16 0) 2 1 0) (by omega) (by omega) cr0 ok0
        have pok := prD_ok (c := fun i => A (45 + 2 * k) (a + i)) n 0 0 D0 ok0
        have ple := prD_le (c := fun i => A (45 + 2 * k) (a + i)) n 0 0 D0
        obtain ⟨R, hR'⟩ : ∃ R, prD (fun i => A (45 + 2 * k) (a + i)) n 0 0 D0 = R := ⟨_, rfl⟩
        rw [hR'] at p1 p2 p3 pok ple
        have ff7 : x_X5_firstFault F (mk A B (u2 V 0 16 0) q) 2 (44 + 2 * k) (nI a) (nI n) = some (if R.1 = true then -9 else nI R.2.1, mk A7 B V7 q) := by
          unfold x_X5_firstFault
          rw [c_2, bs, x4_hasCells (isS_k hk) hD7.2.2.2.2.1 (by omega), bs, hc, if_neg nt, w_2_1, bs]
          exact p1
        have top7 : x_X7_words F (mk A B V q) 0 (nI k) a2 (nI a) (nI n) = if R.1 = true then some (V7 2 1, mk A7 B (u2 (u2 (u2 (u2 V7 0 3 (V7 2 1)) 0 5 0) 0 8 0) 0 14 1) (q.2.1, q.1, q.2.2)) else some (-100 - nI R.2.1, mk A7 B V7 q) := by
          unfold x_X7_words
          rw [c_0, bs, w_0_16, bs, x7_isSheet, bs, hb1, if_neg nt, T3, b3, bs, hb2, if_neg nt, r_0_0, bs, l_sh hk, bs, x4_faultOfCells hk hD7, bs, hf0, if_pos nI_0, r_0_1, bs, bs, l_sh hk, bs, ff7, bs]
          dsimp only
          cases hr : R.1
          · simp only [if_neg (show ¬ false = true by decide), if_neg (nI_n9 (show R.2.1 < 2 ^ 31 by omega))]
          · rw [if_pos rfl, if_pos rfl, if_pos rfl, x7_takeText, bs, g_0_3, bs, u2_k _ _ (by omega), u2_k _ _ (by omega), u2_k _ _ (by omega), u2_s]
        -- what has not changed
        have fA7 : ∀ p, 21 ≤ p → A7 p = A p := fun p hp => p2.1 p (by omega)
        have fV7 : ∀ p, 21 ≤ p → V7 p = V p := fun p hp => by rw [p2.2.1 p (by omega) (by omega), u2_pp _ _ (by omega)]
        have fV0 : V7 0 = u2 V 0 16 0 0 := p2.2.1 0 (by omega) (by omega)
        have hD8 : ∀ V8 : tA2, V8 (44 + 2 * k) = V7 (44 + 2 * k) → shD A7 (u2 V8 68 0 0) k t la l := fun V8 e => shD_c hD (by rw [u2_pp _ _ (by omega), e, fV7 _ (by omega)]) (fA7 _ (by omega)) (fA7 _ (by omega)) (fA7 _ (by omega)) (fA7 _ (by omega))
        have cod : (fun i => A7 71 (60 * k + a + i)) = (fun i => A7 71 (60 * k + (a + i))) := by funext i; rw [Nat.add_assoc]
        have same : prD (fun i => A7 71 (60 * k + a + i)) n 0 0 D0 = R := by
          rw [← hR']
          have cg : ∀ (c c' : Nat → Int32) (d k s : Nat) (D : tD), (∀ i, k ≤ i → i < k + d → c i = c' i) → prD c d k s D = prD c' d k s D := by
            intro c c' d
            induction d with
            | zero => intro k s D _; rfl
            | succ d ih =>
              intro k s D hc
              simp only [prD]
              rw [hc k (by omega) (by omega)]
              cases nxD s D (c' k) with
              | none => rfl
              | some r => exact ih (k + 1) _ _ (fun i h1 h2 => hc i (by omega) (by omega))
          refine cg _ _ n 0 0 D0 (fun i _ hi => ?_)
          show A7 71 (60 * k + a + i) = A (45 + 2 * k) (a + i)
          rw [fA7 _ (by omega), Nat.add_assoc, hD.2.2.2.2.2.2.2.2 (a + i) (by omega)]
        have e0 : ∀ i, a + i < 60 → A 71 (60 * k + (a + i)) = A (45 + 2 * k) (a + i) := fun i hi => hD.2.2.2.2.2.2.2.2 (a + i) hi
        have top8 : ∀ (V8 : tA2) (q8 : tQ), V8 (44 + 2 * k) = V7 (44 + 2 * k) → ∃ A9 V9, x_X8_words F (mk A7 B V8 q8) 68 (nI k) a2 (nI a) (nI n) = (if R.1 = true then (getI 8 (mk A9 B V9 q8) 68 12).bind fun v7 => (putV 8 (mk A9 B V9 q8) 68 5 (.int v7)).bind fun v8 => x_X8_words_95 F 68 F v8 0 else some (-100 - nI R.2.1, mk A9 B V9 q8)) ∧ FRM A7 (u2 V8 68 0 0) A9 V9 ∧ (R.1 = true → ∃ k', MR (60 * k + a) A7 (u2 (u2 V8 68 0 0) 68 11 (nI (60 * k + a))) A9 V9 k' R.2.2.1 R.2.2.1 R.2.2) := by
          intro V8 q8 e8
          obtain ⟨A9, V9, r1, r2, r3, r4⟩ := x8_readAll (B := B) (q := q8) (F := F) (A := A7) (V := u2 (u2 V8 68 0 0) 68 11 (nI (60 * k + a))) (f := 60 * k + a) (n := n) (by omega) (by omega) (u2_s _ _ _ _) D0 d01 ok0
          rw [same] at r1 r3 r4
          refine ⟨A9, V9, ?_, ⟨r2.1, fun p i h => by rw [r2.2 p i h, u2_ne (by omega)]⟩, r4⟩
          unfold x_X8_words
          rw [c_68, bs, w_68_0, bs, x8_isSheet, bs, hb1, if_neg nt, x8_isSort, bs, hb2, if_neg nt, x8_against hk (hD8 V8 e8), bs, hf0, if_pos nI_0, n60, nI_add, nI_add, w_68_11, bs, r1, bs]
          dsimp only
          cases hr : R.1
          · rw [if_pos cI_f, if_neg (by decide), g_68_11, bs, r3, pk_sub (by omega), show 60 * k + a + R.2.1 - (60 * k + a) = R.2.1 by omega]
          · rw [if_neg nt, if_pos rfl]
        rw [top7]
        cases hr : R.1
        · rw [if_neg (by decide)]
          obtain ⟨A9, V9, r1, r2, -⟩ := top8 V7 q rfl
          rw [hr, if_neg (by decide)] at r1
          refine ⟨(_, _), (_, _), rfl, r1, rfl, A9, B, V9, q, m, kd, ln, lt, rfl, ?_⟩
          have hkn := okQ_kn hq
          have ap : ∀ p, ¬ (dlo q.2.1 ≤ p ∧ p ≤ dlo q.2.1 + 7) → p ≠ 76 → p ≠ 77 → p ≠ 78 → A9 p = A p := fun p h1 h2 h3 h4 => by rw [r2.1 p h2 h3 h4, p2.1 p h1]
          have vp : ∀ p i, ¬ (dlo q.2.1 ≤ p ∧ p ≤ dlo q.2.1 + 7) → p ≠ 2 → ¬ (p = 68 ∧ (i = 11 ∨ i = 12)) → V9 p i = u2 (u2 V 0 16 0) 68 0 0 p i := fun p i h1 h2 h3 => by
            rw [r2.2 p i h3]
            by_cases e : p = 68 ∧ i = 0
            · obtain ⟨rfl, rfl⟩ := e; rw [u2_s, u2_s]
            · rw [u2_ne e, u2_ne e, p2.2.1 p h1 h2]
          have dq : (q.1 = 3 ∧ dlo q.2.1 = 13) ∨ (q.1 = 12 ∧ dlo q.2.1 = 4) := by
            rcases hq.1 with ⟨z1, z2⟩ | ⟨z1, z2⟩
            · left; exact ⟨z1, by rw [z2]; rfl⟩
            · right; exact ⟨z1, by rw [z2]; rfl⟩
          obtain ⟨gq, gW, gS, gZ, gR, gT, gSS, gN⟩ := ff 0
          obtain ⟨g1, g2, g3, gX, gM, gL⟩ := gW
          refine ⟨hq, ⟨hm, by rw [vp _ _ (by omega) (by omega) (by omega)]; exact g2, by rw [vp _ _ (by omega) (by omega) (by omega)]; exact g3, fun w hw => ?_, repM_c gM (ap _ (by omega) (by omega) (by omega) (by omega)) (ap _ (by omega) (by omega) (by omega) (by omega)) (ap _ (by omega) (by omega) (by omega) (by omega)), gL⟩, SI_c gS (fun p h1 h2 => ⟨ap p (by omega) (by omega) (by omega) (by omega), by funext i; exact vp p i (by omega) (by omega) (by omega)⟩) (ap _ (by omega) (by omega) (by omega) (by omega)) (ap _ (by omega) (by omega) (by omega) (by omega)) (ap _ (by omega) (by omega) (by omega) (by omega)), ZI_c gZ (ap _ (by omega) (by omega) (by omega) (by omega)) (ap _ (by omega) (by omega) (by omega) (by omega)) (vp _ _ (by omega) (by omega) (by omega)) (vp _ _ (by omega) (by omega) (by omega)), RI_c gR (fun p h1 h2 => ⟨ap p (by omega) (by omega) (by omega) (by omega), by funext i; exact vp p i (by omega) (by omega) (by omega)⟩) (fun p h1 h2 => ap p (by omega) (by omega) (by omega) (by omega)) (vp _ _ (by omega) (by omega) (by omega)) (vp _ _ (by omega) (by omega) (by omega)), TI_c gT (vp _ _ (by omega) (by omega) (by omega)) (vp _ _ (by omega) (by omega) (by omega)) (vp _ _ (by omega) (by omega) (by omega)) (vp _ _ (by omega) (by omega) (by omega)), by rw [ap _ (by omega) (by omega) (by omega) (by omega)]; exact gSS, ?_⟩
          · have ew : wpl q.1 w = (if q.1 = 3 then 4 else 13) + 2 * w := by rcases dq with ⟨z, -⟩ | ⟨z, -⟩ <;> rw [z] <;> simp [wpl]
            have out : ∀ p, wpl q.1 w ≤ p → p ≤ wpl q.1 w + 1 → ¬ (dlo q.2.1 ≤ p ∧ p ≤ dlo q.2.1 + 7) ∧ 4 ≤ p ∧ p ≤ 20 := fun p h1 h2 => by
              rcases dq with ⟨z1, z2⟩ | ⟨z1, z2⟩
              · rw [if_pos z1] at ew; omega
              · rw [if_neg (by omega)] at ew; omega
            have o1 := out (wpl q.1 w) (by omega) (by omega)
            have o2 := out (wpl q.1 w + 1) (by omega) (by omega)
            exact atW_c (gX w hw) (ap _ o2.1 (by omega) (by omega) (by omega)) (by funext i; exact vp _ i o1.1 (by omega) (by omega))
          · rw [vp 0 14 (by omega) (by omega) (by omega)]
            rcases gN with z | ⟨z1, z2⟩
            · exact Or.inl z
            · exact Or.inr ⟨z1, hNO A _ B B _ _ q m kd ln lt (fun p h1 h2 => ⟨ap p (by omega) (by omega) (by omega) (by omega), rfl, by funext i; exact vp p i (by omega) (by omega) (by omega)⟩) z2⟩
        · rw [if_pos rfl]
          obtain ⟨V8, hV8⟩ : ∃ V8, V8 = u2 (u2 (u2 (u2 V7 0 3 (V7 2 1)) 0 5 0) 0 8 0) 0 14 1 := ⟨_, rfl⟩
          rw [← hV8]
          obtain ⟨A9, V9, r1, r2, r3⟩ := top8 V8 (q.2.1, q.1, q.2.2) (by rw [hV8, u2_pp _ _ (by omega), u2_pp _ _ (by omega), u2_pp _ _ (by omega), u2_pp _ _ (by omega)])
          obtain ⟨k', y1, y2, y3, y4⟩ := r3 hr
          have okR := pok hr
          have es7 := p3 hr
          obtain ⟨o1, o2, o3, o4, o5, o6, o7, o8⟩ := okR
          have hw1 := o3 (by omega)
          obtain ⟨A10, w1, w2, w3, w4⟩ := x8_wc_out (B := B) (q := (q.2.1, q.1, q.2.2)) (F := F) (V := u2 V9 68 5 (nI R.2.2.1)) (m := R.2.2.1) o2 (u2_s _ _ _ _) (by omega) R.2.2.1 F 0 A9 (by omega) (by omega)
          rw [hr, if_pos rfl, g_68_12, bs, y3, w_68_5, bs] at r1
          rw [nI_0] at w1
          rw [w1] at r1
          have v21 : V7 2 1 = nI R.2.2.1 := p2.2.2.1
          obtain ⟨V10, hV10⟩ : ∃ V10, V10 = u2 (u2 (u2 V9 68 5 (nI R.2.2.1)) 68 6 0) 68 25 0 := ⟨_, rfl⟩
          rw [← hV10] at r1
          refine ⟨(_, _), (_, _), rfl, r1, v21, A10, B, V10, (q.2.1, q.1, q.2.2), R.2.2.1, R.2.2.2.1, R.2.2.2.2.1, R.2.2.2.2.2, rfl, ?_⟩
          have ap : ∀ p, ¬ (72 ≤ p ∧ p ≤ 74) → ¬ (76 ≤ p ∧ p ≤ 78) → A10 p = A7 p := fun p h1 h2 => by rw [w2 p (by omega) (by omega) (by omega), r2.1 p (by omega) (by omega) (by omega)]
          have vp : ∀ p i, ¬ (p = 68 ∧ (i = 0 ∨ i = 5 ∨ i = 6 ∨ i = 11 ∨ i = 12 ∨ i = 25)) → V10 p i = V8 p i := fun p i h => by rw [hV10, u2_ne (by omega), u2_ne (by omega), u2_ne (by omega), r2.2 p i (by omega), u2_ne (by omega)]
          have v8 : ∀ p i, ¬ (p = 0 ∧ (i = 3 ∨ i = 5 ∨ i = 8 ∨ i = 14)) → V8 p i = V7 p i := fun p i h => by rw [hV8, u2_ne (by omega), u2_ne (by omega), u2_ne (by omega), u2_ne (by omega)]
          have vhi : ∀ p, 21 ≤ p → p ≠ 68 → V10 p = V p := fun p h1 h2 => by
            funext i
            rw [vp p i (by omega), v8 p i (by omega), fV7 p h1]
          have ahi : ∀ p, 21 ≤ p → ¬ (72 ≤ p ∧ p ≤ 74) → ¬ (76 ≤ p ∧ p ≤ 78) → A10 p = A p := fun p h1 h2 h3 => by rw [ap p h2 h3, fA7 p h1]
          refine ⟨?_, ⟨o2, ?_, ?_, fun w hw => ?_, fun w hw => ?_, fun w hw j hj => o8 w hw j hj⟩, SI_c hS (fun p h1 h2 => ⟨ahi p (by omega) (by omega) (by omega), vhi p (by omega) (by omega)⟩) (ahi _ (by omega) (by omega) (by omega)) (ahi _ (by omega) (by omega) (by omega)) (ahi _ (by omega) (by omega) (by omega)), ⟨0, by omega, ?_, ?_, fun i hi => by omega⟩, ⟨0, by omega, ?_, ?_, fun i hi => by omega⟩, ⟨?_, ?_⟩, by rw [ahi _ (by omega) (by omega) (by omega)]; exact hSS, Or.inl ?_⟩
          · refine ⟨?_, hq.2⟩
            rcases hq.1 with ⟨z1, z2⟩ | ⟨z1, z2⟩
            · right; exact ⟨z2, z1⟩
            · left; exact ⟨z2, z1⟩
          · rw [vp _ _ (by omega), hV8, u2_k _ _ (by omega), u2_k _ _ (by omega), u2_k _ _ (by omega), u2_s]; exact v21
          · rw [hV10, u2_k _ _ (by omega), u2_k _ _ (by omega), u2_s]
          · have hw4 : w < 4 := by omega
            have ew := wpl_d hd hw4
            obtain ⟨c1, c2, c3⟩ := p2.2.2.2 w hw
            have wW := wpl_isW hd hw4
            refine ⟨wW, ?_, ?_, o4 w hw (by omega), o6 w hw (by omega), o5 w hw, fun j hj => ?_⟩
            · show V10 (wpl q.2.1 w) 2 = _
              rw [vp _ _ (by omega), v8 _ _ (by omega)]; exact c2 (by omega)
            · show V10 (wpl q.2.1 w) 1 = _
              rw [vp _ _ (by omega), v8 _ _ (by omega)]; exact c1
            · show A10 (wpl q.2.1 w + 1) j = _
              rw [ap _ (by omega) (by omega)]; exact c3 j hj
          · obtain ⟨z1, z2, z3⟩ := w4 w (by omega) hw
            obtain ⟨x1, x2, x3⟩ := y4 w hw
            refine ⟨by rw [z1]; exact x1, by rw [z2]; exact x2, o4 w hw (by omega), o6 w hw (by omega), o5 w hw, fun j hj => ?_⟩
            have := o5 w hw
            rw [z3 j (by omega)]; exact x3 j hj
          · rw [vp _ _ (by omega), hV8, u2_k _ _ (by omega), u2_k _ _ (by omega), u2_s]; rfl
          · rw [hV10, u2_k _ _ (by omega), u2_s]; rfl
          · rw [vp _ _ (by omega), hV8, u2_k _ _ (by omega), u2_s]; rfl
          · rw [hV10, u2_s]; rfl
          · rw [vp _ _ (by omega), v8 _ _ (by omega), vp _ _ (by omega), v8 _ _ (by omega), fV0, fV7 _ (by omega), u2_k _ _ (by omega)]; exact hT.1
          · rw [vp _ _ (by omega), v8 _ _ (by omega), fV0, u2_s, hV10, u2_k _ _ (by omega), u2_k _ _ (by omega), u2_k _ _ (by omega), r2.2 _ _ (by omega), u2_s]
          · rw [vp _ _ (by omega), hV8, u2_s]
      · obtain ⟨r, hr1, hr2, hr3⟩ : ∃ r, fcN t la l a2 a3 a4 = r ∧ r ≠ 0 ∧ r ≤ 4 := ⟨_, rfl, hf0, fcN_le⟩
        refine ⟨(-10 - nI r, mk A B (u2 V 0 16 (nI r)) q), (-10 - nI r, mk A B (u2 (u2 V 0 16 (nI r)) 68 0 (nI r)) q), ?_, ?_, rfl, A, B, _, q, m, kd, ln, lt, rfl, ff _⟩
        · unfold x_X7_words
          rw [c_0, bs, w_0_16, bs, x7_isSheet, bs, hb1, if_neg nt, T3, b3, bs, hb2, if_neg nt, r_0_0, bs, l_sh hk, bs, x4_faultOfCells hk hD7, bs, hr1, if_neg (nz0 hr2 (by omega)), x7_failWith, bs, u2_u2]
        · unfold x_X8_words
          rw [c_68, bs, w_68_0, bs, x8_isSheet, bs, hb1, if_neg nt, x8_isSort, bs, hb2, if_neg nt, x8_against hk (shD_c hD (by rw [u2_pp _ _ (by omega), u2_pp _ _ (by omega)]) rfl rfl rfl rfl), bs, hr1, if_neg (nz0 hr2 (by omega)), x8_fails, bs, u2_u2]
end ST13
