/-! the net: where rows stay, what is heard -/
section LE
variable {B : tB2} {V : tA2} {q : tQ} {F : Nat}
theorem shN_4 {k : Nat} (h1 : 40 ≤ k) (h2 : k < 121) : shN k = sx 3 k ∧ 13 ≤ sx 3 k ∧ sx 3 k < 40 := by
  have a := sx_le 3 k
  have b := sx_ge 3 k (by simp only [lo]; omega)
  simp only [lo] at a b
  refine ⟨?_, by omega, by omega⟩
  unfold shN
  rw [if_neg (by omega), if_neg (by omega), if_neg (by omega)]
theorem shN_3 {k : Nat} (h1 : 13 ≤ k) (h2 : k < 40) : shN k = sx 2 k ∧ 4 ≤ sx 2 k ∧ sx 2 k < 13 ∧ sx 3 k = k := by
  have a := sx_le 2 k
  have b := sx_ge 2 k (by simp only [lo]; omega)
  simp only [lo] at a b
  refine ⟨?_, by omega, by omega, sx_self 3 k (by simp only [lo]; omega)⟩
  unfold shN
  rw [if_neg (by omega), if_neg (by omega), if_pos (by omega)]
theorem shN_2 {k : Nat} (h1 : 4 ≤ k) (h2 : k < 13) : shN k = sx 1 k ∧ 1 ≤ sx 1 k ∧ sx 1 k < 4 ∧ sx 2 k = k ∧ sx 3 k = k := by
  have a := sx_le 1 k
  have b := sx_ge 1 k (by simp only [lo]; omega)
  simp only [lo] at a b
  refine ⟨?_, by omega, by omega, sx_self 2 k (by simp only [lo]; omega), sx_self 3 k (by simp only [lo]; omega)⟩
  unfold shN
  rw [if_neg (by omega), if_pos (by omega)]
theorem shN_1 {k : Nat} (h2 : k < 4) : shN k = 0 ∧ sx 1 k = k ∧ sx 2 k = k ∧ sx 3 k = k := by
  refine ⟨?_, sx_self 1 k (by simp only [lo]; omega), sx_self 2 k (by simp only [lo]; omega), sx_self 3 k (by simp only [lo]; omega)⟩
  unfold shN
  rw [if_pos (by omega)]
theorem sa_step {m : Nat} {W : tW} {A : tA2} (hS : SSp (A 28)) (h31 : ∀ s, s < 40 → A 31 s = cI (stB m W s)) {k l : Nat} (hk : k < 121) (hl : l < 4) {u : Nat} : x_X1_stayAt_4 F (mk A B V q) 27 (u + 1) (nI k) (nI l) = if k < 40 ∧ stB m W k = true then some (nI k) else x_X1_stayAt_4 F (mk A B V q) 27 u (nI (shN k)) (nI (l + 1)) := by
  show s_X1_stayAt_4 _ _ _ _ _ _ = _
  unfold s_X1_stayAt_4 x_X1_stayAt_24
  rw [if_neg (show ¬ (4 : Int32) ≤ nI l from fun z => by have := (nI_leI (a := 4) (by omega) (by omega)).mp z; omega), r_27_0, bs, l_28 (inb_nI hk (by omega)), bs, tn (by omega), hS k hk, nI_1]
  by_cases h40 : k < 40
  · rw [if_neg (show ¬ (40 : Int32) ≤ nI k from fun z => by have := (nI_leI (a := 40) (by omega) (by omega)).mp z; omega), r_27_3, bs, l_31 (inb_nI h40 (by omega)), bs, tn (by omega), h31 k h40]
    cases stB m W k
    · rw [if_pos cI_f, if_neg (by simp)]
    · rw [if_neg (by decide), if_pos ⟨h40, rfl⟩]
  · rw [if_pos (show (40 : Int32) ≤ nI k from (nI_leI (a := 40) (by omega) (by omega)).mpr (by omega)), if_neg (fun z => h40 z.1)]
theorem sa_end {h : pH} {u : Nat} {x : Int32} : x_X1_stayAt_4 F h 27 (u + 1) x (nI 4) = some x := by
  show s_X1_stayAt_4 _ _ _ _ _ _ = _
  unfold s_X1_stayAt_4
  rw [if_pos (by decide)]
theorem x1_stayAt {m : Nat} {W : tW} {A : tA2} (hS : SSp (A 28)) (h31 : ∀ s, s < 40 → A 31 s = cI (stB m W s)) {k : Nat} (hk : k < 121) (hF : 10 ≤ F) : x_X1_stayAt F (mk A B V q) 27 (nI k) = some (nI (ph m W k)) := by
  obtain ⟨v, hv⟩ : ∃ v, F = v + 5 := ⟨F - 5, by omega⟩
  have S := fun (k l u : Nat) (hk : k < 121) (hl : l < 4) => sa_step (B := B) (V := V) (q := q) (F := F) hS h31 hk hl (u := u)
  unfold x_X1_stayAt
  rw [c_27, bs]
  have e : x_X1_stayAt_4 F (mk A B V q) 27 F (nI k) 0 = x_X1_stayAt_4 F (mk A B V q) 27 (v + 5) (nI k) (nI 0) := by rw [← hv]; rfl
  rw [e]
  -- a row of one letter or none
  have s1 : ∀ k l u, k < 4 → l + 1 ≤ 4 → (l + 1 < 4 ∨ True) → x_X1_stayAt_4 F (mk A B V q) 27 (u + 2) (nI k) (nI l) = some (nI (if stB m W k = true then k else 0)) := by
    intro k l u hk hl _
    rw [S k l (u + 1) (by omega) (by omega)]
    by_cases z : stB m W k = true
    · rw [if_pos ⟨by omega, z⟩, if_pos z]
    · rw [if_neg (fun y => z y.2), if_neg z, (shN_1 hk).1]
      rcases Nat.lt_or_ge (l + 1) 4 with z2 | z2
      · rw [S 0 (l + 1) u (by omega) z2, if_pos ⟨by omega, st_0⟩]
      · rw [show l + 1 = 4 by omega, sa_end]
  have s2 : ∀ k l u, 4 ≤ k → k < 13 → l + 2 ≤ 4 → x_X1_stayAt_4 F (mk A B V q) 27 (u + 3) (nI k) (nI l) = some (nI (if stB m W k = true then k else if stB m W (sx 1 k) = true then sx 1 k else 0)) := by
    intro k l u h1 h2 hl
    obtain ⟨a1, a2, a3, a4, a5⟩ := shN_2 h1 h2
    rw [S k l (u + 2) (by omega) (by omega)]
    by_cases z : stB m W k = true
    · rw [if_pos ⟨by omega, z⟩, if_pos z]
    · rw [if_neg (fun y => z y.2), if_neg z, a1, s1 (sx 1 k) (l + 1) u a3 (by omega) (Or.inr trivial)]
  have s3 : ∀ k l u, 13 ≤ k → k < 40 → l + 3 ≤ 4 → x_X1_stayAt_4 F (mk A B V q) 27 (u + 4) (nI k) (nI l) = some (nI (if stB m W k = true then k else if stB m W (sx 2 k) = true then sx 2 k else if stB m W (sx 1 k) = true then sx 1 k else 0)) := by
    intro k l u h1 h2 hl
    obtain ⟨a1, a2, a3, a4⟩ := shN_3 h1 h2
    rw [S k l (u + 3) (by omega) (by omega)]
    by_cases z : stB m W k = true
    · rw [if_pos ⟨by omega, z⟩, if_pos z]
    · rw [if_neg (fun y => z y.2), if_neg z, a1, s2 (sx 2 k) (l + 1) u a2 a3 (by omega), sx_lo (show 1 ≤ 2 by omega)]
  by_cases h40 : 40 ≤ k
  · obtain ⟨a1, a2, a3⟩ := shN_4 h40 hk
    rw [S k 0 (v + 4) hk (by omega), if_neg (fun y => by omega), a1, s3 (sx 3 k) 1 v a2 a3 (by omega), sx_lo (show 2 ≤ 3 by omega), sx_lo (show 1 ≤ 3 by omega)]
    rfl
  · by_cases h13 : 13 ≤ k
    · obtain ⟨a1, a2, a3, a4⟩ := shN_3 h13 (by omega)
      rw [s3 k 0 (v + 1) h13 (by omega) (by omega)]
      unfold ph
      rw [a4]
    · by_cases h4 : 4 ≤ k
      · obtain ⟨a1, a2, a3, a4, a5⟩ := shN_2 h4 (by omega)
        rw [s2 k 0 (v + 2) h4 (by omega) (by omega)]
        unfold ph
        rw [a4, a5]
        by_cases z : stB m W k = true
        · rw [if_pos z, if_pos z]
        · simp only [if_neg z]
      · obtain ⟨a1, a2, a3, a4⟩ := shN_1 (show k < 4 by omega)
        rw [s1 k 0 (v + 3) (by omega) (by omega) (Or.inr trivial)]
        unfold ph
        rw [a2, a3, a4]
        by_cases z : stB m W k = true
        · rw [if_pos z, if_pos z]
        · simp only [if_neg z]
def netK (A : tA2) (m : Nat) (W : tW) (n : Nat) : Prop := ∀ s, s < n → stB m W s = true → ∀ c, c < 3 → A 29 (bh s c) = nI (HS m W (bh s c)) ∧ A 30 (bh s c) = nI (ph m W (bh s c))
def agL (A A' : tA2) : Prop := ∀ p, p ≠ 29 → p ≠ 30 → p ≠ 32 → A' p = A p
theorem x1_le_in {m : Nat} {W : tW} (h : okL m W) (hq : okQ q) {s : Nat} (hs : s < 40) (hF : 20 ≤ F) (k17 : pH → Int32 → Option pH) : ∀ (d u c : Nat) (A : tA2), c + d = 3 → d < u → repX A V q.1 m W.1 W.2.1 W.2.2 → SSp (A 28) → (∀ s, s < 40 → A 31 s = cI (stB m W s)) → netK A m W s → (stB m W s = true → ∀ c', c' < c → A 29 (bh s c') = nI (HS m W (bh s c')) ∧ A 30 (bh s c') = nI (ph m W (bh s c'))) → ∃ A', x_X1_learn_26 F k17 27 q.1 (nI m) (nI s) u (mk A B V q) (nI c) = k17 (mk A' B V q) (nI (s + 1)) ∧ agL A A' ∧ netK A' m W (s + 1) := by
  have hm := h.1
  have ext : ∀ A : tA2, netK A m W s → (stB m W s = true → ∀ c', c' < 3 → A 29 (bh s c') = nI (HS m W (bh s c')) ∧ A 30 (bh s c') = nI (ph m W (bh s c'))) → netK A m W (s + 1) := by
    intro A h1 h2 s' hs' hst c hc
    by_cases e : s' = s
    · subst e; exact h2 hst c hc
    · exact h1 s' (by omega) hst c hc
  intro d
  induction d with
  | zero =>
    intro u c A hc hu hX hS h31 hN hp
    obtain ⟨u, rfl⟩ : ∃ z, u = z + 1 := ⟨u - 1, by omega⟩
    refine ⟨A, ?_, fun _ _ _ _ => rfl, ext A hN (by rw [show c = 3 by omega] at hp; exact hp)⟩
    show s_X1_learn_26 _ _ _ _ _ _ _ _ _ = _
    unfold s_X1_learn_26 x_X1_learn_90
    rw [show c = 3 by omega, if_pos (by decide), nI_1]
  | succ d ih =>
    intro u c A hc hu hX hS h31 hN hp
    obtain ⟨u, rfl⟩ : ∃ z, u = z + 1 := ⟨u - 1, by omega⟩
    have c3 : c < 3 := by omega
    cases hst : stB m W s
    · refine ⟨A, ?_, fun _ _ _ _ => rfl, ext A hN (fun z => by rw [hst] at z; cases z)⟩
      show s_X1_learn_26 _ _ _ _ _ _ _ _ _ = _
      unfold s_X1_learn_26 x_X1_learn_90
      rw [if_neg (show ¬ (3 : Int32) ≤ nI c from fun z => by have := (nI_leI (a := 3) (by omega) (by omega)).mp z; omega), r_27_3, bs, l_31 (inb_nI hs (by omega)), bs, tn (by omega), h31 s hs, hst, if_pos cI_f, nI_1]
    · have hk : bh s c < 121 := by unfold bh; omega
      obtain ⟨g, L, e1, e2, e3, e4⟩ := x1_layTrail (B := B) (V := V) (q := q) (F := F) (A := A) hk (by omega)
      have hX1 : repX (va_up A 32 g) V q.1 m W.1 W.2.1 W.2.2 := repX_c hq hm hX (fun p h1 h2 => ⟨up_ne _ _ (by omega), rfl⟩)
      have hb := x7_heardBy (B := B) (V := V) (q := q) (F := F) (okQ_kn hq) hm hX1 (r := 32) (N := 4) rfl (by omega) e2 (by omega)
      rw [up_at, hS_X h e3, e4] at hb
      obtain ⟨A1, hA1⟩ : ∃ A1, A1 = u2 (va_up A 32 g) 29 (bh s c) (nI (HS m W (bh s c))) := ⟨_, rfl⟩
      have a1 : ∀ p, p ≠ 29 → p ≠ 32 → A1 p = A p := fun p h1 h2 => by rw [hA1, u2_pp _ _ h1, up_ne _ _ h2]
      have hs2 := x1_stayAt (B := B) (V := V) (q := q) (F := F) (m := m) (W := W) (A := A1) (by rw [a1 28 (by omega) (by omega)]; exact hS) (fun s hs => by rw [a1 31 (by omega) (by omega)]; exact h31 s hs) hk (by omega)
      obtain ⟨A2, hA2⟩ : ∃ A2, A2 = u2 A1 30 (bh s c) (nI (ph m W (bh s c))) := ⟨_, rfl⟩
      have a2 : agL A A2 := fun p h1 h2 h3 => by rw [hA2, u2_pp _ _ h2, a1 p h1 h3]
      have f29 : ∀ i, i ≠ bh s c → A2 29 i = A 29 i := fun i hi => by rw [hA2, u2_p _ _ (by omega), hA1, u2_k _ _ hi, up_ne _ _ (by omega)]
      have f30 : ∀ i, i ≠ bh s c → A2 30 i = A 30 i := fun i hi => by rw [hA2, u2_k _ _ hi, a1 30 (by omega) (by omega)]
      have g29 : A2 29 (bh s c) = nI (HS m W (bh s c)) := by rw [hA2, u2_p _ _ (by omega), hA1, u2_s]
      have g30 : A2 30 (bh s c) = nI (ph m W (bh s c)) := by rw [hA2, u2_s]
      have ne : ∀ s' c', c' < 3 → s' ≠ s ∨ c' ≠ c → bh s' c' ≠ bh s c := fun s' c' h1 h2 z => by
        obtain ⟨y1, y2⟩ := bh_inj h1 c3 z
        omega
      obtain ⟨A', i1, i2, i3⟩ := ih u (c + 1) A2 (by omega) (by omega) (repX_c hq hm hX (fun p h1 h2 => ⟨a2 p (by omega) (by omega) (by omega), rfl⟩)) (by rw [a2 28 (by omega) (by omega) (by omega)]; exact hS) (fun s hs => by rw [a2 31 (by omega) (by omega) (by omega)]; exact h31 s hs) (fun s' hs' hst' c' hc' => by
        rw [f29 _ (ne s' c' hc' (Or.inl (by omega))), f30 _ (ne s' c' hc' (Or.inl (by omega)))]
        exact hN s' hs' hst' c' hc') (fun _ c' hc' => by
        by_cases e : c' = c
        · subst e; exact ⟨g29, g30⟩
        · rw [f29 _ (ne s c' (by omega) (Or.inr e)), f30 _ (ne s c' (by omega) (Or.inr e))]
          exact hp hst c' (by omega))
      refine ⟨A', ?_, fun p h1 h2 h3 => by rw [i2 p h1 h2 h3, a2 p h1 h2 h3], i3⟩
      show s_X1_learn_26 _ _ _ _ _ _ _ _ _ = _
      unfold s_X1_learn_26 x_X1_behind
      have ebh : (3 : Int32) * nI s + 1 + nI c = nI (bh s c) := by rw [n3, nI_1, nI_add]; rfl
      rw [if_neg (show ¬ (3 : Int32) ≤ nI c from fun z => by have := (nI_leI (a := 3) (by omega) (by omega)).mp z; omega), r_27_3, bs, l_31 (inb_nI hs (by omega)), bs, tn (by omega), h31 s hs, hst, if_neg (by decide), bs, ebh, r_27_1, bs, r_27_4, bs, e1, bs]
      dsimp only
      rw [hb, bs, s_29 (inb_nI hk (by omega)), bs, tn (by omega), ← hA1, r_27_2, bs, hs2, bs, s_30 (inb_nI hk (by omega)), bs, tn (by omega), ← hA2, nI_1]
      exact i1
theorem x1_le_out {m : Nat} {W : tW} (h : okL m W) (hq : okQ q) (hF : 20 ≤ F) : ∀ (d u s : Nat) (A : tA2), s + d = 40 → d < u → repX A V q.1 m W.1 W.2.1 W.2.2 → SSp (A 28) → (∀ s, s < 40 → A 31 s = cI (stB m W s)) → netK A m W s → ∃ A', x_X1_learn_17 F 27 q.1 (nI m) u (mk A B V q) (nI s) = some (mk A' B V q) ∧ agL A A' ∧ netK A' m W 40 := by
  have hm := h.1
  intro d
  induction d with
  | zero =>
    intro u s A hs hu hX hS h31 hN
    obtain ⟨u, rfl⟩ : ∃ z, u = z + 1 := ⟨u - 1, by omega⟩
    refine ⟨A, ?_, fun _ _ _ _ => rfl, by rw [show s = 40 by omega] at hN; exact hN⟩
    show s_X1_learn_17 _ _ _ _ _ _ _ = _
    unfold s_X1_learn_17
    rw [show s = 40 by omega, if_pos (by decide)]
  | succ d ih =>
    intro u s A hs hu hX hS h31 hN
    obtain ⟨u, rfl⟩ : ∃ z, u = z + 1 := ⟨u - 1, by omega⟩
    obtain ⟨A1, e1, e2, e3⟩ := x1_le_in (B := B) (V := V) (F := F) h hq (show s < 40 by omega) hF (x_X1_learn_17 F 27 q.1 (nI m) u) 3 F 0 A (by omega) (by omega) hX hS h31 hN (fun _ c hc => by omega)
    obtain ⟨A', i1, i2, i3⟩ := ih u (s + 1) A1 (by omega) (by omega) (repX_c hq hm hX (fun p h1 h2 => ⟨e2 p (by omega) (by omega) (by omega), rfl⟩)) (by rw [e2 28 (by omega) (by omega) (by omega)]; exact hS) (fun s hs => by rw [e2 31 (by omega) (by omega) (by omega)]; exact h31 s hs) e3
    refine ⟨A', ?_, fun p h1 h2 h3 => by rw [i2 p h1 h2 h3, e2 p h1 h2 h3], i3⟩
    show s_X1_learn_17 _ _ _ _ _ _ _ = _
    unfold s_X1_learn_17
    rw [if_neg (show ¬ (40 : Int32) ≤ nI s from fun z => by have := (nI_leI (a := 40) (by omega) (by omega)).mp z; omega)]
    rw [nI_0] at e1
    rw [e1]
    exact i1
end LE
theorem x1_learn {B : tB2} {q : tQ} {F : Nat} {A V : tA2} {m : Nat} {W : tW} (h : okL m W) (hq : okQ q) (hF : 60 ≤ F) (hX : repX A V q.1 m W.1 W.2.1 W.2.2) (hS : SSp (A 28)) : ∃ A', x_X1_learn F (mk A B V q) 27 q.1 (nI m) = some (mk A' B (u2 V 27 5 (nI (fll m))) q) ∧ (∀ p, ¬ (29 ≤ p ∧ p ≤ 32) → A' p = A p) ∧ netK A' m W 40 := by
  have hm := h.1
  have hX1 : repX A (u2 V 27 5 (nI (fll m))) q.1 m W.1 W.2.1 W.2.2 := repX_c hq hm hX (fun p h1 h2 => ⟨rfl, u2_pp _ _ (by omega)⟩)
  obtain ⟨g, e1, e2⟩ := x1_markStays (B := B) (F := F) h hq (by omega) hX1
  obtain ⟨A', i1, i2, i3⟩ := x1_le_out (B := B) (F := F) (V := u2 V 27 5 (nI (fll m))) h hq (by omega) 40 F 0 (va_up A 31 g) (by omega) (by omega) (repX_c hq hm hX1 (fun p h1 h2 => ⟨up_ne _ _ (by omega), rfl⟩)) (by rw [up_ne _ _ (by omega)]; exact hS) (fun s hs => by rw [up_at]; exact e2 s hs) (fun s hs => by omega)
  refine ⟨A', ?_, fun p hp => by rw [i2 p (by omega) (by omega) (by omega), up_ne _ _ (by omega)], i3⟩
  unfold x_X1_learn
  rw [c_27, bs, full4 hm, show 2 ^ m - 1 = fll m from rfl, w_27_5, bs, e1, bs]
  exact i1
