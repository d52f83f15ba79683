/-! counting rows; few stays -/
def kW (f : Nat → Nat) : Nat → Nat → Nat
  | 0, k => f k
  | t + 1, k => kW f t (bh k 0) + kW f t (bh k 1) + kW f t (bh k 2)
theorem kW_last (f : Nat → Nat) : ∀ (t k : Nat), kW f (t + 1) k = kW (fun r => f (bh r 0) + f (bh r 1) + f (bh r 2)) t k
  | 0, k => rfl
  | t + 1, k => by
    show kW f (t + 1) (bh k 0) + kW f (t + 1) (bh k 1) + kW f (t + 1) (bh k 2) = _
    rw [kW_last f t, kW_last f t, kW_last f t]
    rfl
theorem kW_add (f g : Nat → Nat) : ∀ (t k : Nat), kW (fun r => f r + g r) t k = kW f t k + kW g t k
  | 0, k => rfl
  | t + 1, k => by
    simp only [kW]
    rw [kW_add f g t, kW_add f g t, kW_add f g t]
    omega
theorem kW_mul (a : Nat) (f : Nat → Nat) : ∀ (t k : Nat), kW (fun r => a * f r) t k = a * kW f t k
  | 0, k => rfl
  | t + 1, k => by
    simp only [kW]
    rw [kW_mul a f t, kW_mul a f t, kW_mul a f t, Nat.mul_add, Nat.mul_add]
theorem kW_z : ∀ (t k : Nat), kW (fun _ => 0) t k = 0
  | 0, k => rfl
  | t + 1, k => by
    simp only [kW]
    rw [kW_z t, kW_z t, kW_z t]
theorem kW_sm (f : Nat → Nat → Nat) (t k : Nat) : ∀ (d j : Nat), kW (fun r => smF (fun i => f i r) j d) t k = smF (fun i => kW (f i) t k) j d
  | 0, j => by simp only [smF]; exact kW_z t k
  | d + 1, j => by
    simp only [smF]
    rw [kW_add, kW_sm f t k d (j + 1)]
theorem kW_le {f : Nat → Nat} (h : ∀ r, f r ≤ 1) : ∀ (t k : Nat), kW f t k ≤ 3 ^ t
  | 0, k => h k
  | t + 1, k => by
    simp only [kW]
    have a := kW_le h t (bh k 0)
    have b := kW_le h t (bh k 1)
    have c := kW_le h t (bh k 2)
    rw [Nat.pow_succ]
    omega
def ind (x i : Nat) : Nat := if x = i then 1 else 0
theorem smF_pick (g : Nat → Nat) (x : Nat) : ∀ (d j : Nat), smF (fun i => g i * ind x i) j d = if j ≤ x ∧ x < j + d then g x else 0
  | 0, j => by rw [if_neg (by omega)]; rfl
  | d + 1, j => by
    simp only [smF]
    rw [smF_pick g x d (j + 1)]
    unfold ind
    by_cases e : x = j
    · subst e
      rw [if_pos rfl, if_neg (by omega), if_pos (by omega)]; omega
    · rw [if_neg e]
      by_cases e2 : j + 1 ≤ x ∧ x < j + 1 + d
      · rw [if_pos e2, if_pos (by omega)]; omega
      · rw [if_neg e2, if_neg (by omega)]; omega
theorem kW_split {X : Nat → Nat} {K : Nat} (hX : ∀ r, X r < K) (g : Nat → Nat) (t k : Nat) : kW (fun r => g (X r)) t k = smF (fun i => g i * kW (fun r => ind (X r) i) t k) 0 K := by
  have e : (fun r => g (X r)) = (fun r => smF (fun i => g i * ind (X r) i) 0 K) := by
    funext r
    rw [smF_pick, if_pos ⟨by omega, by have := hX r; omega⟩]
  rw [e, kW_sm (fun i r => g i * ind (X r) i)]
  apply smF_congr
  intro i _ _
  exact kW_mul _ _ _ _
theorem kW_step {X : Nat → Nat} {T : Nat → Nat → Nat} {K : Nat} (hX : ∀ r, X r < K) (hT : ∀ r c, c < 3 → X (bh r c) = T (X r) c) (i t : Nat) : kW (fun r => ind (X r) i) (t + 1) 0 = smF (fun k => (ind (T k 0) i + ind (T k 1) i + ind (T k 2) i) * kW (fun r => ind (X r) k) t 0) 0 K := by
  rw [kW_last]
  have e : (fun r => ind (X (bh r 0)) i + ind (X (bh r 1)) i + ind (X (bh r 2)) i) = (fun r => (fun k => ind (T k 0) i + ind (T k 1) i + ind (T k 2) i) (X r)) := by
    funext r
    rw [hT r 0 (by omega), hT r 1 (by omega), hT r 2 (by omega)]
  rw [e]
  exact kW_split hX (fun k => ind (T k 0) i + ind (T k 1) i + ind (T k 2) i) t 0
theorem smF_last (s : Nat → Nat) : ∀ (d j : Nat), smF s j (d + 1) = smF s j d + s (j + d)
  | 0, j => by simp [smF]
  | d + 1, j => by
    show s j + smF s (j + 1) (d + 1) = s j + smF s (j + 1) d + s (j + (d + 1))
    rw [smF_last s d (j + 1), show j + 1 + d = j + (d + 1) by omega]
    omega
theorem ind_le (x i : Nat) : ind x i ≤ 1 := by unfold ind; split <;> omega
/-! there are at most 20 stays -/
def Lst (W : tW) (i : Nat) : Nat := if i < 4 then i else if i < 12 then pf W ((i - 4) / 2) ((i - 4) % 2) 2 else pf W ((i - 12) / 2) ((i - 12) % 2) 3
theorem st_Lst {m : Nat} {W : tW} (h : okL m W) {s : Nat} (hs : stB m W s = true) : ∃ i, i < 20 ∧ s = Lst W i := by
  rcases stB_iff.mp hs with z | ⟨w, fo, i, hw, hfo, hi, z⟩
  · exact ⟨0, by omega, by rw [z]; rfl⟩
  · have h4 := (h.2 w hw).2.2.1
    have hm := h.1
    rcases (show i = 0 ∨ i = 1 ∨ i = 2 ∨ i = 3 by omega) with rfl | rfl | rfl | rfl
    · exact ⟨0, by omega, by rw [z]; rfl⟩
    · have b := (fN_ok h (fo := fo) hw (show 0 < W.2.1 w by omega)).2
      refine ⟨s, ?_, ?_⟩
      · rw [z]; simp only [pf, bh]; omega
      · unfold Lst; rw [if_pos (by rw [z]; simp only [pf, bh]; omega)]
    · refine ⟨4 + 2 * w + fo, by omega, ?_⟩
      unfold Lst
      rw [if_neg (by omega), if_pos (by omega), show (4 + 2 * w + fo - 4) / 2 = w by omega, show (4 + 2 * w + fo - 4) % 2 = fo by omega]
      exact z
    · refine ⟨12 + 2 * w + fo, by omega, ?_⟩
      unfold Lst
      rw [if_neg (by omega), if_neg (by omega), show (12 + 2 * w + fo - 12) / 2 = w by omega, show (12 + 2 * w + fo - 12) % 2 = fo by omega]
      exact z
theorem fb_holes : ∀ (m n : Nat) (f : Nat → Nat), (∀ i, i < n → f i < m) → (∀ i j, i < j → j < n → f i ≠ f j) → n ≤ m := by
  intro m
  induction m with
  | zero =>
    intro n f h1 _
    rcases Nat.eq_zero_or_pos n with h | h
    · omega
    · exact absurd (h1 0 h) (Nat.not_lt_zero _)
  | succ m ih =>
    intro n f h1 h2
    by_cases hx : ∃ i, i < n ∧ f i = m
    · obtain ⟨a, ha, hfa⟩ := hx
      have hg := ih (n - 1) (fun i => if i < a then f i else f (i + 1)) (by
        intro i hi
        by_cases q : i < a
        · simp only [if_pos q]
          have b1 := h1 i (by omega)
          have b2 := h2 i a q ha
          omega
        · simp only [if_neg q]
          have b1 := h1 (i + 1) (by omega)
          have b2 := h2 a (i + 1) (by omega) (by omega)
          omega) (by
        intro i j hij hj
        by_cases q : i < a
        · by_cases r : j < a
          · simp only [if_pos q, if_pos r]
            exact h2 i j hij (by omega)
          · simp only [if_pos q, if_neg r]
            exact h2 i (j + 1) (by omega) (by omega)
        · have r : ¬ j < a := by omega
          simp only [if_neg q, if_neg r]
          exact h2 (i + 1) (j + 1) (by omega) (by omega))
      omega
    · have hg := ih n f (fun i hi => by
        have b1 := h1 i hi
        have b2 : f i ≠ m := fun e => hx ⟨i, hi, e⟩
        omega) h2
      omega
theorem few {m : Nat} {W : tW} (h : okL m W) {n : Nat} {rw : Nat → Nat} (hi : ∀ i j, i < j → j < n → PP m W (rw i) ≠ PP m W (rw j)) : n ≤ 320 := by
  have hm := h.1
  have key : ∀ j, ∃ i, i < 320 ∧ PP m W (rw j) = 16 * Lst W (i / 16) + i % 16 := by
    intro j
    have a := ST_lt hm (W := W) (rw j)
    unfold PP
    by_cases e : ST m W (rw j) = fll m
    · have := fll_lt hm
      refine ⟨fll m, by omega, ?_⟩
      rw [if_pos e, show fll m / 16 = 0 by omega, show fll m % 16 = fll m by omega]
      show fll m = 16 * 0 + fll m
      omega
    · obtain ⟨i, hi, ei⟩ := st_Lst h (ph_st (m := m) (W := W) (r := rw j))
      refine ⟨16 * i + ST m W (rw j), by omega, ?_⟩
      rw [if_neg e, show (16 * i + ST m W (rw j)) / 16 = i by omega, show (16 * i + ST m W (rw j)) % 16 = ST m W (rw j) by omega, ← ei]
  refine fb_holes 320 n (fun j => Classical.choose (key j)) (fun j _ => (Classical.choose_spec (key j)).1) (fun i j hij hj e => ?_)
  apply hi i j hij hj
  rw [(Classical.choose_spec (key i)).2, (Classical.choose_spec (key j)).2]
  rw [e]
/-! numbers of 64 bits -/
theorem l3_30 : (3 : Nat) ^ 30 < 2 ^ 62 := by decide
theorem lN_bv (n : Nat) : (lN n).toBitVec = BitVec.ofNat 64 n := rfl
theorem lN_nat {n : Nat} (h : n < 2 ^ 64) : (lN n).toBitVec.toNat = n := by rw [lN_bv, BitVec.toNat_ofNat]; exact Nat.mod_eq_of_lt h
theorem lN_ti {m : Nat} (h : m < 2 ^ 64) : (lN m).toInt = if m < 2 ^ 63 then (m : Int) else (m : Int) - 2 ^ 64 := by
  have c := BitVec.toInt_eq_toNat_cond (lN m).toBitVec
  rw [lN_nat h] at c
  show (lN m).toBitVec.toInt = _
  rw [c]
  split <;> split <;> omega
theorem lNt {n : Nat} (h : n < 2 ^ 63) : (lN n).toInt = (n : Int) := by
  rw [lN_ti (by omega), if_pos h]
theorem pow3_le {t : Nat} (h : t ≤ 30) : 3 ^ t < 2 ^ 62 := Nat.lt_of_le_of_lt (Nat.pow_le_pow_right (by omega) h) l3_30
