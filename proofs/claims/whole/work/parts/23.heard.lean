/-! counts, sets, and what is heard: the row's side -/
def cnt (p : Nat → Bool) : Nat → Nat → Nat
  | _, 0 => 0
  | j, d + 1 => (if p j = true then 1 else 0) + cnt p (j + 1) d
def anyF (p : Nat → Bool) : Nat → Nat → Bool
  | _, 0 => false
  | j, d + 1 => p j || anyF p (j + 1) d
def orF (s : Nat → Nat) : Nat → Nat → Nat → Nat
  | _, 0, a => a
  | j, d + 1, a => orF s (j + 1) d (a ||| s j)
def bitS (p : Nat → Bool) (m : Nat) : Nat := orF (fun w => if p w = true then 2 ^ w else 0) 0 m 0
theorem anyF_iff (p : Nat → Bool) : ∀ (d j : Nat), anyF p j d = true ↔ ∃ i, j ≤ i ∧ i < j + d ∧ p i = true
  | 0, j => by simp [anyF]; intro i h1 h2; omega
  | d + 1, j => by
    simp only [anyF, Bool.or_eq_true, anyF_iff p d (j + 1)]
    constructor
    · rintro (h | ⟨i, h1, h2, h3⟩)
      · exact ⟨j, by omega, by omega, h⟩
      · exact ⟨i, by omega, by omega, h3⟩
    · rintro ⟨i, h1, h2, h3⟩
      rcases Nat.lt_or_ge j i with z | z
      · exact Or.inr ⟨i, by omega, by omega, h3⟩
      · have : i = j := by omega
        subst this; exact Or.inl h3
theorem cnt_pos (p : Nat → Bool) : ∀ (d j : Nat), 0 < cnt p j d ↔ anyF p j d = true
  | 0, j => by simp [anyF, cnt]
  | d + 1, j => by
    simp only [anyF, cnt, Bool.or_eq_true, ← cnt_pos p d (j + 1)]
    by_cases h : p j = true
    · simp [h]; omega
    · simp [h]
theorem cnt_le (p : Nat → Bool) : ∀ (d j : Nat), cnt p j d ≤ d
  | 0, j => Nat.le_refl 0
  | d + 1, j => by
    have := cnt_le p d (j + 1)
    simp only [cnt]
    by_cases h : p j = true
    · simp [h]; omega
    · simp [h]; omega
theorem cnt_congr {p p' : Nat → Bool} : ∀ (d j : Nat), (∀ i, j ≤ i → i < j + d → p i = p' i) → cnt p j d = cnt p' j d
  | 0, j, _ => rfl
  | d + 1, j, h => by
    simp only [cnt]
    rw [h j (by omega) (by omega), cnt_congr d (j + 1) (fun i h1 h2 => h i (by omega) (by omega))]
theorem anyF_congr {p p' : Nat → Bool} : ∀ (d j : Nat), (∀ i, j ≤ i → i < j + d → p i = p' i) → anyF p j d = anyF p' j d
  | 0, j, _ => rfl
  | d + 1, j, h => by
    simp only [anyF]
    rw [h j (by omega) (by omega), anyF_congr d (j + 1) (fun i h1 h2 => h i (by omega) (by omega))]
theorem cnt_skip (p : Nat → Bool) : ∀ (s d j : Nat), (∀ i, j ≤ i → i < j + s → p i = false) → cnt p j (s + d) = cnt p (j + s) d
  | 0, d, j, _ => by simp
  | s + 1, d, j, h => by
    have e : s + 1 + d = (s + d) + 1 := by omega
    rw [e]
    simp only [cnt]
    rw [h j (by omega) (by omega), cnt_skip p s d (j + 1) (fun i h1 h2 => h i (by omega) (by omega))]
    simp
    congr 1
    omega
theorem cnt_none (p : Nat → Bool) : ∀ (d j : Nat), (∀ i, j ≤ i → i < j + d → p i = false) → cnt p j d = 0
  | 0, j, _ => rfl
  | d + 1, j, h => by
    simp only [cnt]
    rw [h j (by omega) (by omega), cnt_none p d (j + 1) (fun i h1 h2 => h i (by omega) (by omega))]
    rfl
theorem orF_bit (s : Nat → Nat) (i : Nat) : ∀ (d j a : Nat), (orF s j d a).testBit i = (a.testBit i || anyF (fun t => (s t).testBit i) j d)
  | 0, j, a => by simp [orF, anyF]
  | d + 1, j, a => by
    simp only [orF, anyF]
    rw [orF_bit s i d (j + 1) (a ||| s j), Nat.testBit_or, Bool.or_assoc]
theorem bitS_bit (p : Nat → Bool) (m i : Nat) : (bitS p m).testBit i = (decide (i < m) && p i) := by
  unfold bitS
  rw [orF_bit]
  simp only [Nat.zero_testBit, Bool.false_or]
  rw [Bool.eq_iff_iff, anyF_iff]
  simp only [Bool.and_eq_true, decide_eq_true_eq]
  constructor
  · rintro ⟨t, -, h2, h3⟩
    by_cases h : p t = true
    · simp only [h, if_true, Nat.testBit_two_pow, decide_eq_true_eq] at h3
      subst h3
      exact ⟨by omega, h⟩
    · simp [h] at h3
  · rintro ⟨h1, h2⟩
    exact ⟨i, by omega, by omega, by simp [h2]⟩
theorem bitS_lt (p : Nat → Bool) {m n : Nat} (h : m ≤ n) : bitS p m < 2 ^ n := by
  apply Nat.lt_pow_two_of_testBit
  intro i hi
  rw [bitS_bit]
  simp; omega
theorem bitS_congr {p p' : Nat → Bool} {m : Nat} (h : ∀ i, i < m → p i = p' i) : bitS p m = bitS p' m := by
  apply Nat.eq_of_testBit_eq
  intro i
  rw [bitS_bit, bitS_bit]
  by_cases hi : i < m
  · rw [h i hi]
  · simp [hi]
theorem nIor (a b : Nat) : nI a ||| nI b = nI (a ||| b) := by
  apply Int32.toBitVec_inj.mp
  simp [nI, Int32.toBitVec_or]
theorem sh4 : ∀ w, w < 4 → (1 : Int32) <<< (nI w &&& 31) = nI (2 ^ w) := by decide
def wpl (kn w : Nat) : Nat := if kn = 3 then 4 + 2 * w else 13 + 2 * w
def okW3 (m : Nat) (kd ln : Nat → Nat) : Prop := m ≤ 4 ∧ ∀ w, w < m → kd w ≤ 2 ∧ 1 ≤ ln w ∧ ln w ≤ 4
def repX (A V : tA2) (kn m : Nat) (kd ln : Nat → Nat) (lt : Nat → Nat → Int32) : Prop := ∀ w, w < m → atW A V (wpl kn w) (kd w) (ln w) (lt w)
theorem wpl_isW {kn w : Nat} (h : kn = 3 ∨ kn = 12) (hw : w < 4) : isW (wpl kn w) := by
  rcases h with rfl | rfl
  · rcases (show w = 0 ∨ w = 1 ∨ w = 2 ∨ w = 3 by omega) with rfl | rfl | rfl | rfl <;> simp [wpl, isW]
  · rcases (show w = 0 ∨ w = 1 ∨ w = 2 ∨ w = 3 by omega) with rfl | rfl | rfl | rfl <;> simp [wpl, isW]
section HD
variable {A : tA2} {B : tB2} {V : tA2} {q : tQ} {F : Nat}
theorem l_kn {kn w : Nat} (h : kn = 3 ∨ kn = 12) (hw : w < 4) : aldR 4 (mk A B V q) kn (nI w) = some (wpl kn w) := by
  have e : (nI w).toNatClampNeg = w := tn (by omega)
  have hi : inb (nI w) 4 = true := inb_nI hw (by omega)
  rcases h with rfl | rfl
  · rw [mk_aldR (t := 4) (n := 4) rfl (by omega) (by omega) hi, e]; rfl
  · rw [mk_aldR (t := 4) (n := 4) rfl (by omega) (by omega) hi, e]; rfl
theorem x7_hb_loop {kn m : Nat} {kd ln : Nat → Nat} {lt : Nat → Nat → Int32} (hkn : kn = 3 ∨ kn = 12) (hm : m ≤ 4) (hrep : repX A V kn m kd ln lt) {r N e : Nat} (hr : shp r = (10, N)) (hN : N < 2 ^ 20) (he : e ≤ N) (hF : 5 ≤ F) : ∀ (d u w acc : Nat), w + d = m → d < u → x_X7_heardBy_6 F (mk A B V q) kn (nI m) r (nI e) u (nI acc) (nI w) = some (nI (orF (fun w => if hWb (kd w) (ln w) (lt w) (A r) e = true then 2 ^ w else 0) w d acc)) := by
  intro d
  induction d with
  | zero =>
    intro u w acc hw hu
    obtain ⟨u, rfl⟩ : ∃ z, u = z + 1 := ⟨u - 1, by omega⟩
    show s_X7_heardBy_6 _ _ _ _ _ _ _ _ _ = _
    unfold s_X7_heardBy_6
    rw [if_pos ((nI_leI (by omega) (by omega)).mpr (by omega))]
    rfl
  | succ d ih =>
    intro u w acc hw hu
    obtain ⟨u, rfl⟩ : ∃ z, u = z + 1 := ⟨u - 1, by omega⟩
    show s_X7_heardBy_6 _ _ _ _ _ _ _ _ _ = _
    unfold s_X7_heardBy_6 x_X7_heardBy_33
    rw [if_neg (fun z => by have := (nI_leI (by omega) (by omega)).mp z; omega), l_kn hkn (by omega), bs, x6_endsAt (hrep w (by omega)) hr hN he hF, bs, nI_1]
    cases hb : hWb (kd w) (ln w) (lt w) (A r) e
    · rw [if_pos cI_f, ih u (w + 1) acc (by omega) (by omega)]
      simp [orF, hb]
    · rw [if_neg (by decide), sh4 w (by omega), nIor, ih u (w + 1) _ (by omega) (by omega)]
      simp [orF, hb]
theorem x7_heardBy {kn m : Nat} {kd ln : Nat → Nat} {lt : Nat → Nat → Int32} (hkn : kn = 3 ∨ kn = 12) (hm : m ≤ 4) (hrep : repX A V kn m kd ln lt) {r N e : Nat} (hr : shp r = (10, N)) (hN : N < 2 ^ 20) (he : e ≤ N) (hF : 5 ≤ F) : x_X7_heardBy F (mk A B V q) kn (nI m) r (nI e) = some (nI (bitS (fun w => hWb (kd w) (ln w) (lt w) (A r) e) m)) := by
  unfold x_X7_heardBy
  exact x7_hb_loop hkn hm hrep hr hN he hF m F 0 0 (by omega) (by omega)
theorem hWb_lt {k n : Nat} {f g : Nat → Int32} {e : Nat} (h : e < n) : hWb k n f g e = false := by
  have : ¬ n ≤ e := by omega
  simp [hWb, this]
theorem x6_ti_loop {a k n : Nat} {f : Nat → Int32} (h : atW A V a k n f) {r N t : Nat} (hr : shp r = (10, N)) (hN : N < 2 ^ 20) (ht : t ≤ N) (hF : 5 ≤ F) : ∀ (d u e acc : Nat), e + d = t + 1 → d < u → acc + d < 2 ^ 30 → x_X6_timesIn_8 F (mk A B V q) a r (nI t) u (nI acc) (nI e) = some (nI (acc + cnt (hWb k n f (A r)) e d)) := by
  intro d
  induction d with
  | zero =>
    intro u e acc he hu ha
    obtain ⟨u, rfl⟩ : ∃ z, u = z + 1 := ⟨u - 1, by omega⟩
    show s_X6_timesIn_8 _ _ _ _ _ _ _ _ = _
    unfold s_X6_timesIn_8
    rw [if_pos ((nI_ltI (by omega) (by omega)).mpr (by omega))]
    simp [cnt]
  | succ d ih =>
    intro u e acc he hu ha
    obtain ⟨u, rfl⟩ : ∃ z, u = z + 1 := ⟨u - 1, by omega⟩
    show s_X6_timesIn_8 _ _ _ _ _ _ _ _ = _
    unfold s_X6_timesIn_8 x_X6_timesIn_27
    rw [if_neg (fun z => by have := (nI_ltI (by omega) (by omega)).mp z; omega), x6_endsAt h hr hN (by omega) hF, bs, nI_1, nI_1]
    cases hb : hWb k n f (A r) e
    · rw [if_pos cI_f, ih u (e + 1) acc (by omega) (by omega) (by omega)]
      simp [cnt, hb]
    · rw [if_neg (by decide), ih u (e + 1) (acc + 1) (by omega) (by omega) (by omega)]
      simp [cnt, hb]
      congr 1
      omega
theorem x6_timesIn {a k n : Nat} {f : Nat → Int32} (h : atW A V a k n f) {r N t : Nat} (hr : shp r = (10, N)) (hN : N < 2 ^ 20) (ht : t ≤ N) (hF : N + 5 ≤ F) : x_X6_timesIn F (mk A B V q) a r (nI t) = some (nI (cnt (hWb k n f (A r)) 1 t)) := by
  have hW := h
  obtain ⟨hw, hk, hn, h1, h2, h3, hf⟩ := h
  unfold x_X6_timesIn
  rw [cW hw, bs, gW1 hw, bs, hn]
  rcases Nat.lt_or_ge t n with z | z
  · rcases Nat.lt_or_ge (t + 1) n with z2 | z2
    · obtain ⟨u, hu⟩ : ∃ z, F = z + 1 := ⟨F - 1, by omega⟩
      rw [hu]
      show s_X6_timesIn_8 _ _ _ _ _ _ _ _ = _
      unfold s_X6_timesIn_8
      rw [if_pos ((nI_ltI (by omega) (by omega)).mpr (by omega)), cnt_none _ t 1 (fun i h1 h2 => hWb_lt (by omega))]
      rfl
    · have := x6_ti_loop (B := B) (q := q) hW hr hN ht (by omega : 5 ≤ F) 0 F n 0 (by omega) (by omega) (by omega)
      rw [nI_0] at this
      rw [this, cnt_none _ t 1 (fun i h1 h2 => hWb_lt (by omega))]
      rfl
  · have := x6_ti_loop (B := B) (q := q) hW hr hN ht (by omega : 5 ≤ F) (t + 1 - n) F n 0 (by omega) (by omega) (by omega)
    rw [nI_0] at this
    rw [this]
    have e := cnt_skip (hWb k n f (A r)) (n - 1) (t + 1 - n) 1 (fun i h1 h2 => hWb_lt (by omega))
    rw [show n - 1 + (t + 1 - n) = t by omega, show 1 + (n - 1) = n by omega] at e
    rw [e]
    simp
theorem x6_si_loop {a k n : Nat} {f : Nat → Int32} (h : atW A V a k n f) {r N t : Nat} (hr : shp r = (10, N)) (hN : N < 2 ^ 20) (ht : t ≤ N) (hF : 5 ≤ F) : ∀ (d u e : Nat), e + d = t + 1 → d < u → x_X6_standsIn_5 F (mk A B V q) a r (nI t) u (nI e) = some (cI (anyF (hWb k n f (A r)) e d)) := by
  intro d
  induction d with
  | zero =>
    intro u e he hu
    obtain ⟨u, rfl⟩ : ∃ z, u = z + 1 := ⟨u - 1, by omega⟩
    show s_X6_standsIn_5 _ _ _ _ _ _ _ = _
    unfold s_X6_standsIn_5
    rw [if_pos ((nI_ltI (by omega) (by omega)).mpr (by omega))]
    rfl
  | succ d ih =>
    intro u e he hu
    obtain ⟨u, rfl⟩ : ∃ z, u = z + 1 := ⟨u - 1, by omega⟩
    show s_X6_standsIn_5 _ _ _ _ _ _ _ = _
    unfold s_X6_standsIn_5
    rw [if_neg (fun z => by have := (nI_ltI (by omega) (by omega)).mp z; omega), x6_endsAt h hr hN (by omega) hF, bs, nI_1]
    cases hb : hWb k n f (A r) e
    · rw [if_pos cI_f, ih u (e + 1) (by omega) (by omega)]
      simp [anyF, hb]
    · rw [if_neg (by decide)]
      simp [anyF, hb, cI]
theorem x6_standsIn {a k n : Nat} {f : Nat → Int32} (h : atW A V a k n f) {r N t : Nat} (hr : shp r = (10, N)) (hN : N < 2 ^ 20) (ht : t ≤ N) (hF : N + 5 ≤ F) : x_X6_standsIn F (mk A B V q) a r (nI t) = some (cI (decide (0 < cnt (hWb k n f (A r)) 1 t))) := by
  have hW := h
  obtain ⟨hw, hk, hn, h1, h2, h3, hf⟩ := h
  unfold x_X6_standsIn
  rw [cW hw, bs, gW1 hw, bs, hn]
  rcases Nat.lt_or_ge t n with z | z
  · rw [cnt_none _ t 1 (fun i h1 h2 => hWb_lt (by omega))]
    obtain ⟨u, hu⟩ : ∃ z, F = z + 1 := ⟨F - 1, by omega⟩
    rw [hu]
    show s_X6_standsIn_5 _ _ _ _ _ _ _ = _
    unfold s_X6_standsIn_5
    rw [if_pos ((nI_ltI (by omega) (by omega)).mpr (by omega))]
    rfl
  · rw [x6_si_loop (B := B) (q := q) hW hr hN ht (by omega : 5 ≤ F) (t + 1 - n) F n (by omega) (by omega)]
    have e := cnt_skip (hWb k n f (A r)) (n - 1) (t + 1 - n) 1 (fun i h1 h2 => hWb_lt (by omega))
    rw [show n - 1 + (t + 1 - n) = t by omega, show 1 + (n - 1) = n by omega] at e
    rw [e]
    congr 2
    rw [Bool.eq_iff_iff, decide_eq_true_eq, cnt_pos]
theorem x6_uf_loop {a k n : Nat} {f : Nat → Int32} (h : atW A V a k n f) : ∀ (d u j : Nat), j + d = n → d < u → x_X6_unlikeForms_2 F (mk A B V q) a u (nI j) = some (if anyF (fun j => !(fml k n f 0 j == fml k n f 1 j)) j d = true then 2 else 1) := by
  have hW := h
  obtain ⟨hw, hk, hn, h1, h2, h3, hf⟩ := h
  intro d
  induction d with
  | zero =>
    intro u j hj hu
    obtain ⟨u, rfl⟩ : ∃ z, u = z + 1 := ⟨u - 1, by omega⟩
    show s_X6_unlikeForms_2 _ _ _ _ _ = _
    unfold s_X6_unlikeForms_2
    rw [gW1 hw, bs, hn, if_pos ((nI_leI (by omega) (by omega)).mpr (by omega))]
    rfl
  | succ d ih =>
    intro u j hj hu
    obtain ⟨u, rfl⟩ : ∃ z, u = z + 1 := ⟨u - 1, by omega⟩
    show s_X6_unlikeForms_2 _ _ _ _ _ = _
    unfold s_X6_unlikeForms_2
    have l0 := x6_letterOf (B := B) (q := q) (F := F) (fo := 0) hW (show j < n by omega) (by omega)
    have l1 := x6_letterOf (B := B) (q := q) (F := F) (fo := 1) hW (show j < n by omega) (by omega)
    rw [nI_0] at l0
    rw [← e1] at l1
    rw [gW1 hw, bs, hn, if_neg (fun z => by have := (nI_leI (by omega) (by omega)).mp z; omega), l0, bs, l1, bs, nI_1]
    by_cases e : fml k n f 0 j = fml k n f 1 j
    · rw [if_pos e, ih u (j + 1) (by omega) (by omega)]
      simp [anyF, e]
    · rw [if_neg e]
      simp [anyF, e]
theorem x6_unlikeForms {a k n : Nat} {f : Nat → Int32} (h : atW A V a k n f) (hF : 6 ≤ F) : x_X6_unlikeForms F (mk A B V q) a = some (if anyF (fun j => !(fml k n f 0 j == fml k n f 1 j)) 0 n = true then 2 else 1) := by
  have hn := h.2.2.2.2.2.1
  unfold x_X6_unlikeForms
  rw [cW h.1, bs]
  exact x6_uf_loop h n F 0 (by omega) (by omega)
end HD
