/-! rows as numbers: 0 the empty row, 3 k + 1 + c the row k and letter c behind it; ends, stays, what is heard -/
def bh (k c : Nat) : Nat := 3 * k + 1 + c
def sx : Nat → Nat → Nat
  | 0, _ => 0
  | j + 1, r => if r = 0 then 0 else bh (sx j ((r - 1) / 3)) ((r - 1) % 3)
def lo : Nat → Nat
  | 0 => 0
  | n + 1 => 3 * lo n + 1
theorem bh_t {k c : Nat} (h : c < 3) : (bh k c - 1) / 3 = k := by unfold bh; omega
theorem bh_h {k c : Nat} (h : c < 3) : (bh k c - 1) % 3 = c := by unfold bh; omega
theorem bh_n {k c : Nat} : bh k c ≠ 0 := by unfold bh; omega
theorem bh_inj {k c k' c' : Nat} (h : c < 3) (h' : c' < 3) (e : bh k c = bh k' c') : k = k' ∧ c = c' := by unfold bh at e; omega
theorem bh_ex {r : Nat} (h : r ≠ 0) : ∃ k c, c < 3 ∧ r = bh k c ∧ k < r := ⟨(r - 1) / 3, (r - 1) % 3, by omega, by unfold bh; omega, by omega⟩
theorem row_ind {P : Nat → Prop} (h0 : P 0) (hs : ∀ k c, c < 3 → P k → P (bh k c)) : ∀ r, P r := by
  intro r
  induction r using Nat.strongRecOn with
  | ind r ih =>
    by_cases h : r = 0
    · subst h; exact h0
    · obtain ⟨k, c, hc, e, hk⟩ := bh_ex h
      have := hs k c hc (ih k hk)
      rw [e]; exact this
theorem sx_0 (j : Nat) : sx j 0 = 0 := by cases j <;> rfl
theorem sx_bh {j k c : Nat} (hc : c < 3) : sx (j + 1) (bh k c) = bh (sx j k) c := by
  simp only [sx]
  rw [if_neg bh_n, bh_t hc, bh_h hc]
theorem sx_sx : ∀ (i j r : Nat), sx i (sx j r) = sx (if i ≤ j then i else j) r
  | 0, j, r => by rw [if_pos (by omega)]; rfl
  | i + 1, 0, r => by rw [if_neg (by omega)]; exact sx_0 _
  | i + 1, j + 1, r => by
    by_cases h : r = 0
    · subst h; rw [sx_0, sx_0, sx_0]
    · obtain ⟨k, c, hc, rfl, -⟩ := bh_ex h
      rw [sx_bh hc, sx_bh hc, sx_sx i j k]
      by_cases hij : i ≤ j
      · rw [if_pos hij, if_pos (by omega), sx_bh hc]
      · rw [if_neg hij, if_neg (by omega), sx_bh hc]
theorem sx_lo {i j r : Nat} (h : i ≤ j) : sx i (sx j r) = sx i r := by rw [sx_sx, if_pos h]
theorem sx_hi {i j r : Nat} (h : j ≤ i) : sx i (sx j r) = sx j r := by
  rw [sx_sx]
  by_cases e : i ≤ j
  · rw [if_pos e, show i = j by omega]
  · rw [if_neg e]
theorem sx_le : ∀ (j r : Nat), sx j r ≤ 3 * lo j
  | 0, r => by simp [sx]
  | j + 1, r => by
    by_cases h : r = 0
    · subst h; rw [sx_0]; omega
    · obtain ⟨k, c, hc, rfl, -⟩ := bh_ex h
      rw [sx_bh hc]
      have := sx_le j k
      simp only [lo, bh]
      omega
theorem lo_mono : ∀ {n L : Nat}, L < n → 3 * lo L < lo n := by
  intro n
  induction n with
  | zero => intro L h; omega
  | succ n ih =>
    intro L h
    simp only [lo]
    rcases Nat.lt_or_ge L n with z | z
    · have := ih z; omega
    · rw [show L = n by omega]; omega
abbrev tW : Type := (Nat → Nat) × (Nat → Nat) × (Nat → Nat → Int32)
def okL (m : Nat) (W : tW) : Prop := m ≤ 4 ∧ ∀ w, w < m → W.1 w ≤ 2 ∧ 1 ≤ W.2.1 w ∧ W.2.1 w ≤ 4 ∧ ∀ j, j < W.2.1 w → ∃ c, c < 3 ∧ W.2.2 w j = nI c
def fN (W : tW) (w fo i : Nat) : Nat := (fml (W.1 w) (W.2.1 w) (W.2.2 w) fo i).toNatClampNeg
theorem fN_ok {m : Nat} {W : tW} (h : okL m W) {w fo i : Nat} (hw : w < m) (hi : i < W.2.1 w) : fml (W.1 w) (W.2.1 w) (W.2.2 w) fo i = nI (fN W w fo i) ∧ fN W w fo i < 3 := by
  obtain ⟨h1, h2, h3, h4⟩ := h.2 w hw
  have key : ∀ j, j < W.2.1 w → fml (W.1 w) (W.2.1 w) (W.2.2 w) fo i = W.2.2 w j → fml (W.1 w) (W.2.1 w) (W.2.2 w) fo i = nI (fN W w fo i) ∧ fN W w fo i < 3 := by
    intro j hj e
    obtain ⟨c, hc, ec⟩ := h4 j hj
    unfold fN
    rw [e, ec, tn (by omega)]
    exact ⟨rfl, hc⟩
  by_cases a : fo = 0 ∨ W.1 w = 0
  · exact key i hi (by unfold fml; rw [if_pos a])
  · by_cases b : W.1 w = 1
    · exact key (W.2.1 w - 1 - i) (by omega) (by unfold fml; rw [if_neg a, if_pos b])
    · by_cases c : i + 1 < W.2.1 w
      · exact key (i + 1) c (by unfold fml; rw [if_neg a, if_neg b, if_pos c])
      · exact key 0 (by omega) (by unfold fml; rw [if_neg a, if_neg b, if_neg c])
def pf (W : tW) (w fo : Nat) : Nat → Nat
  | 0 => 0
  | i + 1 => bh (pf W w fo i) (fN W w fo i)
theorem pf_lo (W : tW) (w fo : Nat) : ∀ i, lo i ≤ pf W w fo i
  | 0 => Nat.le_refl _
  | i + 1 => by
    have := pf_lo W w fo i
    simp only [pf, lo, bh]
    omega
theorem pf_hi {m : Nat} {W : tW} (h : okL m W) {w fo : Nat} (hw : w < m) : ∀ i, i ≤ W.2.1 w → pf W w fo i ≤ 3 * lo i
  | 0, _ => Nat.zero_le _
  | i + 1, hi => by
    have a := pf_hi h hw i (by omega) (fo := fo)
    have b := (fN_ok h (fo := fo) hw (show i < W.2.1 w by omega)).2
    simp only [pf, lo, bh]
    omega
def hX (W : tW) (w r : Nat) : Bool := decide (sx (W.2.1 w) r = pf W w 0 (W.2.1 w)) || decide (sx (W.2.1 w) r = pf W w 1 (W.2.1 w))
theorem hX_iff {W : tW} {w r : Nat} : hX W w r = true ↔ ∃ fo, fo ≤ 1 ∧ sx (W.2.1 w) r = pf W w fo (W.2.1 w) := by
  unfold hX
  rw [Bool.or_eq_true, decide_eq_true_eq, decide_eq_true_eq]
  constructor
  · rintro (z | z)
    · exact ⟨0, by omega, z⟩
    · exact ⟨1, by omega, z⟩
  · rintro ⟨fo, hfo, z⟩
    rcases (show fo = 0 ∨ fo = 1 by omega) with rfl | rfl
    · exact Or.inl z
    · exact Or.inr z
def HS (m : Nat) (W : tW) (r : Nat) : Nat := bitS (fun w => hX W w r) m
theorem HS_lt {m : Nat} (hm : m ≤ 4) (W : tW) (r : Nat) : HS m W r < 16 := bitS_lt _ (n := 4) hm
def stB (m : Nat) (W : tW) (s : Nat) : Bool := decide (s = 0) || anyF (fun w => anyF (fun fo => anyF (fun i => decide (s = pf W w fo i)) 0 (W.2.1 w)) 0 2) 0 m
theorem stB_iff {m : Nat} {W : tW} {s : Nat} : stB m W s = true ↔ s = 0 ∨ ∃ w fo i, w < m ∧ fo < 2 ∧ i < W.2.1 w ∧ s = pf W w fo i := by
  unfold stB
  rw [Bool.or_eq_true, decide_eq_true_eq, anyF_iff]
  constructor
  · rintro (z | ⟨w, -, hw, z⟩)
    · exact Or.inl z
    · right
      obtain ⟨fo, -, hfo, z⟩ := (anyF_iff _ _ _).mp z
      obtain ⟨i, -, hi, z⟩ := (anyF_iff _ _ _).mp z
      exact ⟨w, fo, i, by omega, by omega, by omega, by simpa using z⟩
  · rintro (z | ⟨w, fo, i, hw, hfo, hi, z⟩)
    · exact Or.inl z
    · right
      refine ⟨w, by omega, by omega, (anyF_iff _ _ _).mpr ⟨fo, by omega, by omega, (anyF_iff _ _ _).mpr ⟨i, by omega, by omega, by simpa using z⟩⟩⟩
theorem st_0 {m : Nat} {W : tW} : stB m W 0 = true := stB_iff.mpr (Or.inl rfl)
theorem st_tl {m : Nat} {W : tW} (h : okL m W) {k c : Nat} (hc : c < 3) (hs : stB m W (bh k c) = true) : stB m W k = true := by
  rcases stB_iff.mp hs with z | ⟨w, fo, i, hw, hfo, hi, z⟩
  · exact absurd z bh_n
  · cases i with
    | zero => exact absurd z bh_n
    | succ i =>
      have b := (fN_ok h (fo := fo) hw (show i < W.2.1 w by omega)).2
      have := (bh_inj hc b z).1
      exact stB_iff.mpr (Or.inr ⟨w, fo, i, hw, hfo, by omega, this⟩)
theorem st_lt {m : Nat} {W : tW} (h : okL m W) {s : Nat} (hs : stB m W s = true) : s < 40 := by
  rcases stB_iff.mp hs with z | ⟨w, fo, i, hw, hfo, hi, z⟩
  · omega
  · have a := pf_hi h hw (fo := fo) i (by omega)
    have b := (h.2 w hw).2.2.1
    have c : lo i ≤ 13 := by
      rcases (show i = 0 ∨ i = 1 ∨ i = 2 ∨ i = 3 by omega) with rfl | rfl | rfl | rfl <;> decide
    omega
def ph (m : Nat) (W : tW) (r : Nat) : Nat := if stB m W (sx 3 r) = true then sx 3 r else if stB m W (sx 2 r) = true then sx 2 r else if stB m W (sx 1 r) = true then sx 1 r else 0
theorem ph_st {m : Nat} {W : tW} {r : Nat} : stB m W (ph m W r) = true := by
  unfold ph
  by_cases a : stB m W (sx 3 r) = true
  · rw [if_pos a]; exact a
  · rw [if_neg a]
    by_cases b : stB m W (sx 2 r) = true
    · rw [if_pos b]; exact b
    · rw [if_neg b]
      by_cases c : stB m W (sx 1 r) = true
      · rw [if_pos c]; exact c
      · rw [if_neg c]; exact st_0
/-- the stay of a row is an end of it, the longest one that is a stay -/
theorem ph_ex {m : Nat} {W : tW} {r : Nat} : ∃ i, i ≤ 3 ∧ ph m W r = sx i r ∧ ∀ j, i < j → j ≤ 3 → ¬ stB m W (sx j r) = true := by
  unfold ph
  by_cases a : stB m W (sx 3 r) = true
  · rw [if_pos a]; exact ⟨3, by omega, rfl, fun j h1 h2 => by omega⟩
  · rw [if_neg a]
    by_cases b : stB m W (sx 2 r) = true
    · rw [if_pos b]; exact ⟨2, by omega, rfl, fun j h1 h2 => by rw [show j = 3 by omega]; exact a⟩
    · rw [if_neg b]
      by_cases c : stB m W (sx 1 r) = true
      · rw [if_pos c]
        refine ⟨1, by omega, rfl, fun j h1 h2 => ?_⟩
        rcases (show j = 2 ∨ j = 3 by omega) with rfl | rfl
        · exact b
        · exact a
      · rw [if_neg c]
        refine ⟨0, by omega, rfl, fun j h1 h2 => ?_⟩
        rcases (show j = 1 ∨ j = 2 ∨ j = 3 by omega) with rfl | rfl | rfl
        · exact c
        · exact b
        · exact a
theorem ph_uni {m : Nat} {W : tW} {r i : Nat} (hi : i ≤ 3) (hs : stB m W (sx i r) = true) (h : ∀ j, i < j → j ≤ 3 → stB m W (sx j r) = true → sx j r = sx i r) : ph m W r = sx i r := by
  unfold ph
  by_cases a : stB m W (sx 3 r) = true
  · rw [if_pos a]
    rcases Nat.lt_or_ge i 3 with z | z
    · exact h 3 z (by omega) a
    · rw [show i = 3 by omega]
  · rw [if_neg a]
    have i3 : i ≠ 3 := fun z => a (by rw [← z]; exact hs)
    by_cases b : stB m W (sx 2 r) = true
    · rw [if_pos b]
      rcases Nat.lt_or_ge i 2 with z | z
      · exact h 2 z (by omega) b
      · rw [show i = 2 by omega]
    · rw [if_neg b]
      have i2 : i ≠ 2 := fun z => b (by rw [← z]; exact hs)
      by_cases c : stB m W (sx 1 r) = true
      · rw [if_pos c]
        rcases Nat.lt_or_ge i 1 with z | z
        · exact h 1 z (by omega) c
        · rw [show i = 1 by omega]
      · rw [if_neg c]
        have i1 : i ≠ 1 := fun z => c (by rw [← z]; exact hs)
        rw [show i = 0 by omega]
        rfl
theorem ph_bh {m : Nat} {W : tW} (h : okL m W) {r c : Nat} (hc : c < 3) : ph m W (bh (ph m W r) c) = ph m W (bh r c) := by
  obtain ⟨i, i1, i2, i3⟩ := ph_ex (m := m) (W := W) (r := r)
  obtain ⟨k, k1, k2, k3⟩ := ph_ex (m := m) (W := W) (r := bh r c)
  have ks := ph_st (m := m) (W := W) (r := bh r c)
  rw [k2] at ks ⊢
  rw [i2]
  have tl : ∀ j, j + 1 ≤ 3 → stB m W (sx (j + 1) (bh r c)) = true → j ≤ i := by
    intro j hj hs
    rw [sx_bh hc] at hs
    have := st_tl h hc hs
    rcases Nat.lt_or_ge i j with z | z
    · exact absurd this (i3 j z (by omega))
    · exact z
  have e : sx k (bh (sx i r) c) = sx k (bh r c) := by
    cases k with
    | zero => rfl
    | succ k =>
      rw [sx_bh hc, sx_bh hc, sx_lo (tl k k1 ks)]
  rw [← e]
  refine ph_uni k1 (by rw [e]; exact ks) (fun j hj1 hj2 hs => ?_)
  rw [e]
  obtain ⟨j, rfl⟩ : ∃ z, j = z + 1 := ⟨j - 1, by omega⟩
  rcases Nat.lt_or_ge i j with z | z
  · rw [sx_bh hc, sx_hi (by omega)] at hs ⊢
    rw [← sx_bh hc] at hs ⊢
    have : i + 1 ≤ k := by
      rcases Nat.lt_or_ge k (i + 1) with z2 | z2
      · exact absurd hs (k3 (i + 1) z2 (by omega))
      · exact z2
    obtain ⟨k, rfl⟩ : ∃ z, k = z + 1 := ⟨k - 1, by omega⟩
    have := tl k k1 ks
    rw [show i = k by omega]
  · rw [sx_bh hc, sx_lo z, ← sx_bh hc] at hs
    exact absurd hs (k3 (j + 1) hj1 hj2)
theorem HS_ph {m : Nat} {W : tW} (h : okL m W) {r c : Nat} (hc : c < 3) : HS m W (bh (ph m W r) c) = HS m W (bh r c) := by
  obtain ⟨i, i1, i2, i3⟩ := ph_ex (m := m) (W := W) (r := r)
  rw [i2]
  apply bitS_congr
  intro w hw
  obtain ⟨-, h1, h4, -⟩ := h.2 w hw
  obtain ⟨n, hn⟩ : ∃ n, W.2.1 w = n + 1 := ⟨W.2.1 w - 1, by omega⟩
  rw [Bool.eq_iff_iff, hX_iff, hX_iff]
  have key : ∀ fo, fo ≤ 1 → (sx (W.2.1 w) (bh (sx i r) c) = pf W w fo (W.2.1 w) ↔ sx (W.2.1 w) (bh r c) = pf W w fo (W.2.1 w)) := by
    intro fo hfo
    have b := (fN_ok h (fo := fo) hw (show n < W.2.1 w by omega)).2
    have st : stB m W (pf W w fo n) = true := stB_iff.mpr (Or.inr ⟨w, fo, n, hw, by omega, by omega, rfl⟩)
    rw [hn, sx_bh hc, sx_bh hc]
    constructor
    · intro e
      obtain ⟨e1, e2⟩ := bh_inj hc b e
      rcases Nat.lt_or_ge i n with z | z
      · rw [sx_hi (by omega)] at e1
        have := sx_le i r
        have := pf_lo W w fo n
        have := lo_mono z
        omega
      · rw [sx_lo z] at e1
        rw [e1, e2]; rfl
    · intro e
      obtain ⟨e1, e2⟩ := bh_inj hc b e
      rcases Nat.lt_or_ge i n with z | z
      · rw [← e1] at st
        exact absurd st (i3 n z (by omega))
      · rw [sx_lo z, e1, e2]; rfl
  constructor
  · rintro ⟨fo, hfo, z⟩; exact ⟨fo, hfo, (key fo hfo).mp z⟩
  · rintro ⟨fo, hfo, z⟩; exact ⟨fo, hfo, (key fo hfo).mpr z⟩
theorem HS_sx {m : Nat} {W : tW} (h : okL m W) {r c : Nat} (hc : c < 3) : HS m W (bh (sx 3 r) c) = HS m W (bh r c) := by
  apply bitS_congr
  intro w hw
  obtain ⟨-, h1, h4, -⟩ := h.2 w hw
  obtain ⟨n, hn⟩ : ∃ n, W.2.1 w = n + 1 := ⟨W.2.1 w - 1, by omega⟩
  unfold hX
  rw [hn, sx_bh hc, sx_bh hc, sx_lo (by omega)]
theorem sx3_bh {r c : Nat} (hc : c < 3) : sx 3 (bh (sx 3 r) c) = sx 3 (bh r c) := by
  rw [sx_bh hc, sx_bh hc, sx_lo (by omega)]
/-! words that stand in a row -/
def ST (m : Nat) (W : tW) (r : Nat) : Nat := if r = 0 then 0 else ST m W ((r - 1) / 3) ||| HS m W r
termination_by r
decreasing_by omega
theorem ST_0 {m : Nat} {W : tW} : ST m W 0 = 0 := by unfold ST; rfl
theorem ST_bh {m : Nat} {W : tW} {k c : Nat} (hc : c < 3) : ST m W (bh k c) = ST m W k ||| HS m W (bh k c) := by
  rw [ST, if_neg bh_n, bh_t hc]
theorem ST_bit {m : Nat} {W : tW} : ∀ r i, (ST m W r).testBit i = true → i < m := by
  intro r
  refine row_ind (P := fun r => ∀ i, (ST m W r).testBit i = true → i < m) ?_ ?_ r
  · intro i hi; rw [ST_0] at hi; simp at hi
  · intro k c hc ih i hi
    rw [ST_bh hc, Nat.testBit_or, Bool.or_eq_true] at hi
    rcases hi with z | z
    · exact ih i z
    · unfold HS at z
      rw [bitS_bit] at z
      simp only [Bool.and_eq_true, decide_eq_true_eq] at z
      exact z.1
theorem ST_lt {m : Nat} (hm : m ≤ 4) {W : tW} (r : Nat) : ST m W r < 16 := by
  apply Nat.lt_pow_two_of_testBit (n := 4)
  intro i hi
  cases h : (ST m W r).testBit i
  · rfl
  · have := ST_bit r i h; omega
def apw (W : tW) (r w : Nat) : Nat → Nat
  | 0 => r
  | i + 1 => bh (apw W r w i) (fN W w 0 i)
theorem apw_sx {m : Nat} {W : tW} (h : okL m W) {r w : Nat} (hw : w < m) : ∀ i, i ≤ W.2.1 w → sx i (apw W r w i) = pf W w 0 i
  | 0, _ => rfl
  | i + 1, hi => by
    have b := (fN_ok h (fo := 0) hw (show i < W.2.1 w by omega)).2
    simp only [apw, pf]
    rw [sx_bh b, apw_sx h hw i (by omega)]
theorem apw_le {m : Nat} {W : tW} (h : okL m W) {r w a : Nat} (hw : w < m) (hr : r ≤ 3 * lo a) : ∀ i, i ≤ W.2.1 w → apw W r w i ≤ 3 * lo (a + i)
  | 0, _ => hr
  | i + 1, hi => by
    have b := (fN_ok h (fo := 0) hw (show i < W.2.1 w by omega)).2
    have := apw_le h hw hr i (by omega)
    show bh _ _ ≤ 3 * lo (a + i + 1)
    simp only [bh, lo]
    omega
theorem apw_ST {m : Nat} {W : tW} (h : okL m W) {r w j : Nat} (hw : w < m) (hj : (ST m W r).testBit j = true) : ∀ i, i ≤ W.2.1 w → (ST m W (apw W r w i)).testBit j = true
  | 0, _ => hj
  | i + 1, hi => by
    have b := (fN_ok h (fo := 0) hw (show i < W.2.1 w by omega)).2
    simp only [apw]
    rw [ST_bh b, Nat.testBit_or, apw_ST h hw hj i (by omega)]
    rfl
theorem apw_w {m : Nat} {W : tW} (h : okL m W) {r w : Nat} (hw : w < m) : (ST m W (apw W r w (W.2.1 w))).testBit w = true := by
  obtain ⟨-, h1, h4, -⟩ := h.2 w hw
  obtain ⟨n, hn⟩ : ∃ n, W.2.1 w = n + 1 := ⟨W.2.1 w - 1, by omega⟩
  have b := (fN_ok h (fo := 0) hw (show n < W.2.1 w by omega)).2
  have e := apw_sx h (r := r) hw (W.2.1 w) (Nat.le_refl _)
  have hx : hX W w (apw W r w (W.2.1 w)) = true := hX_iff.mpr ⟨0, by omega, e⟩
  rw [hn] at hx ⊢
  simp only [apw] at hx ⊢
  rw [ST_bh b, Nat.testBit_or]
  unfold HS
  rw [bitS_bit, hx]
  simp [hw]
theorem all_row {m : Nat} {W : tW} (h : okL m W) : ∀ k, k ≤ m → ∃ r, r ≤ 3 * lo (4 * k) ∧ ∀ w, w < k → (ST m W r).testBit w = true
  | 0, _ => ⟨0, by omega, fun w hw => by omega⟩
  | k + 1, hk => by
    obtain ⟨r, hr, hb⟩ := all_row h k (by omega)
    have h4 := (h.2 k (by omega)).2.2.1
    refine ⟨apw W r k (W.2.1 k), ?_, fun w hw => ?_⟩
    · have a := apw_le h (a := 4 * k) (show k < m by omega) hr (W.2.1 k) (Nat.le_refl _)
      rcases Nat.lt_or_ge (4 * k + W.2.1 k) (4 * (k + 1)) with z | z
      · have := lo_mono z; omega
      · rw [show 4 * k + W.2.1 k = 4 * (k + 1) by omega] at a; exact a
    · by_cases e : w = k
      · subst e; exact apw_w h (by omega)
      · exact apw_ST h (by omega) (hb w (by omega)) _ (Nat.le_refl _)
def fll (m : Nat) : Nat := 2 ^ m - 1
theorem fll_lt {m : Nat} (hm : m ≤ 4) : fll m < 16 := full_lt hm
theorem fll_ne {m : Nat} (h : 1 ≤ m) (hm : m ≤ 4) : fll m ≠ 0 := by
  unfold fll
  rcases (show m = 1 ∨ m = 2 ∨ m = 3 ∨ m = 4 by omega) with rfl | rfl | rfl | rfl <;> decide
theorem fll_of {m s : Nat} (h1 : ∀ i, s.testBit i = true → i < m) (h2 : ∀ i, i < m → s.testBit i = true) : s = fll m := by
  apply Nat.eq_of_testBit_eq
  intro i
  unfold fll
  rw [Nat.testBit_two_pow_sub_one]
  by_cases e : i < m
  · rw [h2 i e]; simp [e]
  · cases h : s.testBit i
    · simp [e]
    · exact absurd (h1 i h) e
theorem least {P : Nat → Prop} : ∀ n, P n → ∃ k, k ≤ n ∧ P k ∧ ∀ j, P j → k ≤ j := by
  intro n
  induction n using Nat.strongRecOn with
  | ind n ih =>
    intro hn
    by_cases h : ∃ j, j < n ∧ P j
    · obtain ⟨j, hj, pj⟩ := h
      obtain ⟨k, k1, k2, k3⟩ := ih j hj pj
      exact ⟨k, by omega, k2, k3⟩
    · refine ⟨n, Nat.le_refl _, hn, fun j pj => ?_⟩
      rcases Nat.lt_or_ge j n with z | z
      · exact absurd ⟨j, z, pj⟩ h
      · exact z
/-- the first of the shortest rows in which all words stand -/
theorem least_row {m : Nat} {W : tW} (h : okL m W) : ∃ r, r ≤ 3 * lo 16 ∧ ST m W r = fll m ∧ ∀ r', ST m W r' = fll m → r ≤ r' := by
  obtain ⟨r, hr, hb⟩ := all_row h m (Nat.le_refl _)
  have h4 := h.1
  obtain ⟨k, k1, k2, k3⟩ := least (P := fun r => ST m W r = fll m) r (fll_of (fun i hi => ST_bit r i hi) hb)
  refine ⟨k, ?_, k2, k3⟩
  rcases Nat.lt_or_ge (4 * m) 16 with z | z
  · have := lo_mono z; omega
  · rw [show 4 * m = 16 by omega] at hr; omega
/-! points -/
def PP (m : Nat) (W : tW) (r : Nat) : Nat := if ST m W r = fll m then fll m else 16 * ph m W r + ST m W r
def PT (m : Nat) (W : tW) (p c : Nat) : Nat := if p % 16 = fll m then p else if (p % 16 ||| HS m W (bh (p / 16) c)) = fll m then fll m else 16 * ph m W (bh (p / 16) c) + (p % 16 ||| HS m W (bh (p / 16) c))
theorem PP_mod {m : Nat} (hm : m ≤ 4) {W : tW} (r : Nat) : PP m W r % 16 = ST m W r := by
  have a := ST_lt hm (W := W) r
  unfold PP
  by_cases e : ST m W r = fll m
  · rw [if_pos e, e]; have := fll_lt hm; omega
  · rw [if_neg e]; omega
theorem or_fll {m s t : Nat} (h : s = fll m) (ht : ∀ i, t.testBit i = true → i < m) : s ||| t = fll m := by
  subst h
  apply Nat.eq_of_testBit_eq
  intro i
  rw [Nat.testBit_or]
  unfold fll
  rw [Nat.testBit_two_pow_sub_one]
  cases h : t.testBit i
  · simp
  · simp [ht i h]
theorem HS_bit {m : Nat} {W : tW} {r i : Nat} (h : (HS m W r).testBit i = true) : i < m := by
  unfold HS at h
  rw [bitS_bit] at h
  simp only [Bool.and_eq_true, decide_eq_true_eq] at h
  exact h.1
theorem PP_0 {m : Nat} (h1 : 1 ≤ m) (hm : m ≤ 4) {W : tW} : PP m W 0 = 0 := by
  have z : ph m W 0 = 0 := by unfold ph; rw [sx_0, sx_0, sx_0]; simp
  unfold PP
  rw [ST_0, if_neg (fun e => fll_ne h1 hm e.symm), z]
theorem PP_bh {m : Nat} {W : tW} (h : okL m W) {r c : Nat} (hc : c < 3) : PP m W (bh r c) = PT m W (PP m W r) c := by
  have hm := h.1
  have a := ST_lt hm (W := W) r
  unfold PT
  rw [PP_mod hm]
  by_cases e : ST m W r = fll m
  · rw [if_pos e]
    unfold PP
    rw [ST_bh hc, if_pos (or_fll e (fun i hi => HS_bit hi)), if_pos e]
  · rw [if_neg e]
    have e2 : PP m W r / 16 = ph m W r := by unfold PP; rw [if_neg e]; omega
    rw [e2, HS_ph h hc, ph_bh h hc, ← ST_bh hc]
    rfl
theorem PP_lt {m : Nat} {W : tW} (h : okL m W) (r : Nat) : PP m W r < 640 := by
  have hm := h.1
  have a := ST_lt hm (W := W) r
  have b := st_lt h (ph_st (m := m) (W := W) (r := r))
  have c := fll_lt hm
  unfold PP
  split <;> omega
theorem PP_fll {m : Nat} {W : tW} (hm : m ≤ 4) {r : Nat} : PP m W r = fll m ↔ ST m W r = fll m := by
  constructor
  · intro e
    rw [← PP_mod hm, e]
    have := fll_lt hm; omega
  · intro e; unfold PP; rw [if_pos e]
