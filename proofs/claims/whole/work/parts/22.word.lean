/-! words: letters of a form, a form that ends at a place of a row; the row's side -/
def cI (b : Bool) : Int32 := if b = true then 1 else 0
theorem cI_t : cI true = 1 := rfl
theorem cI_f : cI false = 0 := rfl
def fml (k n : Nat) (f : Nat → Int32) (form j : Nat) : Int32 := if form = 0 ∨ k = 0 then f j else if k = 1 then f (n - 1 - j) else f (if j + 1 < n then j + 1 else 0)
def hFb (k n : Nat) (f : Nat → Int32) (form : Nat) (g : Nat → Int32) (b : Nat) : Bool := (List.range n).all (fun i => g (b + i) == fml k n f form i)
theorem hFb_iff {k n : Nat} {f : Nat → Int32} {form : Nat} {g : Nat → Int32} {b : Nat} : hFb k n f form g b = true ↔ ∀ i, i < n → g (b + i) = fml k n f form i := by
  simp [hFb, List.all_eq_true]
def hWb (k n : Nat) (f g : Nat → Int32) (e : Nat) : Bool := decide (n ≤ e) && (hFb k n f 0 g (e - n) || hFb k n f 1 g (e - n))
def atW (A V : tA2) (a k n : Nat) (f : Nat → Int32) : Prop := isW a ∧ V a 2 = nI k ∧ V a 1 = nI n ∧ k ≤ 2 ∧ 1 ≤ n ∧ n ≤ 4 ∧ ∀ j, j < n → A (a + 1) j = f j
theorem e1 : (1 : Int32) = nI 1 := rfl
theorem e0 : (0 : Int32) = nI 0 := rfl
theorem nI_sub1 {n : Nat} (h : 1 ≤ n) : nI n - 1 = nI (n - 1) := by rw [e1, pk_sub h]
theorem nI_eq' {a b : Nat} (ha : a < 2 ^ 31) (hb : b < 2 ^ 31) (h : a ≠ b) : ¬ nI a = nI b := fun q => h ((nI_eq ha hb).mp q)
theorem nz0 {a : Nat} (h : a ≠ 0) (ha : a < 2 ^ 31) : ¬ nI a = 0 := nI_eq' (b := 0) ha (by omega) h
theorem nz1 {a : Nat} (h : a ≠ 1) (ha : a < 2 ^ 31) : ¬ nI a = 1 := nI_eq' (b := 1) ha (by omega) h
theorem inb_n {i : Int32} {j n : Nat} (e : i = nI j) (h : j < n) (hn : n < 2 ^ 31) : inb i n = true := by subst e; exact inb_nI h hn
theorem tn {j : Nat} (h : j < 2 ^ 31) : (nI j).toNatClampNeg = j := nI_clamp h
section WD
variable {A : tA2} {B : tB2} {V : tA2} {q : tQ} {F a k n j fo : Nat} {f : Nat → Int32}
theorem x6_letterOf (h : atW A V a k n f) (hj : j < n) (hfo : fo ≤ 1) : x_X6_letterOf F (mk A B V q) a (nI fo) (nI j) = some (fml k n f fo j) := by
  obtain ⟨hw, hk, hn, h1, h2, h3, hf⟩ := h
  unfold x_X6_letterOf x_X6_letterOf_11 x_X6_letterOf_61
  rw [cW hw, bs]
  have hi : inb (nI j) 4 = true := inb_nI (by omega) (by omega)
  by_cases h0 : fo = 0
  · subst h0
    rw [if_pos nI_0, rW hw, bs, lW hw hi, bs, tn (by omega), hf j hj]
    simp [fml]
  · have ef : fo = 1 := by omega
    subst ef
    rw [if_neg (nz0 (a := 1) (by omega) (by omega)), gW2 hw, bs, hk]
    by_cases hk0 : k = 0
    · subst hk0
      rw [if_pos nI_0, rW hw, bs, lW hw hi, bs, tn (by omega), hf j hj]
      simp [fml]
    · rw [if_neg (nz0 hk0 (by omega)), bs]
      by_cases hk1 : k = 1
      · subst hk1
        rw [if_pos e1.symm, rW hw, bs, gW1 hw, bs, hn, nI_sub1 h2, pk_sub (by omega), lW hw (inb_nI (by omega) (by omega)), bs, tn (by omega), hf _ (by omega)]
        simp [fml]
      · rw [if_neg (nz1 hk1 (by omega)), rW hw, bs, gW1 hw, bs, hn, nI_1]
        by_cases hl : j + 1 < n
        · rw [if_neg (fun z => by have := (nI_leI (by omega) (by omega)).mp z; omega), lW hw (inb_nI (by omega) (by omega)), bs, tn (by omega), hf _ hl]
          simp [fml, hk0, hk1, hl]
        · rw [if_pos ((nI_leI (by omega) (by omega)).mpr (by omega)), lW hw (show inb 0 4 = true by decide), bs]
          have z : (0 : Int32).toNatClampNeg = 0 := rfl
          rw [z, hf 0 (by omega)]
          simp [fml, hk0, hk1, hl]
theorem x6_fe_loop (h : atW A V a k n f) (hfo : fo ≤ 1) {r N b : Nat} (hr : shp r = (10, N)) (hN : N < 2 ^ 20) (hb : b + n ≤ N) : ∀ (d m j : Nat), j + d = n → d < m → (∀ i, i < j → A r (b + i) = fml k n f fo i) → x_X6_formEndsAt_24 F (mk A B V q) a (nI fo) r (nI b) m (nI j) = some (cI (hFb k n f fo (A r) b)) := by
  have hW := h
  obtain ⟨hw, hk, hn, h1, h2, h3, hf⟩ := h
  intro d
  induction d with
  | zero =>
    intro m j hj hm hall
    obtain ⟨m, rfl⟩ : ∃ z, m = z + 1 := ⟨m - 1, by omega⟩
    show s_X6_formEndsAt_24 _ _ _ _ _ _ _ _ = _
    unfold s_X6_formEndsAt_24
    rw [gW1 hw, bs, hn, if_pos ((nI_leI (by omega) (by omega)).mpr (by omega)), show hFb k n f fo (A r) b = true from hFb_iff.mpr (fun i hi => hall i (by omega))]
    rfl
  | succ d ih =>
    intro m j hj hm hall
    obtain ⟨m, rfl⟩ : ∃ z, m = z + 1 := ⟨m - 1, by omega⟩
    show s_X6_formEndsAt_24 _ _ _ _ _ _ _ _ = _
    unfold s_X6_formEndsAt_24
    rw [gW1 hw, bs, hn, if_neg (fun z => by have := (nI_leI (by omega) (by omega)).mp z; omega), nI_add, mk_aldI hr (inb_nI (by omega) (by omega)), bs, tn (by omega), x6_letterOf hW (by omega) hfo, bs, nI_1]
    by_cases e : A r (b + j) = fml k n f fo j
    · rw [if_pos e]
      exact ih m (j + 1) (by omega) (by omega) (fun i hi => by
        rcases Nat.lt_or_ge i j with z | z
        · exact hall i z
        · have : i = j := by omega
          rw [this]; exact e)
    · rw [if_neg e]
      have : hFb k n f fo (A r) b = false := by
        rw [Bool.eq_false_iff]
        intro z
        exact e (hFb_iff.mp z j (by omega))
      rw [this]
      rfl
theorem x6_formEndsAt (h : atW A V a k n f) (hfo : fo ≤ 1) {r N e : Nat} (hr : shp r = (10, N)) (hN : N < 2 ^ 20) (he : e ≤ N) (hF : 5 ≤ F) : x_X6_formEndsAt F (mk A B V q) a (nI fo) r (nI e) = some (cI (decide (n ≤ e) && hFb k n f fo (A r) (e - n))) := by
  have hW := h
  obtain ⟨hw, hk, hn, h1, h2, h3, hf⟩ := h
  unfold x_X6_formEndsAt
  rw [cW hw, bs, gW1 hw, bs, hn]
  by_cases hle : n ≤ e
  · rw [pk_sub hle, if_neg (nI_pos (by omega)), mk_alen hr, bs, if_pos ((nI_leI (by omega) (by omega)).mpr he)]
    rw [show (0 : Int32) = nI 0 from rfl, x6_fe_loop hW hfo hr hN (by omega) n F 0 (by omega) (by omega) (fun i hi => absurd hi (by omega))]
    simp [hle]
  · rw [if_pos (pk_sneg (by omega) (by omega))]
    simp [hle, cI]
theorem x6_endsAt (h : atW A V a k n f) {r N e : Nat} (hr : shp r = (10, N)) (hN : N < 2 ^ 20) (he : e ≤ N) (hF : 5 ≤ F) : x_X6_endsAt F (mk A B V q) a r (nI e) = some (cI (hWb k n f (A r) e)) := by
  have hW := h
  obtain ⟨hw, hk, hn, h1, h2, h3, hf⟩ := h
  unfold x_X6_endsAt x_X6_endsAt_27
  have h0 := x6_formEndsAt (B := B) (q := q) (fo := 0) hW (by omega) hr hN he hF
  have h1' := x6_formEndsAt (B := B) (q := q) (fo := 1) hW (by omega) hr hN he hF
  rw [nI_0] at h0
  rw [← e1] at h1'
  rw [cW hw, bs, h0, bs]
  unfold hWb
  cases hb0 : (decide (n ≤ e) && hFb k n f 0 (A r) (e - n)) with
  | true =>
    rw [if_neg (by decide)]
    simp only [Bool.and_eq_true] at hb0
    simp [hb0.1, hb0.2, cI]
  | false =>
    rw [if_pos cI_f, gW2 hw, bs, hk]
    by_cases hk0 : k = 0
    · subst hk0
      rw [if_pos nI_0]
      have : hFb 0 n f 1 (A r) (e - n) = hFb 0 n f 0 (A r) (e - n) := by simp [hFb, fml]
      rw [this]
      cases hd : decide (n ≤ e)
      · rfl
      · rw [hd] at hb0
        simp only [Bool.true_and] at hb0
        simp [hb0, cI]
    · rw [if_neg (nz0 hk0 (by omega)), h1', bs]
      cases hd : decide (n ≤ e)
      · rfl
      · rw [hd] at hb0
        simp only [Bool.true_and] at hb0 ⊢
        rw [hb0]
        cases hFb k n f 1 (A r) (e - n) <;> rfl
end WD
