/-! guards; the invariant and its parts -/
theorem inb_iff {a : Int32} {n : Nat} : inb a n = true ↔ 0 ≤ a.toInt ∧ a.toInt < n := by
  rw [← vp_in_iff]
  constructor
  · exact inb_in
  · intro h
    unfold vp_in at h
    simp only [not_or, Nat.not_le] at h
    simp [inb, h.1, h.2]
theorem inb_ex {a : Int32} {n : Nat} (h : inb a n = true) (hn : n < 2 ^ 31) : ∃ k, k < n ∧ a = nI k := vp_in_of (inb_in h) hn
theorem inb_f {a : Int32} {n : Nat} (h : inb a n = false) : a.toInt < 0 ∨ (n : Int) ≤ a.toInt := by
  by_cases z : a.toInt < 0
  · exact Or.inl z
  · refine Or.inr ?_
    by_cases z2 : a.toInt < n
    · rw [inb_iff.mpr ⟨by omega, z2⟩] at h
      cases h
    · omega
theorem i0 : (0 : Int32).toInt = 0 := rfl
section GD
variable {F : Nat} {h : pH}
theorem x7_isBelow {a : Int32} {n : Nat} (hn : n < 2 ^ 31) : x_X7_isBelow F h a (nI n) = some (cI (inb a n)) := by
  unfold x_X7_isBelow
  have en := nI_toInt hn
  cases hb : inb a n
  · rcases inb_f hb with z | z
    · rw [if_pos (by rw [Int32.lt_iff_toInt_lt, i0]; exact z)]; rfl
    · by_cases z2 : a < 0
      · rw [if_pos z2]; rfl
      · rw [if_neg z2, if_pos (by rw [Int32.le_iff_toInt_le, en]; exact z)]; rfl
  · obtain ⟨z1, z2⟩ := inb_iff.mp hb
    rw [if_neg (by rw [Int32.lt_iff_toInt_lt, i0]; omega), if_neg (by rw [Int32.le_iff_toInt_le, en]; omega)]; rfl
theorem x8_within {a v : Int32} {n : Nat} (hv : v.toInt = (n : Int) - 1) : x_X8_within F h a 0 v = some (cI (inb a n)) := by
  unfold x_X8_within
  cases hb : inb a n
  · rcases inb_f hb with z | z
    · rw [if_pos (by rw [Int32.lt_iff_toInt_lt, i0]; exact z)]; rfl
    · by_cases z2 : a < 0
      · rw [if_pos z2]; rfl
      · rw [if_neg z2, if_pos (by rw [Int32.lt_iff_toInt_lt, hv]; omega)]; rfl
  · obtain ⟨z1, z2⟩ := inb_iff.mp hb
    rw [if_neg (by rw [Int32.lt_iff_toInt_lt, i0]; omega), if_neg (by rw [Int32.lt_iff_toInt_lt, hv]; omega)]; rfl
theorem nI_m1 {n : Nat} (hn : n < 2 ^ 30) : (nI n - 1).toInt = (n : Int) - 1 := by
  have := pk_sub_toInt (a := n) (b := 1) hn (by omega)
  exact this
theorem retZ_c (b : Bool) : retZ (cI b) = some (cI b) := by cases b <;> rfl
theorem x7_isSheet {a : Int32} : x_X7_isSheet F h a = some (cI (inb a 4)) := by
  unfold x_X7_isSheet
  rw [show (4 : Int32) = nI 4 from rfl, x7_isBelow (by omega), bs, retZ_c]
theorem x8_isSheet {a : Int32} : x_X8_isSheet F h a = some (cI (inb a 4)) := by
  unfold x_X8_isSheet
  rw [x8_within (n := 4) rfl, bs, retZ_c]
theorem x8_isSort {a : Int32} : x_X8_isSort F h a = some (cI (inb a 3)) := by
  unfold x_X8_isSort
  rw [x8_within (n := 3) rfl, bs, retZ_c]
end GD
section GW
variable {A : tA2} {B : tB2} {V : tA2} {q : tQ} {F m : Nat}
theorem x7_isWord (hV : V 0 3 = nI m) (hm : m ≤ 4) {a : Int32} : x_X7_isWord F (mk A B V q) 0 a = some (cI (inb a m)) := by
  unfold x_X7_isWord
  rw [c_0, bs, g_0_3, bs, hV, x7_isBelow (by omega), bs, retZ_c]
theorem x8_isWord (hV : V 68 5 = nI m) (hm : m ≤ 4) {a : Int32} : x_X8_isWord F (mk A B V q) 68 a = some (cI (inb a m)) := by
  unfold x_X8_isWord
  rw [c_68, bs, g_68_5]
  have := x7_isBelow (F := F) (h := mk A B V q) (a := a) (n := m) (by omega)
  unfold x_X7_isBelow at this
  rw [bs, hV]
  exact this
end GW
theorem cI_ne {b : Bool} : ¬ cI b = 0 ↔ b = true := by cases b <;> decide
theorem cI_z {b : Bool} : cI b = 0 ↔ b = false := by cases b <;> decide
/-! ## parts of the invariant -/
def okQ (q : tQ) : Prop := (q.1 = 3 ∧ q.2.1 = 12 ∨ q.1 = 12 ∧ q.2.1 = 3) ∧ (q.2.2.1 = 42 ∧ q.2.2.2 = 43 ∨ q.2.2.1 = 43 ∧ q.2.2.2 = 42)
def WI (A V : tA2) (q : tQ) (m : Nat) (kd ln : Nat → Nat) (lt : Nat → Nat → Int32) : Prop := m ≤ 4 ∧ V 0 3 = nI m ∧ V 68 5 = nI m ∧ repX A V q.1 m kd ln lt ∧ repM A m kd ln lt ∧ ∀ w, w < m → ∀ j, j < ln w → ∃ c, c < 3 ∧ lt w j = nI c
def SI (A V : tA2) : Prop := ∀ k, k < 4 → (∃ l, l ≤ 60 ∧ V (44 + 2 * k) 3 = nI l ∧ A 70 k = nI l) ∧ (V (44 + 2 * k) 1 = 0 ∧ A 69 k = -9 ∨ V (44 + 2 * k) 1 = 1 ∧ ∃ la, la < 3 ∧ V (44 + 2 * k) 2 = nI la ∧ A 69 k = nI la) ∧ ∀ i, i < 60 → A 71 (60 * k + i) = A (45 + 2 * k) i
def ZI (A V : tA2) : Prop := ∃ n, n ≤ 60 ∧ V 0 5 = nI n ∧ V 68 6 = nI n ∧ ∀ i, i < n → A 75 i = A 21 i
def RI (A V : tA2) (m : Nat) : Prop := ∃ n, n ≤ 8 ∧ V 0 8 = nI n ∧ V 68 25 = nI n ∧ ∀ k, k < n → (∃ w, w < m ∧ V (52 + 2 * k) 1 = nI w ∧ A 87 k = nI w) ∧ (∃ l, l ≤ 8 ∧ V (52 + 2 * k) 2 = nI l ∧ A 88 k = nI l ∧ ∀ i, i < l → A 90 (8 * k + i) = A (53 + 2 * k) i) ∧ (∃ b, V (52 + 2 * k) 3 = cI b ∧ A 89 k = cI b)
def TI (V : tA2) : Prop := V 0 15 = V 68 1 ∧ V 0 16 = V 68 0
def agN (A A' : tA2) (B B' : tB2) (V V' : tA2) : Prop := (∀ p, 27 ≤ p → p ≤ 43 → A' p = A p ∧ B' p = B p ∧ V' p = V p)
theorem WI_c {A V A' V' : tA2} {q : tQ} {m : Nat} {kd ln : Nat → Nat} {lt : Nat → Nat → Int32} (h : WI A V q m kd ln lt) (hq : okQ q) (h1 : ∀ p, 3 ≤ p → p ≤ 20 → A' p = A p ∧ V' p = V p) (h2 : A' 72 = A 72) (h3 : A' 73 = A 73) (h4 : A' 74 = A 74) (h5 : V' 0 3 = V 0 3) (h6 : V' 68 5 = V 68 5) : WI A' V' q m kd ln lt := by
  obtain ⟨a1, a2, a3, a4, a5, a6⟩ := h
  refine ⟨a1, by rw [h5]; exact a2, by rw [h6]; exact a3, fun w hw => ?_, fun w hw => ?_, a6⟩
  · obtain ⟨b1, b2, b3, b4, b5, b6, b7⟩ := a4 w hw
    have hb : 3 ≤ wpl q.1 w ∧ wpl q.1 w + 1 ≤ 20 := by
      rcases hq.1 with ⟨z, -⟩ | ⟨z, -⟩ <;> rw [z] <;> simp [wpl] <;> omega
    refine ⟨b1, ?_, ?_, b4, b5, b6, fun j hj => ?_⟩
    · rw [(h1 _ hb.1 (by omega)).2]; exact b2
    · rw [(h1 _ hb.1 (by omega)).2]; exact b3
    · rw [(h1 _ (by omega) hb.2).1]; exact b7 j hj
  · rw [h2, h3, h4]; exact a5 w hw
theorem SI_c {A V A' V' : tA2} (h : SI A V) (h1 : ∀ p, 44 ≤ p → p ≤ 51 → A' p = A p ∧ V' p = V p) (h2 : A' 69 = A 69) (h3 : A' 70 = A 70) (h4 : A' 71 = A 71) : SI A' V' := by
  intro k hk
  have := h k hk
  rw [(h1 (44 + 2 * k) (by omega) (by omega)).2, (h1 (45 + 2 * k) (by omega) (by omega)).1, h2, h3, h4]
  exact this
theorem ZI_c {A V A' V' : tA2} (h : ZI A V) (h1 : A' 75 = A 75) (h2 : A' 21 = A 21) (h3 : V' 0 5 = V 0 5) (h4 : V' 68 6 = V 68 6) : ZI A' V' := by
  obtain ⟨n, a1, a2, a3, a4⟩ := h
  exact ⟨n, a1, by rw [h3]; exact a2, by rw [h4]; exact a3, by rw [h1, h2]; exact a4⟩
theorem RI_c {A V A' V' : tA2} {m : Nat} (h : RI A V m) (h1 : ∀ p, 52 ≤ p → p ≤ 67 → A' p = A p ∧ V' p = V p) (h2 : ∀ p, 87 ≤ p → p ≤ 90 → A' p = A p) (h3 : V' 0 8 = V 0 8) (h4 : V' 68 25 = V 68 25) : RI A' V' m := by
  obtain ⟨n, a1, a2, a3, a4⟩ := h
  refine ⟨n, a1, by rw [h3]; exact a2, by rw [h4]; exact a3, fun k hk => ?_⟩
  have := a4 k hk
  rw [(h1 (52 + 2 * k) (by omega) (by omega)).2, (h1 (53 + 2 * k) (by omega) (by omega)).1, h2 87 (by omega) (by omega), h2 88 (by omega) (by omega), h2 89 (by omega) (by omega), h2 90 (by omega) (by omega)]
  exact this
theorem TI_c {V V' : tA2} (h : TI V) (h1 : V' 0 15 = V 0 15) (h2 : V' 0 16 = V 0 16) (h3 : V' 68 0 = V 68 0) (h4 : V' 68 1 = V 68 1) : TI V' := by
  unfold TI
  rw [h1, h2, h3, h4]; exact h
/-! ## the invariant: NO what holds of the net, the points and the counts when they are not old; SS of the net's table of shorter ends -/
abbrev tNO : Type := tA2 → tB2 → tA2 → tQ → Nat → (Nat → Nat) → (Nat → Nat) → (Nat → Nat → Int32) → Prop
def NOf (NO : tNO) : Prop := ∀ (A A' : tA2) (B B' : tB2) (V V' : tA2) (q : tQ) (m : Nat) (kd ln : Nat → Nat) (lt : Nat → Nat → Int32), agN A A' B B' V V' → NO A B V q m kd ln lt → NO A' B' V' q m kd ln lt
def InvW (NO : tNO) (SS : (Nat → Int32) → Prop) (A : tA2) (B : tB2) (V : tA2) (q : tQ) (m : Nat) (kd ln : Nat → Nat) (lt : Nat → Nat → Int32) : Prop := okQ q ∧ WI A V q m kd ln lt ∧ SI A V ∧ ZI A V ∧ RI A V m ∧ TI V ∧ SS (A 28) ∧ (V 0 14 = 1 ∨ V 0 14 = 0 ∧ NO A B V q m kd ln lt)
def InvH (NO : tNO) (SS : (Nat → Int32) → Prop) (h : pH) : Prop := ∃ A B V q m kd ln lt, h = mk A B V q ∧ InvW NO SS A B V q m kd ln lt
theorem u2_ne {α : Type} {f : Nat → Nat → α} {p k p' k' : Nat} {x : α} (h : ¬ (p' = p ∧ k' = k)) : u2 f p k x p' k' = f p' k' := by
  by_cases e : p' = p
  · subst e
    exact u2_k f x (fun z => h ⟨rfl, z⟩)
  · exact u2_p f x e
theorem u2_u2 {α : Type} (f : Nat → Nat → α) (p k : Nat) (x y : α) : u2 (u2 f p k x) p k y = u2 f p k y := by
  funext p' k'
  by_cases e : p' = p ∧ k' = k
  · obtain ⟨rfl, rfl⟩ := e
    rw [u2_s, u2_s]
  · rw [u2_ne e, u2_ne e, u2_ne e]
section FR
variable {NO : tNO} {SS : (Nat → Int32) → Prop} {A A' : tA2} {B B' : tB2} {V V' : tA2} {q : tQ} {m : Nat} {kd ln : Nat → Nat} {lt : Nat → Nat → Int32}
def scrA (p : Nat) : Prop := p = 22 ∨ p = 25 ∨ p = 26 ∨ (76 ≤ p ∧ p ≤ 82) ∨ p = 85 ∨ p = 86
def scrV (p k : Nat) : Prop := p = 2 ∨ p = 24 ∨ (p = 68 ∧ (k = 11 ∨ k = 12 ∨ k = 17))
theorem nA {p : Nat} (h : ∀ p, ¬ scrA p → A' p = A p) (h1 : p ≠ 22 ∧ p ≠ 25 ∧ p ≠ 26 ∧ (p < 76 ∨ 82 < p) ∧ p ≠ 85 ∧ p ≠ 86) : A' p = A p := h p (by unfold scrA; omega)
theorem nV {p : Nat} (h : ∀ p k, ¬ scrV p k → V' p k = V p k) (h1 : p ≠ 2 ∧ p ≠ 24 ∧ p ≠ 68) : V' p = V p := by
  funext k
  exact h p k (by unfold scrV; omega)
/-- only places that serve for a while have changed -/
theorem inv_scr (hNO : NOf NO) (hI : InvW NO SS A B V q m kd ln lt) (hA : ∀ p, ¬ scrA p → A' p = A p) (hB : ∀ p, p ≠ 83 → p ≠ 84 → B' p = B p) (hV : ∀ p k, ¬ scrV p k → V' p k = V p k) : InvW NO SS A' B' V' q m kd ln lt := by
  obtain ⟨hq, hW, hS, hZ, hR, hT, hSS, hN⟩ := hI
  have v68 : ∀ k, k ≠ 11 → k ≠ 12 → k ≠ 17 → V' 68 k = V 68 k := fun k h1 h2 h3 => hV 68 k (by unfold scrV; omega)
  have v0 : V' 0 = V 0 := nV hV (by omega)
  refine ⟨hq, WI_c hW hq (fun p h1 h2 => ⟨nA hA (by omega), nV hV (by omega)⟩) (nA hA (by omega)) (nA hA (by omega)) (nA hA (by omega)) (by rw [v0]) (v68 5 (by omega) (by omega) (by omega)), SI_c hS (fun p h1 h2 => ⟨nA hA (by omega), nV hV (by omega)⟩) (nA hA (by omega)) (nA hA (by omega)) (nA hA (by omega)), ZI_c hZ (nA hA (by omega)) (nA hA (by omega)) (by rw [v0]) (v68 6 (by omega) (by omega) (by omega)), RI_c hR (fun p h1 h2 => ⟨nA hA (by omega), nV hV (by omega)⟩) (fun p h1 h2 => nA hA (by omega)) (by rw [v0]) (v68 25 (by omega) (by omega) (by omega)), TI_c hT (by rw [v0]) (by rw [v0]) (v68 0 (by omega) (by omega) (by omega)) (v68 1 (by omega) (by omega) (by omega)), by rw [nA hA (by omega)]; exact hSS, ?_⟩
  rw [v0]
  rcases hN with z | ⟨z1, z2⟩
  · exact Or.inl z
  · exact Or.inr ⟨z1, hNO A A' B B' V V' q m kd ln lt (fun p h1 h2 => ⟨nA hA (by omega), hB p (by omega) (by omega), nV hV (by omega)⟩) z2⟩
/-- the same words and net; of the fields only some of the two objects have changed -/
theorem inv_fld (hNO : NOf NO) (hI : InvW NO SS A B V q m kd ln lt) (hV : ∀ p k, p ≠ 0 → p ≠ 68 → V' p k = V p k) (h3 : V' 0 3 = V 0 3) (h5 : V' 68 5 = V 68 5) (h14 : V' 0 14 = V 0 14) (hZ' : ZI A V') (hR' : RI A V' m) (hT' : TI V') : InvW NO SS A B V' q m kd ln lt := by
  obtain ⟨hq, hW, hS, hZ, hR, hT, hSS, hN⟩ := hI
  have nv : ∀ p, p ≠ 0 → p ≠ 68 → V' p = V p := fun p h1 h2 => by funext k; exact hV p k h1 h2
  refine ⟨hq, WI_c hW hq (fun p h1 h2 => ⟨rfl, nv p (by omega) (by omega)⟩) rfl rfl rfl h3 h5, SI_c hS (fun p h1 h2 => ⟨rfl, nv p (by omega) (by omega)⟩) rfl rfl rfl, hZ', hR', hT', hSS, ?_⟩
  rw [h14]
  rcases hN with z | ⟨z1, z2⟩
  · exact Or.inl z
  · exact Or.inr ⟨z1, hNO A A B B V V' q m kd ln lt (fun p h1 h2 => ⟨rfl, rfl, nv p (by omega) (by omega)⟩) z2⟩
/-- the fault is told anew on both sides -/
theorem inv_fault (hNO : NOf NO) (hI : InvW NO SS A B V q m kd ln lt) (x : Int32) : InvW NO SS A B (u2 (u2 V 0 16 x) 68 0 x) q m kd ln lt := by
  have hI0 := hI
  obtain ⟨hq, hW, hS, hZ, hR, hT, hSS, hN⟩ := hI
  have e : ∀ p k, ¬ (p = 0 ∧ k = 16) → ¬ (p = 68 ∧ k = 0) → u2 (u2 V 0 16 x) 68 0 x p k = V p k := fun p k h1 h2 => by rw [u2_ne h2, u2_ne h1]
  refine inv_fld hNO hI0 (fun p k h1 h2 => e p k (by omega) (by omega)) (e _ _ (by omega) (by omega)) (e _ _ (by omega) (by omega)) (e _ _ (by omega) (by omega)) (ZI_c hZ rfl rfl (e _ _ (by omega) (by omega)) (e _ _ (by omega) (by omega))) (RI_c hR (fun p h1 h2 => ⟨rfl, by funext k; exact e p k (by omega) (by omega)⟩) (fun _ _ _ => rfl) (e _ _ (by omega) (by omega)) (e _ _ (by omega) (by omega))) ⟨?_, ?_⟩
  · rw [e 0 15 (by omega) (by omega), e 68 1 (by omega) (by omega)]; exact hT.1
  · rw [u2_ne (p' := 0) (by omega), u2_s, u2_s]
end FR
