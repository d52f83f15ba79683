/-! all: how far a state is from where all stand -/
def RD (m : Nat) (W : tW) : Nat → Nat → Prop
  | 0, k => k % 16 = fll m
  | d + 1, k => ∃ c, c < 3 ∧ RD m W d (TM m W k c)
def dst (m : Nat) (W : tW) (k d : Nat) : Prop := RD m W d k ∧ ∀ d', d' < d → ¬ RD m W d' k
theorem dst_s {m : Nat} {W : tW} {k d : Nat} : dst m W k (d + 1) ↔ (∀ d', d' ≤ d → ¬ RD m W d' k) ∧ ∃ c, c < 3 ∧ dst m W (TM m W k c) d := by
  constructor
  · rintro ⟨⟨c, hc, h1⟩, h2⟩
    refine ⟨fun d' hd => h2 d' (by omega), c, hc, h1, fun d'' hd z => ?_⟩
    exact h2 (d'' + 1) (by omega) ⟨c, hc, z⟩
  · rintro ⟨h1, c, hc, h2, -⟩
    exact ⟨⟨c, hc, h2⟩, fun d' hd => h1 d' (by omega)⟩
theorem dst_u {m : Nat} {W : tW} {k d d' : Nat} (h : dst m W k d) (h' : dst m W k d') : d = d' := by
  rcases Nat.lt_trichotomy d d' with z | z | z
  · exact absurd h.1 (h'.2 d z)
  · exact z
  · exact absurd h'.1 (h.2 d' z)
def FSa (m : Nat) (W : tW) (x : Int32) (d k : Nat) : Prop := (x = -9 ∧ ∀ d', d' ≤ d → ¬ RD m W d' k) ∨ ∃ d', d' ≤ d ∧ x = nI d' ∧ dst m W k d'
theorem FSa_iff {m : Nat} {W : tW} {x : Int32} {d e k : Nat} (h : FSa m W x d k) (he : e ≤ d) (hd : d < 2 ^ 30) : x = nI e ↔ dst m W k e := by
  rcases h with ⟨z1, z2⟩ | ⟨d', z1, z2, z3⟩
  · constructor
    · intro y; rw [z1] at y; exact absurd y.symm (nI_n9 (by omega))
    · intro y; exact absurd y.1 (z2 e he)
  · constructor
    · intro y
      rw [z2] at y
      have := (nI_eq (by omega) (by omega)).mp y
      rw [← this]; exact z3
    · intro y
      rw [z2, dst_u z3 y]
theorem FSa_up {m : Nat} {W : tW} {x : Int32} {d k : Nat} (h : FSa m W x d k) (hn : ¬ dst m W k (d + 1)) : FSa m W x (d + 1) k := by
  rcases h with ⟨z1, z2⟩ | ⟨d', z1, z2⟩
  · left
    refine ⟨z1, fun d' hd z => ?_⟩
    rcases Nat.lt_or_ge d d' with y | y
    · have : d' = d + 1 := by omega
      subst this
      exact hn ⟨z, fun d'' hd'' => z2 d'' (by omega)⟩
    · exact z2 d' y z
  · exact Or.inr ⟨d', by omega, z2⟩
theorem cnt_lt {p p' : Nat → Bool} : ∀ (d j : Nat), (∀ i, j ≤ i → i < j + d → p' i = true → p i = true) → (∃ i, j ≤ i ∧ i < j + d ∧ p i = true ∧ p' i = false) → cnt p' j d < cnt p j d
  | 0, j, _, ⟨i, h1, h2, _⟩ => by omega
  | d + 1, j, h, ⟨i, h1, h2, h3, h4⟩ => by
    simp only [cnt]
    by_cases e : i = j
    · subst e
      rw [h3, h4]
      have : cnt p' (i + 1) d ≤ cnt p (i + 1) d := by
        have mono : ∀ (d j : Nat), (∀ i, j ≤ i → i < j + d → p' i = true → p i = true) → cnt p' j d ≤ cnt p j d := by
          intro d
          induction d with
          | zero => intro j _; exact Nat.le_refl _
          | succ d ih =>
            intro j h
            simp only [cnt]
            have := ih (j + 1) (fun i h1 h2 => h i (by omega) (by omega))
            have hj := h j (by omega) (by omega)
            by_cases z : p' j = true
            · rw [if_pos z, if_pos (hj z)]; omega
            · rw [if_neg z]; omega
        exact mono d (i + 1) (fun i h1 h2 => h i (by omega) (by omega))
      simp
      omega
    · have := cnt_lt d (j + 1) (fun i h1 h2 => h i (by omega) (by omega)) ⟨i, by omega, by omega, h3, h4⟩
      have hj := h j (by omega) (by omega)
      by_cases z : p' j = true
      · rw [if_pos z, if_pos (hj z)]; omega
      · rw [if_neg z]; omega
def NC (A : tA2) : Nat := cnt (fun k => decide (A 82 k = -9)) 0 640
section FA
variable {F : Nat} {B : tB2} {V : tA2} {q : tQ}
theorem ff_in {m : Nat} {W : tW} (hm : m ≤ 4) {d k : Nat} (hd1 : 1 ≤ d) (hd : d < 2 ^ 20) (hk : k < 640) (k46 k54 : pH → Int32 → Int32 → Option pH) {A : tA2} (hN : netM A m W 40) (h9 : A 82 k = -9) (hI : ∀ k', k' < 640 → (A 82 k' = nI (d - 1) ↔ dst m W k' (d - 1))) : ∀ (e u c : Nat) (more : Bool), c + e = 3 → e + 1 < u → ((∃ c', c ≤ c' ∧ c' < 3 ∧ dst m W (TM m W k c') (d - 1)) ∧ x_X8_findFar_64 F k46 k54 68 (nI d) (nI k) u (mk A B V q) (cI more) (nI c) = k54 (mk (u2 A 82 k (nI d)) B V q) (cI true) (nI (k + 1))) ∨ ((¬ ∃ c', c ≤ c' ∧ c' < 3 ∧ dst m W (TM m W k c') (d - 1)) ∧ x_X8_findFar_64 F k46 k54 68 (nI d) (nI k) u (mk A B V q) (cI more) (nI c) = k54 (mk A B V q) (cI more) (nI (k + 1))) := by
  have i6 : inb (nI k) 640 = true := inb_nI hk (by omega)
  have tk : (nI k).toNatClampNeg = k := tn (by omega)
  intro e
  induction e with
  | zero =>
    intro u c more hc hu
    obtain ⟨u, rfl⟩ : ∃ z, u = z + 1 := ⟨u - 1, by omega⟩
    right
    refine ⟨by rintro ⟨c', h1, h2, -⟩; omega, ?_⟩
    show s_X8_findFar_64 _ _ _ _ _ _ _ _ _ _ = _
    unfold s_X8_findFar_64 x_X8_findFar_114
    rw [show c = 3 by omega, if_pos (by decide), nI_1]
  | succ e ih =>
    intro u c more hc hu
    obtain ⟨u, rfl⟩ : ∃ z, u = z + 1 := ⟨u - 1, by omega⟩
    have t6 := TM_lt hm (W := W) k c
    have hc3 : ¬ (3 : Int32) ≤ nI c := fun z => by have := (nI_leI (a := 3) (by omega) (by omega)).mp z; omega
    have top : x_X8_findFar_64 F k46 k54 68 (nI d) (nI k) (u + 1) (mk A B V q) (cI more) (nI c) = if A 82 (TM m W k c) = nI (d - 1) then x_X8_findFar_64 F k46 k54 68 (nI d) (nI k) u (mk (u2 A 82 k (nI d)) B V q) 1 (nI (c + 1)) else x_X8_findFar_64 F k46 k54 68 (nI d) (nI k) u (mk A B V q) (cI more) (nI (c + 1)) := by
      show s_X8_findFar_64 _ _ _ _ _ _ _ _ _ _ = _
      unfold s_X8_findFar_64 x_X8_findFar_108
      rw [if_neg hc3, r_68_20, bs, l_82 i6, bs, tk, h9, if_pos rfl, bs, x8_behindLetter hm hN hk (by omega), bs, l_82 (inb_nI t6 (by omega)), bs, tn (by omega), nI_sub1 hd1, bs, s_82 i6, bs, tk, nI_1]
    by_cases hx : dst m W (TM m W k c) (d - 1)
    · left
      refine ⟨⟨c, by omega, by omega, hx⟩, ?_⟩
      rw [top, if_pos ((hI _ t6).mpr hx)]
      obtain ⟨u, rfl⟩ : ∃ z, u = z + 1 := ⟨u - 1, by omega⟩
      show s_X8_findFar_64 _ _ _ _ _ _ _ _ _ _ = _
      unfold s_X8_findFar_64 x_X8_findFar_114
      rw [r_68_20, bs, l_82 i6, bs, tk, u2_s, if_neg (nI_n9 (by omega)), ite_self, nI_1]
      rfl
    · rw [top, if_neg (fun z => hx ((hI _ t6).mp z))]
      rcases ih u (c + 1) more (by omega) (by omega) with ⟨⟨c', h1, h2, h3⟩, e1⟩ | ⟨h1, e1⟩
      · exact Or.inl ⟨⟨c', by omega, h2, h3⟩, e1⟩
      · refine Or.inr ⟨?_, e1⟩
        rintro ⟨c', h2, h3, h4⟩
        by_cases ec : c' = c
        · subst ec; exact hx h4
        · exact h1 ⟨c', by omega, h3, h4⟩
theorem ff_mid {m : Nat} {W : tW} (hm : m ≤ 4) {d : Nat} (hd1 : 1 ≤ d) (hd : d < 2 ^ 20) (hF : 10 ≤ F) (k46 : pH → Int32 → Int32 → Option pH) : ∀ (e u k : Nat) (A : tA2) (more : Bool), k + e = 640 → e < u → netM A m W 40 → (∀ k', k' < k → FSa m W (A 82 k') d k') → (∀ k', k ≤ k' → k' < 640 → FSa m W (A 82 k') (d - 1) k') → ∃ (A' : tA2) (more' : Bool), x_X8_findFar_54 F k46 68 (nI d) u (mk A B V q) (cI more) (nI k) = k46 (mk A' B V q) (cI more') (nI (d + 1)) ∧ (∀ p, p ≠ 82 → A' p = A p) ∧ (∀ k', k' < 640 → FSa m W (A' 82 k') d k') ∧ (∀ k', A' 82 k' = -9 → A 82 k' = -9) ∧ ((more = true ∧ more' = true) ∨ (more = false ∧ more' = true ∧ ∃ k', k' < 640 ∧ A 82 k' = -9 ∧ ¬ A' 82 k' = -9) ∨ (more = false ∧ more' = false ∧ ∀ k', k ≤ k' → k' < 640 → ¬ dst m W k' d)) := by
  intro e
  induction e with
  | zero =>
    intro u k A more hk hu hN h1 h2
    obtain ⟨u, rfl⟩ : ∃ z, u = z + 1 := ⟨u - 1, by omega⟩
    refine ⟨A, more, ?_, fun _ _ => rfl, fun k' hk' => h1 k' (by omega), fun _ z => z, ?_⟩
    · show s_X8_findFar_54 _ _ _ _ _ _ _ _ = _
      unfold s_X8_findFar_54
      rw [show k = 640 by omega, if_pos (by decide), nI_1]
    · cases more
      · exact Or.inr (Or.inr ⟨rfl, rfl, fun k' h3 h4 => by omega⟩)
      · exact Or.inl ⟨rfl, rfl⟩
  | succ e ih =>
    intro u k A more hk hu hN h1 h2
    obtain ⟨u, rfl⟩ : ∃ z, u = z + 1 := ⟨u - 1, by omega⟩
    have hI : ∀ k', k' < 640 → (A 82 k' = nI (d - 1) ↔ dst m W k' (d - 1)) := fun k' hk' => by
      rcases Nat.lt_or_ge k' k with z | z
      · exact FSa_iff (h1 k' z) (by omega) (by omega)
      · exact FSa_iff (h2 k' z hk') (by omega) (by omega)
    have i6 : inb (nI k) 640 = true := inb_nI (by omega) (by omega)
    have tk : (nI k).toNatClampNeg = k := tn (by omega)
    have ed : d - 1 + 1 = d := by omega
    have top : x_X8_findFar_54 F k46 68 (nI d) (u + 1) (mk A B V q) (cI more) (nI k) = x_X8_findFar_64 F k46 (x_X8_findFar_54 F k46 68 (nI d) u) 68 (nI d) (nI k) F (mk A B V q) (cI more) (nI 0) := by
      show s_X8_findFar_54 _ _ _ _ _ _ _ _ = _
      unfold s_X8_findFar_54
      rw [if_neg (show ¬ (640 : Int32) ≤ nI k from fun z => by have := (nI_leI (a := 640) (by omega) (by omega)).mp z; omega)]
      rfl
    rw [top]
    have hk2 := h2 k (by omega) (by omega)
    -- nothing changes at k
    have same : ∀ (hnd : ¬ dst m W k d), x_X8_findFar_64 F k46 (x_X8_findFar_54 F k46 68 (nI d) u) 68 (nI d) (nI k) F (mk A B V q) (cI more) (nI 0) = x_X8_findFar_54 F k46 68 (nI d) u (mk A B V q) (cI more) (nI (k + 1)) → ∃ (A' : tA2) (more' : Bool), x_X8_findFar_64 F k46 (x_X8_findFar_54 F k46 68 (nI d) u) 68 (nI d) (nI k) F (mk A B V q) (cI more) (nI 0) = k46 (mk A' B V q) (cI more') (nI (d + 1)) ∧ (∀ p, p ≠ 82 → A' p = A p) ∧ (∀ k', k' < 640 → FSa m W (A' 82 k') d k') ∧ (∀ k', A' 82 k' = -9 → A 82 k' = -9) ∧ ((more = true ∧ more' = true) ∨ (more = false ∧ more' = true ∧ ∃ k', k' < 640 ∧ A 82 k' = -9 ∧ ¬ A' 82 k' = -9) ∨ (more = false ∧ more' = false ∧ ∀ k', k ≤ k' → k' < 640 → ¬ dst m W k' d)) := by
      intro hnd hst
      rw [hst]
      obtain ⟨A', more', e1, e2, e3, e4, e5⟩ := ih u (k + 1) A more (by omega) (by omega) hN (fun k' hk' => by
        by_cases z : k' = k
        · subst z
          have := FSa_up hk2 (by rw [ed]; exact hnd)
          rw [ed] at this
          exact this
        · exact h1 k' (by omega)) (fun k' h3 h4 => h2 k' (by omega) h4)
      refine ⟨A', more', e1, e2, e3, e4, ?_⟩
      rcases e5 with z | z | ⟨z1, z2, z3⟩
      · exact Or.inl z
      · exact Or.inr (Or.inl z)
      · refine Or.inr (Or.inr ⟨z1, z2, fun k' h3 h4 => ?_⟩)
        by_cases y : k' = k
        · subst y; exact hnd
        · exact z3 k' (by omega) h4
    rcases hk2 with ⟨z1, z2⟩ | ⟨d', z1, z2, z3⟩
    · rcases ff_in (F := F) (B := B) (V := V) (q := q) hm hd1 hd (show k < 640 by omega) k46 (x_X8_findFar_54 F k46 68 (nI d) u) hN z1 hI 3 F 0 more (by omega) (by omega) with ⟨⟨c', -, y2, y3⟩, e1⟩ | ⟨y1, e1⟩
      · have hdk : dst m W k d := by
          have := (dst_s (m := m) (W := W) (k := k) (d := d - 1)).mpr ⟨z2, c', y2, y3⟩
          rw [ed] at this; exact this
        rw [e1]
        obtain ⟨A', more', f1, f2, f3, f4, f5⟩ := ih u (k + 1) (u2 A 82 k (nI d)) true (by omega) (by omega) (netM_c hN (u2_pp _ _ (by omega)) (u2_pp _ _ (by omega))) (fun k' hk' => by
          by_cases z : k' = k
          · subst z; rw [u2_s]; exact Or.inr ⟨d, Nat.le_refl _, rfl, hdk⟩
          · rw [u2_k _ _ z]; exact h1 k' (by omega)) (fun k' h3 h4 => by rw [u2_k _ _ (by omega)]; exact h2 k' (by omega) h4)
        refine ⟨A', more', f1, fun p hp => by rw [f2 p hp, u2_pp _ _ hp], f3, fun k' hk' => ?_, ?_⟩
        · have := f4 k' hk'
          by_cases z : k' = k
          · subst z; exact z1
          · rw [u2_k _ _ z] at this; exact this
        · have m1 : more' = true := by
            rcases f5 with ⟨-, y⟩ | ⟨y, -⟩ | ⟨y, -⟩
            · exact y
            · cases y
            · cases y
          cases more
          · refine Or.inr (Or.inl ⟨rfl, m1, k, by omega, z1, fun z => ?_⟩)
            have := f4 k z
            rw [u2_s] at this
            exact nI_n9 (by omega) this
          · exact Or.inl ⟨rfl, m1⟩
      · refine same (fun hd' => ?_) e1
        have := hd'
        rw [← ed] at this
        obtain ⟨-, c', y2, y3⟩ := dst_s.mp this
        exact y1 ⟨c', by omega, y2, y3⟩
    · refine same (fun hd' => ?_) ?_
      · have := dst_u z3 hd'
        omega
      · obtain ⟨v, hv⟩ : ∃ v, F = v + 1 := ⟨F - 1, by omega⟩
        have : x_X8_findFar_64 F k46 (x_X8_findFar_54 F k46 68 (nI d) u) 68 (nI d) (nI k) (v + 1) (mk A B V q) (cI more) (nI 0) = x_X8_findFar_54 F k46 68 (nI d) u (mk A B V q) (cI more) (nI (k + 1)) := by
          show s_X8_findFar_64 _ _ _ _ _ _ _ _ _ _ = _
          unfold s_X8_findFar_64 x_X8_findFar_114
          rw [if_neg (by decide), r_68_20, bs, l_82 i6, bs, tk, z2, if_neg (nI_n9 (by omega)), nI_1]
        rw [← hv] at this
        exact this
def FZ (m : Nat) (W : tW) (A : tA2) : Prop := ∀ k, k < 640 → ∀ d, d < 2 ^ 20 → (A 82 k = nI d ↔ dst m W k d)
theorem ff_out {m : Nat} {W : tW} (hm : m ≤ 4) (hF : 700 ≤ F) : ∀ (n u d : Nat) (A : tA2), NC A ≤ n → n + 1 < u → 1 ≤ d → d + n < 2 ^ 19 → netM A m W 40 → (∀ k, k < 640 → FSa m W (A 82 k) (d - 1) k) → ∃ A', x_X8_findFar_46 F 68 u (mk A B V q) 1 (nI d) = some (mk A' B V q) ∧ (∀ p, p ≠ 82 → A' p = A p) ∧ FZ m W A' := by
  intro n
  induction n with
  | zero =>
    intro u d A hn hu hd1 hd hN h1
    obtain ⟨u, rfl⟩ : ∃ z, u = z + 2 := ⟨u - 2, by omega⟩
    obtain ⟨A', more', e1, e2, e3, e4, e5⟩ := ff_mid (F := F) (B := B) (V := V) (q := q) (m := m) (W := W) hm hd1 (by omega) (by omega) (x_X8_findFar_46 F 68 (u + 1)) 640 F 0 A false (by omega) (by omega) hN (fun k' hk' => by omega) (fun k' _ hk' => h1 k' hk')
    have none9 : ∀ k, k < 640 → ¬ A 82 k = -9 := fun k hk z => by
      have : 0 < cnt (fun k => decide (A 82 k = -9)) 0 640 := (cnt_pos _ _ _).mpr ((anyF_iff _ _ _).mpr ⟨k, by omega, by omega, by simpa using z⟩)
      unfold NC at hn
      omega
    have m0 : more' = false := by
      rcases e5 with ⟨y, -⟩ | ⟨-, -, k', y1, y2, -⟩ | ⟨-, y, -⟩
      · cases y
      · exact absurd y2 (none9 k' y1)
      · exact y
    subst m0
    refine ⟨A', ?_, e2, fun k hk d' hd' => ?_⟩
    · show s_X8_findFar_46 _ _ _ _ _ _ = _
      unfold s_X8_findFar_46
      rw [if_neg (by decide)]
      rw [nI_0] at e1
      refine Eq.trans e1 ?_
      show s_X8_findFar_46 _ _ _ _ _ _ = _
      unfold s_X8_findFar_46
      rw [if_pos cI_f]
    · rcases e3 k hk with ⟨z1, z2⟩ | ⟨d2, z1, z2, z3⟩
      · exact absurd (e4 k z1) (none9 k hk)
      · constructor
        · intro y
          rw [z2] at y
          rw [← (nI_eq (by omega) (by omega)).mp y]; exact z3
        · intro y
          rw [z2, dst_u z3 y]
  | succ n ih =>
    intro u d A hn hu hd1 hd hN h1
    obtain ⟨u, rfl⟩ : ∃ z, u = z + 2 := ⟨u - 2, by omega⟩
    obtain ⟨A', more', e1, e2, e3, e4, e5⟩ := ff_mid (F := F) (B := B) (V := V) (q := q) (m := m) (W := W) hm hd1 (by omega) (by omega) (x_X8_findFar_46 F 68 (u + 1)) 640 F 0 A false (by omega) (by omega) hN (fun k' hk' => by omega) (fun k' _ hk' => h1 k' hk')
    have top : x_X8_findFar_46 F 68 (u + 2) (mk A B V q) 1 (nI d) = x_X8_findFar_46 F 68 (u + 1) (mk A' B V q) (cI more') (nI (d + 1)) := by
      show s_X8_findFar_46 _ _ _ _ _ _ = _
      unfold s_X8_findFar_46
      rw [if_neg (by decide)]
      rw [nI_0] at e1
      exact e1
    rw [top]
    rcases e5 with ⟨y, -⟩ | ⟨-, m1, k', y1, y2, y3⟩ | ⟨-, m0, y⟩
    · cases y
    · subst m1
      have hlt : NC A' < NC A := cnt_lt 640 0 (fun i _ _ z => by
        simp only [decide_eq_true_eq] at z ⊢
        exact e4 i z) ⟨k', by omega, by omega, by simpa using y2, by simpa using y3⟩
      obtain ⟨A2, i1, i2, i3⟩ := ih (u + 1) (d + 1) A' (by omega) (by omega) (by omega) (by omega) (netM_c hN (e2 _ (by omega)) (e2 _ (by omega))) (fun k hk => by rw [show d + 1 - 1 = d by omega]; exact e3 k hk)
      exact ⟨A2, i1, fun p hp => by rw [i2 p hp, e2 p hp], i3⟩
    · subst m0
      have no : ∀ j k, k < 640 → ¬ dst m W k (d + j) := by
        intro j
        induction j with
        | zero => intro k hk; exact y k (by omega) hk
        | succ j ihj =>
          intro k hk z
          obtain ⟨-, c, hc, z2⟩ := dst_s.mp (show dst m W k ((d + j) + 1) from z)
          exact ihj _ (TM_lt hm k c) z2
      refine ⟨A', ?_, e2, fun k hk d' hd' => ?_⟩
      · show s_X8_findFar_46 _ _ _ _ _ _ = _
        unfold s_X8_findFar_46
        rw [if_pos cI_f]
      · rcases e3 k hk with ⟨z1, z2⟩ | ⟨d2, z1, z2, z3⟩
        · constructor
          · intro w; rw [z1] at w; exact absurd w.symm (nI_n9 (by omega))
          · intro w
            rcases Nat.lt_or_ge d d' with v | v
            · exact absurd w (by have := no (d' - d) k hk; rwa [show d + (d' - d) = d' by omega] at this)
            · exact absurd w.1 (z2 d' v)
        · constructor
          · intro w
            rw [z2] at w
            rw [← (nI_eq (by omega) (by omega)).mp w]; exact z3
          · intro w
            rw [z2, dst_u z3 w]
theorem ff_init {m : Nat} (hm : m ≤ 4) (hV : V 68 5 = nI m) : ∀ (d u k : Nat) (A : tA2), k + d = 640 → d < u → (∀ i, i < k → A 82 i = if i % 16 = fll m then nI 0 else -9) → ∃ A', x_X8_findFar_6 F 68 u (mk A B V q) (nI k) = x_X8_findFar_46 F 68 F (mk A' B V q) 1 1 ∧ (∀ p, p ≠ 82 → A' p = A p) ∧ ∀ i, i < 640 → A' 82 i = if i % 16 = fll m then nI 0 else -9 := by
  have hfl := fll_lt hm
  intro d
  induction d with
  | zero =>
    intro u k A hk hu hA
    obtain ⟨u, rfl⟩ : ∃ z, u = z + 1 := ⟨u - 1, by omega⟩
    refine ⟨A, ?_, fun _ _ => rfl, fun i hi => hA i (by omega)⟩
    show s_X8_findFar_6 _ _ _ _ _ = _
    unfold s_X8_findFar_6
    rw [show k = 640 by omega, if_pos (by decide)]
  | succ d ih =>
    intro u k A hk hu hA
    obtain ⟨u, rfl⟩ : ∃ z, u = z + 1 := ⟨u - 1, by omega⟩
    have i6 : inb (nI k) 640 = true := inb_nI (by omega) (by omega)
    obtain ⟨A', e1, e2, e3⟩ := ih u (k + 1) (u2 A 82 k (if k % 16 = fll m then nI 0 else -9)) (by omega) (by omega) (fun i hi => by
      by_cases z : i = k
      · subst z; rw [u2_s]
      · rw [u2_k _ _ z]; exact hA i (by omega))
    refine ⟨A', ?_, fun p hp => by rw [e2 p hp, u2_pp _ _ hp], e3⟩
    show s_X8_findFar_6 _ _ _ _ _ = _
    unfold s_X8_findFar_6 x_X8_findFar_35
    rw [if_neg (show ¬ (640 : Int32) ≤ nI k from fun z => by have := (nI_leI (a := 640) (by omega) (by omega)).mp z; omega), r_68_20, bs, x8_allWords hm hV, bs, r16 (by omega), s_82 i6, bs, tn (by omega), s_82 i6, bs, tn (by omega), nI_1]
    by_cases z : k % 16 = fll m
    · rw [if_pos (by rw [z])]
      rw [if_pos z] at e1
      exact e1
    · rw [if_neg (nI_eq' (by omega) (by omega) z)]
      rw [if_neg z] at e1
      exact e1
theorem x8_findFar {m : Nat} {W : tW} (h : okL m W) (hV : V 68 5 = nI m) {A : tA2} (hM : repM A m W.1 W.2.1 W.2.2) (hF : 700 ≤ F) : ∃ A', x_X8_findFar F (mk A B V q) 68 = some (mk A' B V q) ∧ (∀ p, ¬ (79 ≤ p ∧ p ≤ 82) → A' p = A p) ∧ netM A' m W 40 ∧ FZ m W A' := by
  have hm := h.1
  obtain ⟨A1, a1, a2, a3⟩ := x8_findNext (B := B) (V := V) (q := q) (F := F) h hV hM (by omega)
  obtain ⟨A2, b1, b2, b3⟩ := ff_init (F := F) (B := B) (V := V) (q := q) hm hV 640 F 0 A1 (by omega) (by omega) (fun i hi => by omega)
  have hN2 := netM_c a3 (b2 80 (by omega)) (b2 81 (by omega))
  obtain ⟨A3, c1, c2, c3⟩ := ff_out (F := F) (B := B) (V := V) (q := q) (m := m) (W := W) hm hF 640 F 1 A2 (cnt_le _ _ _) (by omega) (by omega) (by omega) hN2 (fun k hk => by
    rw [b3 k hk]
    by_cases z : k % 16 = fll m
    · rw [if_pos z]; exact Or.inr ⟨0, by omega, rfl, z, fun d' hd => by omega⟩
    · rw [if_neg z]
      refine Or.inl ⟨rfl, fun d' hd w => ?_⟩
      rw [show d' = 0 by omega] at w
      exact z w)
  refine ⟨A3, ?_, fun p hp => by rw [c2 p (by omega), b2 p (by omega), a2 p (by omega)], netM_c hN2 (c2 _ (by omega)) (c2 _ (by omega)), c3⟩
  unfold x_X8_findFar
  rw [nI_0] at b1
  rw [c_68, bs, a1, bs, b1]
  exact c1
end FA
