/-! words: a reader of texts, and the row's side -/
abbrev tD : Type := Nat × (Nat → Nat) × (Nat → Nat) × (Nat → Nat → Int32)
def bgD (D : tD) : Option (Nat × tD) := if D.1 < 4 then some (2, D.1 + 1, D.2.1, va_up D.2.2.1 D.1 0, D.2.2.2) else none
def kdX (x : Int32) : Option Nat := if x = 112 then some 0 else if x = 98 then some 1 else if x = 116 then some 2 else none
def tkD (D : tD) (x : Int32) : Option (Nat × tD) := (kdX x).bind fun k => some (3, D.1, va_up D.2.1 (D.1 - 1) k, D.2.2.1, D.2.2.2)
def ltX (x : Int32) : Bool := decide (97 ≤ x.toInt ∧ x.toInt ≤ 99)
def tlD (D : tD) (x : Int32) : Option (Nat × tD) := if ltX x = true ∧ D.2.2.1 (D.1 - 1) < 4 then some (5, D.1, D.2.1, va_up D.2.2.1 (D.1 - 1) (D.2.2.1 (D.1 - 1) + 1), u2 D.2.2.2 (D.1 - 1) (D.2.2.1 (D.1 - 1)) (x - 97)) else none
def nxD (s : Nat) (D : tD) (x : Int32) : Option (Nat × tD) :=
  if s = 0 then (if x = 119 then some (1, D) else none)
  else if s = 1 then (if x = 59 then bgD D else none)
  else if s = 2 then tkD D x
  else if s = 3 then (if x = 47 then some (4, D) else none)
  else if s = 4 then tlD D x
  else if s = 5 then (if x = 59 then bgD D else tlD D x)
  else none
theorem nx0 {D : tD} {x : Int32} : nxD 0 D x = if x = 119 then some (1, D) else none := rfl
theorem nx1 {D : tD} {x : Int32} : nxD 1 D x = if x = 59 then bgD D else none := rfl
theorem nx2 {D : tD} {x : Int32} : nxD 2 D x = tkD D x := rfl
theorem nx3 {D : tD} {x : Int32} : nxD 3 D x = if x = 47 then some (4, D) else none := rfl
theorem nx4 {D : tD} {x : Int32} : nxD 4 D x = tlD D x := rfl
theorem nx5 {D : tD} {x : Int32} : nxD 5 D x = if x = 59 then bgD D else tlD D x := rfl
def prD (c : Nat → Int32) : Nat → Nat → Nat → tD → Bool × Nat × tD
  | 0, k, s, D => (decide (s = 5), k, D)
  | d + 1, k, s, D => match nxD s D (c k) with
    | none => (false, k, D)
    | some (s', D') => prD c d (k + 1) s' D'
theorem prD_s {c : Nat → Int32} {d k s s' : Nat} {D D' : tD} (h : nxD s D (c k) = some (s', D')) : prD c (d + 1) k s D = prD c d (k + 1) s' D' := by
  simp only [prD, h]
theorem prD_n {c : Nat → Int32} {d k s : Nat} {D : tD} (h : nxD s D (c k) = none) : prD c (d + 1) k s D = (false, k, D) := by
  simp only [prD, h]
def okT (s : Nat) (D : tD) : Prop := s ≤ 5 ∧ D.1 ≤ 4 ∧ (2 ≤ s → 1 ≤ D.1) ∧ (∀ j, j < D.1 → ¬ (s = 2 ∧ j = D.1 - 1) → D.2.1 j ≤ 2) ∧ (∀ j, j < D.1 → D.2.2.1 j ≤ 4) ∧ (∀ j, j < D.1 → (j < D.1 - 1 ∨ s ≤ 1 ∨ s = 5) → 1 ≤ D.2.2.1 j) ∧ (2 ≤ s → s ≤ 4 → D.2.2.1 (D.1 - 1) = 0) ∧ (∀ j, j < D.1 → ∀ i, i < D.2.2.1 j → ∃ z, z < 3 ∧ D.2.2.2 j i = nI z)
theorem ltX_ex {x : Int32} (h : ltX x = true) : ∃ z, z < 3 ∧ x - 97 = nI z ∧ x = nI (97 + z) := by
  simp only [ltX, decide_eq_true_eq] at h
  obtain ⟨z, hz, e⟩ := inb_ex (a := x) (n := 100) (inb_iff.mpr (by omega)) (by omega)
  subst e
  rw [nI_toInt (by omega)] at h
  refine ⟨z - 97, by omega, ?_, by rw [show 97 + (z - 97) = z by omega]⟩
  exact pk_sub (a := z) (b := 97) (by omega)
theorem kdX_le {x : Int32} {k : Nat} (h : kdX x = some k) : k ≤ 2 := by
  unfold kdX at h
  by_cases h1 : x = 112
  · rw [if_pos h1] at h; have := Option.some.inj h; omega
  · rw [if_neg h1] at h
    by_cases h2 : x = 98
    · rw [if_pos h2] at h; have := Option.some.inj h; omega
    · rw [if_neg h2] at h
      by_cases h3 : x = 116
      · rw [if_pos h3] at h; have := Option.some.inj h; omega
      · rw [if_neg h3] at h; cases h
theorem bgD_ok {s : Nat} {D : tD} (h : okT s D) (hs : s = 1 ∨ s = 5) {s' : Nat} {D' : tD} (e : bgD D = some (s', D')) : okT s' D' := by
  unfold bgD at e
  by_cases h4 : D.1 < 4
  · rw [if_pos h4] at e
    have e := Option.some.inj e
    obtain ⟨o1, o2, o3, o4, o5, o6, o7, o8⟩ := h
    have es : s' = 2 := by have := congrArg Prod.fst e; exact this.symm
    have eD : D' = (D.1 + 1, D.2.1, va_up D.2.2.1 D.1 0, D.2.2.2) := by have := congrArg Prod.snd e; exact this.symm
    subst es; subst eD
    refine ⟨by omega, by dsimp only; omega, by dsimp only; omega, fun j hj hn => ?_, fun j hj => ?_, fun j hj hn => ?_, fun _ _ => ?_, fun j hj i hi => ?_⟩ <;> dsimp only at *
    · exact o4 j (by omega) (by omega)
    · by_cases e : j = D.1
      · subst e; rw [up_at]; omega
      · rw [up_ne _ _ e]; exact o5 j (by omega)
    · have e : j ≠ D.1 := by omega
      rw [up_ne _ _ e]; exact o6 j (by omega) (by omega)
    · rw [show D.1 + 1 - 1 = D.1 by omega, up_at]
    · by_cases e : j = D.1
      · subst e; rw [up_at] at hi; omega
      · rw [up_ne _ _ e] at hi; exact o8 j (by omega) i hi
  · rw [if_neg h4] at e; cases e
theorem tlD_ok {s : Nat} {D : tD} (h : okT s D) (hs : s = 4 ∨ s = 5) {x : Int32} {s' : Nat} {D' : tD} (e : tlD D x = some (s', D')) : okT s' D' := by
  unfold tlD at e
  by_cases h4 : ltX x = true ∧ D.2.2.1 (D.1 - 1) < 4
  · rw [if_pos h4] at e
    have e := Option.some.inj e
    obtain ⟨o1, o2, o3, o4, o5, o6, o7, o8⟩ := h
    have es : s' = 5 := by have := congrArg Prod.fst e; exact this.symm
    have eD : D' = (D.1, D.2.1, va_up D.2.2.1 (D.1 - 1) (D.2.2.1 (D.1 - 1) + 1), u2 D.2.2.2 (D.1 - 1) (D.2.2.1 (D.1 - 1)) (x - 97)) := by have := congrArg Prod.snd e; exact this.symm
    obtain ⟨z, hz, ez, -⟩ := ltX_ex h4.1
    subst es; subst eD
    refine ⟨by omega, o2, fun _ => o3 (by omega), fun j hj hn => ?_, fun j hj => ?_, fun j hj hn => ?_, fun _ _ => ?_, fun j hj i hi => ?_⟩ <;> dsimp only at *
    · exact o4 j hj (by omega)
    · by_cases e : j = D.1 - 1
      · subst e; rw [up_at]; omega
      · rw [up_ne _ _ e]; exact o5 j hj
    · by_cases e : j = D.1 - 1
      · subst e; rw [up_at]; omega
      · rw [up_ne _ _ e]; exact o6 j hj (by omega)
    · omega
    · by_cases e : j = D.1 - 1
      · subst e
        rw [up_at] at hi
        by_cases e2 : i = D.2.2.1 (D.1 - 1)
        · subst e2; rw [u2_s]; exact ⟨z, hz, ez⟩
        · rw [u2_k _ _ e2]; exact o8 _ hj i (by omega)
      · rw [up_ne _ _ e] at hi
        rw [u2_p _ _ e]; exact o8 j hj i hi
  · rw [if_neg h4] at e; cases e
theorem tkD_ok {D : tD} (h : okT 2 D) {x : Int32} {s' : Nat} {D' : tD} (e : tkD D x = some (s', D')) : okT s' D' := by
  unfold tkD at e
  cases hk : kdX x with
  | none => rw [hk] at e; cases e
  | some k =>
    rw [hk, bs] at e
    have e := Option.some.inj e
    have k2 := kdX_le hk
    obtain ⟨o1, o2, o3, o4, o5, o6, o7, o8⟩ := h
    have es : s' = 3 := by have := congrArg Prod.fst e; exact this.symm
    have eD : D' = (D.1, va_up D.2.1 (D.1 - 1) k, D.2.2.1, D.2.2.2) := by have := congrArg Prod.snd e; exact this.symm
    subst es; subst eD
    refine ⟨by omega, o2, fun _ => o3 (by omega), fun j hj hn => ?_, fun j hj => ?_, fun j hj hn => ?_, fun _ _ => ?_, fun j hj i hi => ?_⟩ <;> dsimp only at *
    · by_cases e : j = D.1 - 1
      · subst e; rw [up_at]; omega
      · rw [up_ne _ _ e]; exact o4 j hj (by omega)
    · exact o5 j hj
    · exact o6 j hj (by omega)
    · exact o7 (by omega) (by omega)
    · exact o8 j hj i hi
theorem nxD_ok {s : Nat} {D : tD} (h : okT s D) {x : Int32} {s' : Nat} {D' : tD} (e : nxD s D x = some (s', D')) : okT s' D' := by
  unfold nxD at e
  have h0 := h
  obtain ⟨o1, o2, o3, o4, o5, o6, o7, o8⟩ := h
  rcases (show s = 0 ∨ s = 1 ∨ s = 2 ∨ s = 3 ∨ s = 4 ∨ s = 5 by omega) with rfl | rfl | rfl | rfl | rfl | rfl
  · rw [if_pos rfl] at e
    by_cases hx : x = 119
    · rw [if_pos hx] at e
      have e := Option.some.inj e
      have es : s' = 1 := by have := congrArg Prod.fst e; exact this.symm
      have eD : D' = D := by have := congrArg Prod.snd e; exact this.symm
      subst es; subst eD
      exact ⟨by omega, o2, by omega, fun j hj _ => o4 j hj (by omega), o5, fun j hj _ => o6 j hj (by omega), by omega, o8⟩
    · rw [if_neg hx] at e; cases e
  · rw [if_neg (by omega), if_pos rfl] at e
    by_cases hx : x = 59
    · rw [if_pos hx] at e; exact bgD_ok h0 (Or.inl rfl) e
    · rw [if_neg hx] at e; cases e
  · rw [if_neg (by omega), if_neg (by omega), if_pos rfl] at e; exact tkD_ok h0 e
  · rw [if_neg (by omega), if_neg (by omega), if_neg (by omega), if_pos rfl] at e
    by_cases hx : x = 47
    · rw [if_pos hx] at e
      have e := Option.some.inj e
      have es : s' = 4 := by have := congrArg Prod.fst e; exact this.symm
      have eD : D' = D := by have := congrArg Prod.snd e; exact this.symm
      subst es; subst eD
      exact ⟨by omega, o2, fun _ => o3 (by omega), fun j hj _ => o4 j hj (by omega), o5, fun j hj z => o6 j hj (by omega), fun _ _ => o7 (by omega) (by omega), o8⟩
    · rw [if_neg hx] at e; cases e
  · rw [if_neg (by omega), if_neg (by omega), if_neg (by omega), if_neg (by omega), if_pos rfl] at e; exact tlD_ok h0 (Or.inl rfl) e
  · rw [if_neg (by omega), if_neg (by omega), if_neg (by omega), if_neg (by omega), if_neg (by omega), if_pos rfl] at e
    by_cases hx : x = 59
    · rw [if_pos hx] at e; exact bgD_ok h0 (Or.inr rfl) e
    · rw [if_neg hx] at e; exact tlD_ok h0 (Or.inr rfl) e
theorem prD_ok {c : Nat → Int32} : ∀ (d k s : Nat) (D : tD), okT s D → (prD c d k s D).1 = true → okT 5 (prD c d k s D).2.2
  | 0, k, s, D, h, e => by
    simp only [prD, decide_eq_true_eq] at e ⊢
    rw [← e]; exact h
  | d + 1, k, s, D, h, e => by
    simp only [prD] at e ⊢
    cases hn : nxD s D (c k) with
    | none => rw [hn] at e; cases e
    | some r =>
      obtain ⟨s', D'⟩ := r
      rw [hn] at e
      exact prD_ok d (k + 1) s' D' (nxD_ok h hn) e
theorem prD_le {c : Nat → Int32} : ∀ (d k s : Nat) (D : tD), (prD c d k s D).2.1 ≤ k + d
  | 0, k, s, D => by simp [prD]
  | d + 1, k, s, D => by
    simp only [prD]
    cases hn : nxD s D (c k) with
    | none => dsimp only; omega
    | some r =>
      obtain ⟨s', D'⟩ := r
      have := prD_le (c := c) d (k + 1) s' D'
      dsimp only
      omega
/-! the row's side -/
def dlo (dr : Nat) : Nat := if dr = 3 then 4 else 13
def CR (dr : Nat) (A0 V0 A V : tA2) (s : Nat) (D : tD) : Prop := (∀ p, ¬ (dlo dr ≤ p ∧ p ≤ dlo dr + 7) → A p = A0 p) ∧ (∀ p, ¬ (dlo dr ≤ p ∧ p ≤ dlo dr + 7) → p ≠ 2 → V p = V0 p) ∧ V 2 1 = nI D.1 ∧ ∀ j, j < D.1 → V (wpl dr j) 1 = nI (D.2.2.1 j) ∧ (¬ (s = 2 ∧ j = D.1 - 1) → V (wpl dr j) 2 = nI (D.2.1 j)) ∧ ∀ i, i < D.2.2.1 j → A (wpl dr j + 1) i = D.2.2.2 j i
theorem wpl_d {dr j : Nat} (h : dr = 3 ∨ dr = 12) (hj : j < 4) : wpl dr j = dlo dr + 2 * j := by
  rcases h with rfl | rfl <;> simp [wpl, dlo]
theorem dlo_b {dr : Nat} : 4 ≤ dlo dr ∧ dlo dr ≤ 13 := by unfold dlo; split <;> omega
section TX
variable {B : tB2} {q : tQ} {F : Nat}
theorem x5_beginWord {A0 V0 A V : tA2} {s : Nat} {D : tD} (hq : okQ q) (h : CR q.2.1 A0 V0 A V s D) (hs : s = 1 ∨ s = 5) (h4 : D.1 ≤ 4) : (D.1 < 4 ∧ ∃ A' V', x_X5_beginWord F (mk A B V q) 2 = some (2, mk A' B V' q) ∧ CR q.2.1 A0 V0 A' V' 2 (D.1 + 1, D.2.1, va_up D.2.2.1 D.1 0, D.2.2.2)) ∨ (¬ D.1 < 4 ∧ x_X5_beginWord F (mk A B V q) 2 = some (6, mk A B V q)) := by
  have hd : q.2.1 = 3 ∨ q.2.1 = 12 := by rcases hq.1 with ⟨-, z⟩ | ⟨-, z⟩ <;> omega
  obtain ⟨c1, c2, c3, c4⟩ := h
  have db := dlo_b (dr := q.2.1)
  by_cases hlt : D.1 < 4
  · left
    have hw := wpl_isW hd hlt
    have ew := wpl_d hd hlt
    refine ⟨hlt, A, u2 (u2 V (wpl q.2.1 D.1) 1 0) 2 1 (nI (D.1 + 1)), ?_, ?_⟩
    · unfold x_X5_beginWord
      rw [c_2, bs, g_2_1, bs, c3, show (4 : Int32) = nI 4 from rfl, if_pos ((nI_ltI (by omega) (by omega)).mpr hlt), r_2_0, bs, bs, l_kn hd hlt, bs, wW1 hw, bs, g_2_1, bs, u2_p _ _ (by omega), c3, nI_1, w_2_1, bs]
    · refine ⟨c1, fun p h1 h2 => by rw [u2_pp _ _ h2, u2_pp _ _ (by omega)]; exact c2 p h1 h2, u2_s _ _ _ _, fun j hj => ?_⟩
      dsimp only at hj ⊢
      have ej := wpl_d hd (show j < 4 by omega)
      have ev : ∀ i, u2 (u2 V (wpl q.2.1 D.1) 1 0) 2 1 (nI (D.1 + 1)) (wpl q.2.1 j) i = u2 V (wpl q.2.1 D.1) 1 0 (wpl q.2.1 j) i := fun i => u2_p _ _ (by omega)
      rw [ev, ev]
      by_cases e : j = D.1
      · subst e
        refine ⟨by rw [u2_s, up_at]; rfl, fun z => absurd ⟨rfl, by omega⟩ z, fun i hi => ?_⟩
        rw [up_at] at hi; omega
      · obtain ⟨d1, d2, d3⟩ := c4 j (by omega)
        rw [up_ne _ _ e, u2_p _ _ (by omega), u2_p _ _ (by omega)]
        exact ⟨d1, fun _ => d2 (by omega), d3⟩
  · right
    refine ⟨hlt, ?_⟩
    unfold x_X5_beginWord
    rw [c_2, bs, g_2_1, bs, c3, show (4 : Int32) = nI 4 from rfl, if_neg (fun z => hlt ((nI_ltI (by omega) (by omega)).mp z))]
theorem x5_takeKind {A0 V0 A V : tA2} {D : tD} (hq : okQ q) (h : CR q.2.1 A0 V0 A V 2 D) (h4 : D.1 ≤ 4) (h1 : 1 ≤ D.1) {x : Int32} : (∃ k A' V', kdX x = some k ∧ x_X5_takeKind F (mk A B V q) 2 x = some (3, mk A' B V' q) ∧ CR q.2.1 A0 V0 A' V' 3 (D.1, va_up D.2.1 (D.1 - 1) k, D.2.2.1, D.2.2.2)) ∨ (kdX x = none ∧ x_X5_takeKind F (mk A B V q) 2 x = some (6, mk A B V q)) := by
  have hd : q.2.1 = 3 ∨ q.2.1 = 12 := by rcases hq.1 with ⟨-, z⟩ | ⟨-, z⟩ <;> omega
  obtain ⟨c1, c2, c3, c4⟩ := h
  have db := dlo_b (dr := q.2.1)
  have hw := wpl_isW hd (show D.1 - 1 < 4 by omega)
  have ew := wpl_d hd (show D.1 - 1 < 4 by omega)
  have go : ∀ k, k ≤ 2 → x_X5_takeKind_32 F (mk A B V q) 2 (nI k) = some (3, mk A B (u2 V (wpl q.2.1 (D.1 - 1)) 2 (nI k)) q) := fun k hk => by
    unfold x_X5_takeKind_32
    rw [if_neg (la_ne (by omega)), g_2_1, bs, c3, if_pos (show (1 : Int32) ≤ nI D.1 from (nI_leI (a := 1) (by omega) (by omega)).mpr h1), r_2_0, bs, bs, nI_sub1 h1, l_kn hd (by omega), bs, wW2 hw, bs]
  have cr : ∀ k, CR q.2.1 A0 V0 A (u2 V (wpl q.2.1 (D.1 - 1)) 2 (nI k)) 3 (D.1, va_up D.2.1 (D.1 - 1) k, D.2.2.1, D.2.2.2) := fun k => by
    refine ⟨c1, fun p h1 h2 => by rw [u2_pp _ _ (by omega)]; exact c2 p h1 h2, by rw [u2_p _ _ (by omega)]; exact c3, fun j hj => ?_⟩
    dsimp only at hj ⊢
    have ej := wpl_d hd (show j < 4 by omega)
    obtain ⟨d1, d2, d3⟩ := c4 j hj
    refine ⟨by rw [u2_k _ _ (by omega)]; exact d1, fun _ => ?_, d3⟩
    by_cases e : j = D.1 - 1
    · subst e; rw [u2_s, up_at]
    · rw [up_ne _ _ e, u2_p _ _ (by omega)]; exact d2 (by omega)
  unfold x_X5_takeKind kdX
  simp only [c_2, bs]
  by_cases h1' : x = 112
  · left; refine ⟨0, A, _, ?_, ?_, cr 0⟩
    · rw [if_pos h1']
    · rw [if_pos h1']; exact go 0 (by omega)
  · by_cases h2 : x = 98
    · left; refine ⟨1, A, _, ?_, ?_, cr 1⟩
      · rw [if_neg h1', if_pos h2]
      · rw [if_neg h1', if_pos h2]; exact go 1 (by omega)
    · by_cases h3 : x = 116
      · left; refine ⟨2, A, _, ?_, ?_, cr 2⟩
        · rw [if_neg h1', if_neg h2, if_pos h3]
        · rw [if_neg h1', if_neg h2, if_pos h3]; exact go 2 (by omega)
      · right
        refine ⟨by rw [if_neg h1', if_neg h2, if_neg h3], ?_⟩
        rw [if_neg h1', if_neg h2, if_neg h3]
        unfold x_X5_takeKind_32
        rw [if_pos rfl]
theorem x5_takeLetter {A0 V0 A V : tA2} {s : Nat} {D : tD} (hq : okQ q) (h : CR q.2.1 A0 V0 A V s D) (hs : s = 4 ∨ s = 5) (h4 : D.1 ≤ 4) (h1 : 1 ≤ D.1) (hl : D.2.2.1 (D.1 - 1) ≤ 4) {x : Int32} : ((ltX x = true ∧ D.2.2.1 (D.1 - 1) < 4) ∧ ∃ A' V', x_X5_takeLetter F (mk A B V q) 2 x = some (5, mk A' B V' q) ∧ CR q.2.1 A0 V0 A' V' 5 (D.1, D.2.1, va_up D.2.2.1 (D.1 - 1) (D.2.2.1 (D.1 - 1) + 1), u2 D.2.2.2 (D.1 - 1) (D.2.2.1 (D.1 - 1)) (x - 97))) ∨ (¬ (ltX x = true ∧ D.2.2.1 (D.1 - 1) < 4) ∧ x_X5_takeLetter F (mk A B V q) 2 x = some (6, mk A B V q)) := by
  have hd : q.2.1 = 3 ∨ q.2.1 = 12 := by rcases hq.1 with ⟨-, z⟩ | ⟨-, z⟩ <;> omega
  obtain ⟨c1, c2, c3, c4⟩ := h
  have db := dlo_b (dr := q.2.1)
  have hw := wpl_isW hd (show D.1 - 1 < 4 by omega)
  have ew := wpl_d hd (show D.1 - 1 < 4 by omega)
  obtain ⟨d1, d2, d3⟩ := c4 (D.1 - 1) (by omega)
  have t97 : (97 : Int32).toInt = 97 := rfl
  have t99 : (99 : Int32).toInt = 99 := rfl
  have g1 : (1 : Int32) ≤ nI D.1 := (nI_leI (a := 1) (by omega) (by omega)).mpr h1
  by_cases hx : ltX x = true
  · obtain ⟨z, hz, e1, e2⟩ := ltX_ex hx
    have f1 : ¬ x < 97 := by simp only [ltX, decide_eq_true_eq] at hx; rw [Int32.lt_iff_toInt_lt, t97]; omega
    have f2 : ¬ 99 < x := by simp only [ltX, decide_eq_true_eq] at hx; rw [Int32.lt_iff_toInt_lt, t99]; omega
    by_cases hlt : D.2.2.1 (D.1 - 1) < 4
    · left
      refine ⟨⟨hx, hlt⟩, u2 A (wpl q.2.1 (D.1 - 1) + 1) (D.2.2.1 (D.1 - 1)) (x - 97), u2 V (wpl q.2.1 (D.1 - 1)) 1 (nI (D.2.2.1 (D.1 - 1) + 1)), ?_, ?_⟩
      · unfold x_X5_takeLetter
        rw [c_2, bs, if_neg f1, if_neg f2, g_2_1, bs, c3, if_pos g1, r_2_0, bs, bs, nI_sub1 h1, l_kn hd (by omega), bs, gW1 hw, bs, d1, show (4 : Int32) = nI 4 from rfl, if_pos ((nI_ltI (by omega) (by omega)).mpr hlt), rW hw, bs, bs, sW hw (inb_nI (by omega) (by omega)), bs, gW1 hw, bs, d1, nI_1, wW1 hw, bs, tn (by omega)]
      · refine ⟨fun p h1 => by rw [u2_pp _ _ (by omega)]; exact c1 p h1, fun p h1 h2 => by rw [u2_pp _ _ (by omega)]; exact c2 p h1 h2, by rw [u2_p _ _ (by omega)]; exact c3, fun j hj => ?_⟩
        dsimp only at hj ⊢
        have ej := wpl_d hd (show j < 4 by omega)
        obtain ⟨b1, b2, b3⟩ := c4 j hj
        by_cases e : j = D.1 - 1
        · subst e
          refine ⟨by rw [u2_s, up_at], fun _ => by rw [u2_k _ _ (by omega)]; exact b2 (by omega), fun i hi => ?_⟩
          rw [up_at] at hi
          by_cases ei : i = D.2.2.1 (D.1 - 1)
          · subst ei; rw [u2_s, u2_s]
          · rw [u2_k _ _ ei, u2_k _ _ ei]; exact b3 i (by omega)
        · rw [up_ne _ _ e, u2_p _ _ (by omega), u2_p _ _ (by omega)]
          refine ⟨b1, fun _ => b2 (by omega), fun i hi => ?_⟩
          rw [u2_p _ _ (by omega), u2_p _ _ e]; exact b3 i hi
    · right
      refine ⟨fun z => hlt z.2, ?_⟩
      unfold x_X5_takeLetter
      rw [c_2, bs, if_neg f1, if_neg f2, g_2_1, bs, c3, if_pos g1, r_2_0, bs, bs, nI_sub1 h1, l_kn hd (by omega), bs, gW1 hw, bs, d1, show (4 : Int32) = nI 4 from rfl, if_neg (fun z => hlt ((nI_ltI (by omega) (by omega)).mp z))]
  · right
    refine ⟨fun z => hx z.1, ?_⟩
    unfold x_X5_takeLetter
    rw [c_2, bs]
    by_cases f1 : x < 97
    · rw [if_pos f1]
    · rw [if_neg f1, if_pos]
      rw [Int32.lt_iff_toInt_lt, t97] at f1
      rw [Int32.lt_iff_toInt_lt, t99]
      simp only [ltX, decide_eq_true_eq] at hx
      omega
theorem x5_stateAfter {A0 V0 A V : tA2} {s : Nat} {D : tD} (hq : okQ q) (h : CR q.2.1 A0 V0 A V s D) (hD : okT s D) {x : Int32} : (∃ s' D' A' V', nxD s D x = some (s', D') ∧ x_X5_stateAfter F (mk A B V q) 2 (nI s) x = some (nI s', mk A' B V' q) ∧ CR q.2.1 A0 V0 A' V' s' D') ∨ (nxD s D x = none ∧ x_X5_stateAfter F (mk A B V q) 2 (nI s) x = some (6, mk A B V q)) := by
  have hD0 := hD
  obtain ⟨o1, o2, o3, o4, o5, o6, o7, o8⟩ := hD
  have cr : ∀ s', s' ≠ 2 → s ≠ 2 → CR q.2.1 A0 V0 A V s' D := fun s' hs h2 => by
    obtain ⟨c1, c2, c3, c4⟩ := h
    exact ⟨c1, c2, c3, fun j hj => ⟨(c4 j hj).1, fun _ => (c4 j hj).2.1 (by omega), (c4 j hj).2.2⟩⟩
  unfold x_X5_stateAfter
  simp only [c_2, bs]
  rcases (show s = 0 ∨ s = 1 ∨ s = 2 ∨ s = 3 ∨ s = 4 ∨ s = 5 by omega) with rfl | rfl | rfl | rfl | rfl | rfl
  · rw [if_pos (show nI 0 = 0 by decide), nx0]
    by_cases hx : x = 119
    · rw [if_pos hx, if_pos hx]
      exact Or.inl ⟨1, D, A, V, rfl, rfl, cr 1 (by omega) (by omega)⟩
    · rw [if_neg hx, if_neg hx]
      exact Or.inr ⟨rfl, rfl⟩
  · rw [if_neg (show ¬ nI 1 = 0 by decide), if_pos (show nI 1 = 1 by decide), nx1]
    by_cases hx : x = 59
    · rw [if_pos hx, if_pos hx]
      unfold bgD
      rcases x5_beginWord (B := B) (F := F) hq h (Or.inl rfl) o2 with ⟨z1, A', V', z2, z3⟩ | ⟨z1, z2⟩
      · rw [if_pos z1, z2, bs]; exact Or.inl ⟨2, _, A', V', rfl, rfl, z3⟩
      · rw [if_neg z1, z2, bs]; exact Or.inr ⟨rfl, rfl⟩
    · rw [if_neg hx, if_neg hx]
      exact Or.inr ⟨rfl, rfl⟩
  · rw [if_neg (show ¬ nI 2 = 0 by decide), if_neg (show ¬ nI 2 = 1 by decide), if_pos (show nI 2 = 2 by decide), nx2]
    unfold tkD
    rcases x5_takeKind (B := B) (F := F) (x := x) hq h o2 (o3 (by omega)) with ⟨k, A', V', z1, z2, z3⟩ | ⟨z1, z2⟩
    · rw [z1, z2, bs, bs]; exact Or.inl ⟨3, _, A', V', rfl, rfl, z3⟩
    · rw [z1, z2, bs]; exact Or.inr ⟨rfl, rfl⟩
  · rw [if_neg (show ¬ nI 3 = 0 by decide), if_neg (show ¬ nI 3 = 1 by decide), if_neg (show ¬ nI 3 = 2 by decide), if_pos (show nI 3 = 3 by decide), nx3]
    by_cases hx : x = 47
    · rw [if_pos hx, if_pos hx]
      exact Or.inl ⟨4, D, A, V, rfl, rfl, cr 4 (by omega) (by omega)⟩
    · rw [if_neg hx, if_neg hx]
      exact Or.inr ⟨rfl, rfl⟩
  · rw [if_neg (show ¬ nI 4 = 0 by decide), if_neg (show ¬ nI 4 = 1 by decide), if_neg (show ¬ nI 4 = 2 by decide), if_neg (show ¬ nI 4 = 3 by decide), if_pos (show nI 4 = 4 by decide), nx4]
    unfold tlD
    rcases x5_takeLetter (B := B) (F := F) (x := x) hq h (Or.inl rfl) o2 (o3 (by omega)) (o5 _ (by have := o3 (by omega); omega)) with ⟨z1, A', V', z2, z3⟩ | ⟨z1, z2⟩
    · rw [if_pos z1, z2, bs]; exact Or.inl ⟨5, _, A', V', rfl, rfl, z3⟩
    · rw [if_neg z1, z2, bs]; exact Or.inr ⟨rfl, rfl⟩
  · rw [if_neg (show ¬ nI 5 = 0 by decide), if_neg (show ¬ nI 5 = 1 by decide), if_neg (show ¬ nI 5 = 2 by decide), if_neg (show ¬ nI 5 = 3 by decide), if_neg (show ¬ nI 5 = 4 by decide), if_pos (show nI 5 = 5 by decide), nx5]
    by_cases hx : x = 59
    · rw [if_pos hx, if_pos hx]
      unfold bgD
      rcases x5_beginWord (B := B) (F := F) hq h (Or.inr rfl) o2 with ⟨z1, A', V', z2, z3⟩ | ⟨z1, z2⟩
      · rw [if_pos z1, z2, bs]; exact Or.inl ⟨2, _, A', V', rfl, rfl, z3⟩
      · rw [if_neg z1, z2, bs]; exact Or.inr ⟨rfl, rfl⟩
    · rw [if_neg hx, if_neg hx]
      unfold tlD
      rcases x5_takeLetter (B := B) (F := F) (x := x) hq h (Or.inr rfl) o2 (o3 (by omega)) (o5 _ (by have := o3 (by omega); omega)) with ⟨z1, A', V', z2, z3⟩ | ⟨z1, z2⟩
      · rw [if_pos z1, z2, bs]; exact Or.inl ⟨5, _, A', V', rfl, rfl, z3⟩
      · rw [if_neg z1, z2, bs]; exact Or.inr ⟨rfl, rfl⟩
theorem x5_ff_loop {A0 V0 : tA2} {k0 a n : Nat} (hq : okQ q) (hk0 : k0 < 4) (han : a + n ≤ 60) : ∀ (d u k s : Nat) (D : tD) (A V : tA2), k + d = n → d < u → CR q.2.1 A0 V0 A V s D → okT s D → ∃ A' V', x_X5_firstFault_22 F 2 (44 + 2 * k0) (nI a) (nI n) u (mk A B V q) (nI s) (nI k) = some (if (prD (fun i => A0 (45 + 2 * k0) (a + i)) d k s D).1 = true then -9 else nI (prD (fun i => A0 (45 + 2 * k0) (a + i)) d k s D).2.1, mk A' B V' q) ∧ ∃ s', CR q.2.1 A0 V0 A' V' s' (prD (fun i => A0 (45 + 2 * k0) (a + i)) d k s D).2.2 ∧ ((prD (fun i => A0 (45 + 2 * k0) (a + i)) d k s D).1 = true → s' = 5) := by
  have hs := isS_k hk0
  have e45 : 44 + 2 * k0 + 1 = 45 + 2 * k0 := by omega
  have db := dlo_b (dr := q.2.1)
  intro d
  induction d with
  | zero =>
    intro u k s D A V hk hu hC hD
    obtain ⟨u, rfl⟩ : ∃ z, u = z + 1 := ⟨u - 1, by omega⟩
    have s5 := hD.1
    refine ⟨A, V, ?_, s, hC, fun z => by simpa [prD] using z⟩
    show s_X5_firstFault_22 _ _ _ _ _ _ _ _ _ = _
    unfold s_X5_firstFault_22
    rw [if_pos ((nI_leI (by omega) (by omega)).mpr (by omega))]
    simp only [prD, decide_eq_true_eq]
    by_cases e : s = 5
    · rw [if_pos (by rw [e]; rfl), if_pos e]
    · rw [if_neg (show ¬ nI s = 5 from nI_eq' (b := 5) (by omega) (by omega) e), if_neg e, show k = n by omega]
  | succ d ih =>
    intro u k s D A V hk hu hC hD
    obtain ⟨u, rfl⟩ : ∃ z, u = z + 1 := ⟨u - 1, by omega⟩
    have ec : A (45 + 2 * k0) (a + k) = A0 (45 + 2 * k0) (a + k) := by rw [hC.1 (45 + 2 * k0) (by omega)]
    have top : x_X5_firstFault_22 F 2 (44 + 2 * k0) (nI a) (nI n) (u + 1) (mk A B V q) (nI s) (nI k) = (x_X5_stateAfter F (mk A B V q) 2 (nI s) (A0 (45 + 2 * k0) (a + k))).bind fun v3 => if v3.1 = 6 then some (nI k, v3.2) else x_X5_firstFault_22 F 2 (44 + 2 * k0) (nI a) (nI n) u v3.2 v3.1 (nI (k + 1)) := by
      show s_X5_firstFault_22 _ _ _ _ _ _ _ _ _ = _
      unfold s_X5_firstFault_22
      rw [if_neg (fun z => by have := (nI_leI (by omega) (by omega)).mp z; omega), rS hs, bs, nI_add, lS hs (inb_nI (by omega) (by omega)), bs, tn (by omega), e45, ec, nI_1]
    rw [top]
    rcases x5_stateAfter (B := B) (F := F) (x := A0 (45 + 2 * k0) (a + k)) hq hC hD with ⟨s', D', A', V', z1, z2, z3⟩ | ⟨z1, z2⟩
    · rw [prD_s (c := fun i => A0 (45 + 2 * k0) (a + i)) z1, z2, bs]
      have hD' := nxD_ok hD z1
      have s5 := hD'.1
      obtain ⟨A2, V2, y1, y2⟩ := ih u (k + 1) s' D' A' V' (by omega) (by omega) z3 hD'
      refine ⟨A2, V2, ?_, y2⟩
      dsimp only
      rw [if_neg (show ¬ nI s' = 6 from nI_eq' (b := 6) (by omega) (by omega) (by omega))]
      exact y1
    · rw [prD_n (c := fun i => A0 (45 + 2 * k0) (a + i)) z1, z2, bs]
      refine ⟨A, V, ?_, s, hC, fun z => by simp at z⟩
      dsimp only
      rw [if_pos rfl]
      rfl
end TX
