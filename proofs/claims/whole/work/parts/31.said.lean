/-! steps: say, many, ofWord, over -/
theorem hFb_congr {k n : Nat} {f : Nat → Int32} {form : Nat} {g g' : Nat → Int32} {b : Nat} (h : ∀ i, i < n → g (b + i) = g' (b + i)) : hFb k n f form g b = hFb k n f form g' b := by
  rw [Bool.eq_iff_iff, hFb_iff, hFb_iff]
  constructor
  · intro z i hi; rw [← h i hi]; exact z i hi
  · intro z i hi; rw [h i hi]; exact z i hi
theorem hWb_congr {k n : Nat} {f g g' : Nat → Int32} {e : Nat} (h : ∀ i, i < e → g i = g' i) : hWb k n f g e = hWb k n f g' e := by
  unfold hWb
  by_cases hle : n ≤ e
  · rw [hFb_congr (g' := g') (fun i hi => h _ (by omega)), hFb_congr (form := 1) (g' := g') (fun i hi => h _ (by omega))]
  · simp [hle]
section SD
variable {B : tB2} {q : tQ} {F : Nat}
theorem cpy_succ {f g : Nat → Int32} {s t c : Nat} : va_up (va_cpy f g s t c) (t + c) (f (s + c)) = va_cpy f g s t (c + 1) := by
  funext x
  unfold va_cpy va_up
  by_cases z : x = t + c
  · rw [if_pos z, if_pos (by omega), z]
    congr 1
    omega
  · rw [if_neg z]
    dsimp only
    by_cases z2 : t ≤ x ∧ x < t + c
    · rw [if_pos z2, if_pos (by omega)]
    · rw [if_neg z2, if_neg (by omega)]
theorem las_loop {A V : tA2} {n : Nat} (hn : n ≤ 60) (hV : V 68 6 = nI n) : ∀ (d u c : Nat), c + d = n → d < u → x_X8_lookAtSaid_10 F 68 u (mk (va_up A 79 (va_cpy (A 75) (A 79) 0 0 c)) B V q) (nI c) = some (mk (va_up A 79 (va_cpy (A 75) (A 79) 0 0 n)) B V q) := by
  intro d
  induction d with
  | zero =>
    intro u c hc hu
    obtain ⟨u, rfl⟩ : ∃ z, u = z + 1 := ⟨u - 1, by omega⟩
    show s_X8_lookAtSaid_10 _ _ _ _ _ = _
    unfold s_X8_lookAtSaid_10
    rw [g_68_6, bs, hV, if_pos ((nI_leI (by omega) (by omega)).mpr (by omega)), show c = n by omega]
  | succ d ih =>
    intro u c hc hu
    obtain ⟨u, rfl⟩ : ∃ z, u = z + 1 := ⟨u - 1, by omega⟩
    show s_X8_lookAtSaid_10 _ _ _ _ _ = _
    unfold s_X8_lookAtSaid_10
    rw [g_68_6, bs, hV, if_neg (fun z => by have := (nI_leI (by omega) (by omega)).mp z; omega), r_68_16, bs, r_68_10, bs, l_75 (inb_nI (by omega) (by omega)), bs, s_79 (inb_nI (by omega) (by omega)), bs, tn (by omega), nI_1, up_ne _ _ (show 75 ≠ 79 by omega)]
    have e : u2 (va_up A 79 (va_cpy (A 75) (A 79) 0 0 c)) 79 c (A 75 c) = va_up A 79 (va_cpy (A 75) (A 79) 0 0 (c + 1)) := by
      unfold u2
      rw [up_up, up_at]
      have := cpy_succ (f := A 75) (g := A 79) (s := 0) (t := 0) (c := c)
      rw [Nat.zero_add] at this
      rw [this]
    rw [e]
    exact ih u (c + 1) (by omega) (by omega)
theorem x8_lookAtSaid {A V : tA2} {n : Nat} (hn : n ≤ 60) (hV : V 68 6 = nI n) (hF : 70 ≤ F) : x_X8_lookAtSaid F (mk A B V q) 68 = some (mk (va_up A 79 (va_cpy (A 75) (A 79) 0 0 n)) B (u2 V 68 17 (nI n)) q) := by
  unfold x_X8_lookAtSaid
  rw [c_68, bs, g_68_6, bs, w_68_17, bs, hV]
  have := las_loop (A := A) (B := B) (q := q) (F := F) (V := u2 V 68 17 (nI n)) hn (by rw [u2_k _ _ (by omega)]; exact hV) n F 0 (by omega) (by omega)
  rw [cpy_0, up_same, nI_0] at this
  exact this
theorem lac_loop {A V : tA2} {f n : Nat} (hn : n ≤ 60) (hf : f + n ≤ 240) : ∀ (d u c : Nat), c + d = n → d < u → x_X8_lookAtCells_7 F 68 (nI f) (nI n) u (mk (va_up A 79 (va_cpy (A 71) (A 79) f 0 c)) B V q) (nI c) = some (mk (va_up A 79 (va_cpy (A 71) (A 79) f 0 n)) B V q) := by
  intro d
  induction d with
  | zero =>
    intro u c hc hu
    obtain ⟨u, rfl⟩ : ∃ z, u = z + 1 := ⟨u - 1, by omega⟩
    show s_X8_lookAtCells_7 _ _ _ _ _ _ _ = _
    unfold s_X8_lookAtCells_7
    rw [if_pos ((nI_leI (by omega) (by omega)).mpr (by omega)), show c = n by omega]
  | succ d ih =>
    intro u c hc hu
    obtain ⟨u, rfl⟩ : ∃ z, u = z + 1 := ⟨u - 1, by omega⟩
    show s_X8_lookAtCells_7 _ _ _ _ _ _ _ = _
    unfold s_X8_lookAtCells_7
    rw [if_neg (fun z => by have := (nI_leI (by omega) (by omega)).mp z; omega), r_68_16, bs, r_68_4, bs, nI_add, l_71 (inb_nI (by omega) (by omega)), bs, s_79 (inb_nI (by omega) (by omega)), bs, tn (by omega), tn (by omega), nI_1, up_ne _ _ (show 71 ≠ 79 by omega)]
    have e : u2 (va_up A 79 (va_cpy (A 71) (A 79) f 0 c)) 79 c (A 71 (f + c)) = va_up A 79 (va_cpy (A 71) (A 79) f 0 (c + 1)) := by
      unfold u2
      rw [up_up, up_at]
      have := cpy_succ (f := A 71) (g := A 79) (s := f) (t := 0) (c := c)
      rw [Nat.zero_add] at this
      rw [this]
    rw [e]
    exact ih u (c + 1) (by omega) (by omega)
theorem x8_lookAtCells {A V : tA2} {f n : Nat} (hn : n ≤ 60) (hf : f + n ≤ 240) (hF : 70 ≤ F) : x_X8_lookAtCells F (mk A B V q) 68 (nI f) (nI n) = some (mk (va_up A 79 (va_cpy (A 71) (A 79) f 0 n)) B (u2 V 68 17 (nI n)) q) := by
  unfold x_X8_lookAtCells
  rw [c_68, bs, w_68_17, bs]
  have := lac_loop (A := A) (B := B) (q := q) (F := F) (V := u2 V 68 17 (nI n)) hn hf n F 0 (by omega) (by omega)
  rw [cpy_0, up_same, nI_0] at this
  exact this
theorem repM_c {A A' : tA2} {m : Nat} {kd ln : Nat → Nat} {lt : Nat → Nat → Int32} (h : repM A m kd ln lt) (h2 : A' 72 = A 72) (h3 : A' 73 = A 73) (h4 : A' 74 = A 74) : repM A' m kd ln lt := fun w hw => by rw [h2, h3, h4]; exact h w hw
theorem repX_c {A A' V V' : tA2} {q : tQ} (hq : okQ q) {m : Nat} (hm : m ≤ 4) {kd ln : Nat → Nat} {lt : Nat → Nat → Int32} (h : repX A V q.1 m kd ln lt) (h1 : ∀ p, 3 ≤ p → p ≤ 20 → A' p = A p ∧ V' p = V p) : repX A' V' q.1 m kd ln lt := by
  intro w hw
  obtain ⟨b1, b2, b3, b4, b5, b6, b7⟩ := h w hw
  have hb := wpl_b hq (show w < 4 by omega)
  refine ⟨b1, ?_, ?_, b4, b5, b6, fun j hj => ?_⟩
  · rw [(h1 _ (by omega) (by omega)).2]; exact b2
  · rw [(h1 _ (by omega) (by omega)).2]; exact b3
  · rw [(h1 _ (by omega) (by omega)).1]; exact b7 j hj
theorem x8_st_loop {A V : tA2} {m : Nat} {kd ln : Nat → Nat} {lt : Nat → Nat → Int32} (hm : m ≤ 4) (h : repM A m kd ln lt) (hV : V 68 5 = nI m) {t : Nat} (ht : t ≤ 60) (hV2 : V 68 17 = nI t) (hF : 70 ≤ F) : ∀ (d u w acc : Nat), w + d = m → d < u → x_X8_standing_4 F (mk A B V q) 68 u (nI acc) (nI w) = some (nI (orF (fun w => if decide (0 < cnt (hWb (kd w) (ln w) (lt w) (A 79)) 1 t) = true then 2 ^ w else 0) w d acc)) := by
  intro d
  induction d with
  | zero =>
    intro u w acc hw hu
    obtain ⟨u, rfl⟩ : ∃ z, u = z + 1 := ⟨u - 1, by omega⟩
    show s_X8_standing_4 _ _ _ _ _ _ = _
    unfold s_X8_standing_4
    rw [g_68_5, bs, hV, if_pos ((nI_leI (by omega) (by omega)).mpr (by omega))]
    rfl
  | succ d ih =>
    intro u w acc hw hu
    obtain ⟨u, rfl⟩ : ∃ z, u = z + 1 := ⟨u - 1, by omega⟩
    show s_X8_standing_4 _ _ _ _ _ _ = _
    unfold s_X8_standing_4 x_X8_standing_28
    have hc := cnt_le (hWb (kd w) (ln w) (lt w) (A 79)) t 1
    rw [g_68_5, bs, hV, if_neg (fun z => by have := (nI_leI (by omega) (by omega)).mp z; omega), x8_timesHeard hm h (by omega) ht hV2 hF, bs, nI_1]
    by_cases hb : 0 < cnt (hWb (kd w) (ln w) (lt w) (A 79)) 1 t
    · rw [if_neg (fun z => by have := (nI_leI (b := 0) (by omega) (by omega)).mp z; omega), sh4 w (by omega), nIor, ih u (w + 1) _ (by omega) (by omega)]
      simp [orF, hb]
    · rw [show cnt (hWb (kd w) (ln w) (lt w) (A 79)) 1 t = 0 by omega, if_pos (show nI 0 ≤ 0 by decide), e0, nIor, ih u (w + 1) _ (by omega) (by omega)]
      simp [orF, hb]
theorem x8_standing {A V : tA2} {m : Nat} {kd ln : Nat → Nat} {lt : Nat → Nat → Int32} (hm : m ≤ 4) (h : repM A m kd ln lt) (hV : V 68 5 = nI m) {t : Nat} (ht : t ≤ 60) (hV2 : V 68 17 = nI t) (hF : 70 ≤ F) : x_X8_standing F (mk A B V q) 68 = some (nI (bitS (fun w => decide (0 < cnt (hWb (kd w) (ln w) (lt w) (A 79)) 1 t)) m)) := by
  unfold x_X8_standing
  rw [c_68, bs]
  exact x8_st_loop hm h hV ht hV2 hF m F 0 0 (by omega) (by omega)
theorem x7_st_loop {A V : tA2} {m : Nat} {kd ln : Nat → Nat} {lt : Nat → Nat → Int32} (hq : okQ q) (hm : m ≤ 4) (h : repX A V q.1 m kd ln lt) (hV : V 0 3 = nI m) {r N t : Nat} (hr : shp r = (10, N)) (hN : N < 2 ^ 20) (ht : t ≤ N) (hF : 7 ≤ F) : ∀ (d u e acc : Nat), e + d = t + 1 → d < u → x_X7_standIn_5 F (mk A B V q) 0 r (nI t) u (nI acc) (nI e) = some (nI (orF (fun e => bitS (fun w => hWb (kd w) (ln w) (lt w) (A r) e) m) e d acc)) := by
  intro d
  induction d with
  | zero =>
    intro u e acc he hu
    obtain ⟨u, rfl⟩ : ∃ z, u = z + 1 := ⟨u - 1, by omega⟩
    show s_X7_standIn_5 _ _ _ _ _ _ _ _ = _
    unfold s_X7_standIn_5
    rw [if_pos ((nI_ltI (by omega) (by omega)).mpr (by omega))]
    rfl
  | succ d ih =>
    intro u e acc he hu
    obtain ⟨u, rfl⟩ : ∃ z, u = z + 1 := ⟨u - 1, by omega⟩
    show s_X7_standIn_5 _ _ _ _ _ _ _ _ = _
    unfold s_X7_standIn_5
    rw [if_neg (fun z => by have := (nI_ltI (by omega) (by omega)).mp z; omega), r_0_2, bs, g_0_3, bs, hV, x7_heardBy (okQ_kn hq) hm h hr hN (by omega) (by omega), bs, nIor, nI_1, ih u (e + 1) _ (by omega) (by omega)]
    rfl
theorem st_same {m t : Nat} {p : Nat → Nat → Bool} : orF (fun e => bitS (fun w => p w e) m) 1 t 0 = bitS (fun w => decide (0 < cnt (p w) 1 t)) m := by
  apply Nat.eq_of_testBit_eq
  intro i
  rw [orF_bit, bitS_bit]
  simp only [Nat.zero_testBit, Bool.false_or]
  by_cases hi : i < m
  · rw [anyF_congr (p' := p i) t 1 (fun e _ _ => by rw [bitS_bit]; simp [hi])]
    rw [Bool.eq_iff_iff]
    simp only [hi, decide_true, Bool.true_and, decide_eq_true_eq, cnt_pos]
  · rw [anyF_congr (p' := fun _ => false) t 1 (fun e _ _ => by rw [bitS_bit]; simp [hi])]
    rw [Bool.eq_iff_iff, anyF_iff]
    simp [hi]
theorem x7_standIn {A V : tA2} {m : Nat} {kd ln : Nat → Nat} {lt : Nat → Nat → Int32} (hq : okQ q) (hm : m ≤ 4) (h : repX A V q.1 m kd ln lt) (hV : V 0 3 = nI m) {r N t : Nat} (hr : shp r = (10, N)) (hN : N < 2 ^ 20) (ht : t ≤ N) (hF : N + 7 ≤ F) : x_X7_standIn F (mk A B V q) 0 r (nI t) = some (nI (bitS (fun w => decide (0 < cnt (hWb (kd w) (ln w) (lt w) (A r)) 1 t)) m)) := by
  unfold x_X7_standIn
  rw [c_0, bs]
  have := x7_st_loop (B := B) hq hm h hV hr hN ht (by omega : 7 ≤ F) t F 1 0 (by omega) (by omega)
  rw [nI_0, ← e1] at this
  rw [this, st_same]
end SD
section ST6
variable {NO : tNO} {SS : (Nat → Int32) → Prop} {F : Nat}
/-- looking at what was said: rows alike -/
theorem look_said {A : tA2} {n : Nat} (h : ∀ i, i < n → A 75 i = A 21 i) : ∀ i, i < n → va_up A 79 (va_cpy (A 75) (A 79) 0 0 n) 79 i = A 21 i := by
  intro i hi
  rw [up_at]
  unfold va_cpy
  rw [if_pos (by omega), Nat.sub_zero, Nat.zero_add]
  exact h i hi
theorem inv_look (hNO : NOf NO) {A : tA2} {B : tB2} {V : tA2} {q : tQ} {m : Nat} {kd ln : Nat → Nat} {lt : Nat → Nat → Int32} (hI : InvW NO SS A B V q m kd ln lt) (g : Nat → Int32) (x : Int32) : InvW NO SS (va_up A 79 g) B (u2 V 68 17 x) q m kd ln lt :=
  inv_scr hNO hI (fun p hp => up_ne _ _ (fun z => hp (by unfold scrA; omega))) (fun _ _ _ => rfl) (fun p k hp => u2_ne (fun z => hp (by unfold scrV; omega)))
theorem step_many (hNO : NOf NO) (hF : 80 ≤ F) : st_many (InvH NO SS) F := by
  intro h a1 hI
  obtain ⟨A, B, V, q, m, kd, ln, lt, rfl, hI⟩ := hI
  have hI0 := hI
  obtain ⟨hq, hW, hS, hZ, hR, hT, hSS, hN⟩ := hI
  obtain ⟨hm, v1, v2, hX, hM, hL⟩ := id hW
  obtain ⟨n, hn, z1, z2, z3⟩ := id hZ
  obtain ⟨rn, hrn, y1, y2, y3⟩ := id hR
  unfold x_X7_many x_X8_many
  simp only [c_0, c_68, bs]
  by_cases h0 : a1 = 0
  · simp only [if_pos h0, g_0_3, g_68_5, bs, v1, v2]
    exact ⟨nI m, (nI m, _), rfl, rfl, rfl, A, B, V, q, m, kd, ln, lt, rfl, hI0⟩
  · simp only [if_neg h0]
    by_cases h1 : a1 = 1
    · simp only [if_pos h1, g_0_5, g_68_6, bs, z1, z2]
      exact ⟨nI n, (nI n, _), rfl, rfl, rfl, A, B, V, q, m, kd, ln, lt, rfl, hI0⟩
    · simp only [if_neg h1]
      by_cases h2 : a1 = 2
      · simp only [if_pos h2, r_0_4, g_0_5, bs, z1]
        rw [x7_standIn hq hm hX v1 (r := 21) (N := 60) rfl (by omega) hn (by omega), bs, x8_lookAtSaid hn z2 (by omega), bs, x8_standing hm (repM_c hM (up_ne _ _ (by omega)) (up_ne _ _ (by omega)) (up_ne _ _ (by omega))) (by rw [u2_k _ _ (by omega)]; exact v2) hn (u2_s _ _ _ _) (by omega), bs]
        refine ⟨_, (_, _), rfl, rfl, ?_, _, B, _, q, m, kd, ln, lt, rfl, inv_look hNO hI0 _ _⟩
        show nI _ = nI _
        congr 1
        apply bitS_congr
        intro w hw
        rw [cnt_congr n 1 (fun e _ h2 => hWb_congr (fun i hi => (look_said z3 i (by omega)).symm))]
      · simp only [if_neg h2]
        by_cases h3 : a1 = 3
        · simp only [if_pos h3, g_0_8, g_68_25, bs, y1, y2]
          exact ⟨nI rn, (nI rn, _), rfl, rfl, rfl, A, B, V, q, m, kd, ln, lt, rfl, hI0⟩
        · simp only [if_neg h3]
          exact ⟨-2, (-2, _), rfl, rfl, rfl, A, B, V, q, m, kd, ln, lt, rfl, hI0⟩
theorem step_say (hNO : NOf NO) (hF : 80 ≤ F) : st_say (InvH NO SS) F := by
  intro h a1 hI
  obtain ⟨A, B, V, q, m, kd, ln, lt, rfl, hI⟩ := hI
  have hI0 := hI
  obtain ⟨hq, hW, hS, hZ, hR, hT, hSS, hN⟩ := hI
  obtain ⟨hm, v1, v2, hX, hM, hL⟩ := id hW
  obtain ⟨n, hn, z1, z2, z3⟩ := id hZ
  have triv : ∀ r : Int32, x_X7_say F (mk A B V q) 0 a1 = some (r, mk A B V q) → x_X8_say F (mk A B V q) 68 a1 = some (r, mk A B V q) → ∃ (q1 : Int32 × pH) (q2 : Int32 × pH), x_X7_say F (mk A B V q) 0 a1 = some q1 ∧ x_X8_say F q1.2 68 a1 = some q2 ∧ q1.1 = q2.1 ∧ InvH NO SS q2.2 := fun r e1 e2 => ⟨(r, mk A B V q), (r, mk A B V q), e1, e2, rfl, A, B, V, q, m, kd, ln, lt, rfl, hI0⟩
  cases hb : inb a1 3
  · refine triv (-2) ?_ ?_
    · unfold x_X7_say
      rw [c_0, bs, show (3 : Int32) = nI 3 from rfl, x7_isBelow (by omega), bs, hb, if_pos cI_f]
    · unfold x_X8_say
      rw [c_68, bs, x8_within (n := 3) rfl, bs, hb, if_pos cI_f]
  · have b7 := x7_isBelow (F := F) (h := mk A B V q) (a := a1) (n := 3) (by omega)
    by_cases h0 : m = 0
    · refine triv (-3) ?_ ?_
      · unfold x_X7_say
        rw [c_0, bs, show (3 : Int32) = nI 3 from rfl, b7, bs, hb, if_neg (by decide), g_0_3, bs, v1, h0, if_pos nI_0]
      · unfold x_X8_say
        rw [c_68, bs, x8_within (n := 3) rfl, bs, hb, if_neg (by decide), g_68_5, bs, v2, h0, if_pos nI_0]
    · by_cases h60 : n = 60
      · refine triv (-4) ?_ ?_
        · unfold x_X7_say
          rw [c_0, bs, show (3 : Int32) = nI 3 from rfl, b7, bs, hb, if_neg (by decide), g_0_3, bs, v1, if_neg (nz0 h0 (by omega)), g_0_5, bs, z1, h60, if_neg (by decide)]
        · unfold x_X8_say
          rw [c_68, bs, x8_within (n := 3) rfl, bs, hb, if_neg (by decide), g_68_5, bs, v2, if_neg (nz0 h0 (by omega)), g_68_6, bs, z2, h60, if_pos (by decide)]
      · have hn2 : n < 60 := by omega
        have hi60 : inb (nI n) 60 = true := inb_nI hn2 (by omega)
        have eA : ∀ p, p ≠ 21 → u2 A 21 n a1 p = A p := fun p hp => u2_pp _ _ hp
        have eA2 : ∀ p, p ≠ 21 → p ≠ 75 → u2 (u2 A 21 n a1) 75 n a1 p = A p := fun p h1 h2 => by rw [u2_pp _ _ h2, u2_pp _ _ h1]
        have eV : ∀ p k, ¬ (p = 0 ∧ k = 5) → u2 V 0 5 (nI (n + 1)) p k = V p k := fun p k hp => u2_ne hp
        have eV2 : ∀ p k, ¬ (p = 0 ∧ k = 5) → ¬ (p = 68 ∧ k = 6) → u2 (u2 V 0 5 (nI (n + 1))) 68 6 (nI (n + 1)) p k = V p k := fun p k h1 h2 => by rw [u2_ne h2, u2_ne h1]
        have rows : ∀ i, i < n + 1 → u2 (u2 A 21 n a1) 75 n a1 75 i = u2 (u2 A 21 n a1) 75 n a1 21 i := by
          intro i hi
          by_cases e : i = n
          · subst e
            rw [u2_s, u2_p _ _ (by omega), u2_s]
          · rw [u2_k _ _ e, u2_p _ _ (by omega), u2_p _ _ (by omega), u2_k _ _ e]
            exact z3 i (by omega)
        have newI : InvW NO SS (u2 (u2 A 21 n a1) 75 n a1) B (u2 (u2 V 0 5 (nI (n + 1))) 68 6 (nI (n + 1))) q m kd ln lt := by
          refine ⟨hq, WI_c hW hq (fun p h1 h2 => ⟨eA2 p (by omega) (by omega), by funext k; exact eV2 p k (by omega) (by omega)⟩) (eA2 _ (by omega) (by omega)) (eA2 _ (by omega) (by omega)) (eA2 _ (by omega) (by omega)) (eV2 _ _ (by omega) (by omega)) (eV2 _ _ (by omega) (by omega)), SI_c hS (fun p h1 h2 => ⟨eA2 p (by omega) (by omega), by funext k; exact eV2 p k (by omega) (by omega)⟩) (eA2 _ (by omega) (by omega)) (eA2 _ (by omega) (by omega)) (eA2 _ (by omega) (by omega)), ⟨n + 1, by omega, ?_, ?_, rows⟩, RI_c hR (fun p h1 h2 => ⟨eA2 p (by omega) (by omega), by funext k; exact eV2 p k (by omega) (by omega)⟩) (fun p h1 h2 => eA2 p (by omega) (by omega)) (eV2 _ _ (by omega) (by omega)) (eV2 _ _ (by omega) (by omega)), TI_c hT (eV2 _ _ (by omega) (by omega)) (eV2 _ _ (by omega) (by omega)) (eV2 _ _ (by omega) (by omega)) (eV2 _ _ (by omega) (by omega)), by rw [eA2 _ (by omega) (by omega)]; exact hSS, ?_⟩
          · rw [u2_ne (p' := 0) (by omega), u2_s]
          · rw [u2_s]
          · rw [eV2 _ _ (by omega) (by omega)]
            rcases hN with z | ⟨z4, z5⟩
            · exact Or.inl z
            · exact Or.inr ⟨z4, hNO A _ B B V _ q m kd ln lt (fun p h1 h2 => ⟨eA2 p (by omega) (by omega), rfl, by funext k; exact eV2 p k (by omega) (by omega)⟩) z5⟩
        have hX' : repX (u2 A 21 n a1) (u2 V 0 5 (nI (n + 1))) q.1 m kd ln lt := repX_c hq hm hX (fun p h1 h2 => ⟨eA p (by omega), by funext k; exact eV p k (by omega)⟩)
        have hM' : repM (va_up (u2 (u2 A 21 n a1) 75 n a1) 79 (va_cpy (u2 (u2 A 21 n a1) 75 n a1 75) (u2 (u2 A 21 n a1) 75 n a1 79) 0 0 (n + 1))) m kd ln lt := repM_c hM (by rw [up_ne _ _ (by omega), eA2 _ (by omega) (by omega)]) (by rw [up_ne _ _ (by omega), eA2 _ (by omega) (by omega)]) (by rw [up_ne _ _ (by omega), eA2 _ (by omega) (by omega)])
        refine ⟨(nI (bitS (fun w => hWb (kd w) (ln w) (lt w) (u2 A 21 n a1 21) (n + 1)) m), mk (u2 A 21 n a1) B (u2 V 0 5 (nI (n + 1))) q), (nI (bitS (fun w => hWb (kd w) (ln w) (lt w) (va_up (u2 (u2 A 21 n a1) 75 n a1) 79 (va_cpy (u2 (u2 A 21 n a1) 75 n a1 75) (u2 (u2 A 21 n a1) 75 n a1 79) 0 0 (n + 1)) 79) (n + 1)) m), mk (va_up (u2 (u2 A 21 n a1) 75 n a1) 79 (va_cpy (u2 (u2 A 21 n a1) 75 n a1 75) (u2 (u2 A 21 n a1) 75 n a1 79) 0 0 (n + 1))) B (u2 (u2 (u2 V 0 5 (nI (n + 1))) 68 6 (nI (n + 1))) 68 17 (nI (n + 1))) q), ?_, ?_, ?_, _, B, _, q, m, kd, ln, lt, rfl, inv_look hNO newI _ _⟩
        · unfold x_X7_say
          rw [c_0, bs, show (3 : Int32) = nI 3 from rfl, b7, bs, hb, if_neg (by decide), g_0_3, bs, v1, if_neg (nz0 h0 (by omega)), g_0_5, bs, z1, show (60 : Int32) = nI 60 from rfl, if_pos ((nI_ltI (by omega) (by omega)).mpr hn2), r_0_4, bs, bs, s_21 hi60, bs, g_0_5, bs, z1, nI_1, w_0_5, bs, r_0_2, bs, g_0_3, bs, r_0_4, bs, g_0_5, bs, tn (by omega), u2_s, eV _ _ (by omega), v1, x7_heardBy (okQ_kn hq) hm hX' (r := 21) (N := 60) rfl (by omega) (by omega) (by omega), bs]
        · unfold x_X8_say
          rw [c_68, bs, x8_within (n := 3) rfl, bs, hb, if_neg (by decide), g_68_5, bs, eV _ _ (by omega), v2, if_neg (nz0 h0 (by omega)), g_68_6, bs, eV _ _ (by omega), z2, if_neg (show ¬ nI n = 60 from nI_eq' (b := 60) (by omega) (by omega) h60), r_68_10, bs, bs, s_75 hi60, bs, g_68_6, bs, eV _ _ (by omega), z2, nI_1, w_68_6, bs, tn (by omega), x8_lookAtSaid (n := n + 1) (by omega) (u2_s _ _ _ _) (by omega), bs, g_68_6, bs, u2_k _ _ (by omega), u2_s, x8_heardBehind hm hM' (by rw [u2_k _ _ (by omega), eV2 _ _ (by omega) (by omega)]; exact v2) (by omega) (by omega), bs]
        · show nI _ = nI _
          congr 1
          apply bitS_congr
          intro w hw
          apply hWb_congr
          intro i hi
          rw [look_said rows i hi]
          exact (u2_p _ _ (by omega)).symm
end ST6
