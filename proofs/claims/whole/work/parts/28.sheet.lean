/-! steps: spell, put, cell, sheet -/
def fil (f : Nat → Int32) (a b : Nat) (x : Int32) : Nat → Int32 := fun i => if a ≤ i ∧ i < b then x else f i
theorem fil_nil (f : Nat → Int32) (a : Nat) (x : Int32) : fil f a a x = f := by
  funext i
  unfold fil
  rw [if_neg (by omega)]
theorem up_up {α : Type} (f : Nat → α) (p : Nat) (x y : α) : va_up (va_up f p x) p y = va_up f p y := by
  funext j
  by_cases e : j = p <;> simp [va_up, e]
theorem up_at {α : Type} (f : Nat → α) (p : Nat) (x : α) : va_up f p x p = x := by simp [va_up]
theorem up_ne {α : Type} (f : Nat → α) {p j : Nat} (x : α) (h : j ≠ p) : va_up f p x j = f j := by simp [va_up, h]
theorem u2_fil (A : tA2) (p a b : Nat) (x : Int32) (h : a < b) : va_up (u2 A p a x) p (fil (u2 A p a x p) (a + 1) b x) = va_up A p (fil (A p) a b x) := by
  unfold u2
  rw [up_up, up_at]
  congr 1
  funext i
  unfold fil
  by_cases e : i = a
  · subst e
    rw [if_neg (by omega), if_pos (by omega), up_at]
  · by_cases e2 : a + 1 ≤ i ∧ i < b
    · rw [if_pos e2, if_pos (by omega)]
    · rw [if_neg e2, if_neg (by omega), up_ne _ _ e]
section SH
variable {B : tB2} {V : tA2} {q : tQ} {F : Nat}
theorem fill_loop {a n : Nat} (hs : shp a = (10, n)) (hn : n < 2 ^ 20) (x : Int32) : ∀ (d u j : Nat) (A : tA2), j + d = n → d < u → x_J7_fill_53178_5 F a x (nI n) u (mk A B V q) (nI j) = some (mk (va_up A a (fil (A a) j n x)) B V q) := by
  intro d
  induction d with
  | zero =>
    intro u j A hj hu
    obtain ⟨u, rfl⟩ : ∃ z, u = z + 1 := ⟨u - 1, by omega⟩
    show s_J7_fill_53178_5 _ _ _ _ _ _ _ = _
    unfold s_J7_fill_53178_5
    rw [if_pos ((nI_leI (by omega) (by omega)).mpr (by omega)), show j = n by omega, fil_nil, up_same]
  | succ d ih =>
    intro u j A hj hu
    obtain ⟨u, rfl⟩ : ∃ z, u = z + 1 := ⟨u - 1, by omega⟩
    show s_J7_fill_53178_5 _ _ _ _ _ _ _ = _
    unfold s_J7_fill_53178_5
    rw [if_neg (fun z => by have := (nI_leI (by omega) (by omega)).mp z; omega), mk_astI hs (inb_nI (by omega) (by omega)), bs, tn (by omega), nI_1, ih u (j + 1) _ (by omega) (by omega), u2_fil _ _ _ _ _ (by omega)]
theorem x_fill {A : tA2} {a n : Nat} (hs : shp a = (10, n)) (hn : n < 2 ^ 20) (x : Int32) (hF : n < F) : x_J7_fill_53178 F (mk A B V q) a x = some (mk (va_up A a (fil (A a) 0 n x)) B V q) := by
  unfold x_J7_fill_53178
  rw [mk_alen hs, bs]
  exact fill_loop hs hn x n F 0 A (by omega) (by omega)
theorem n60 (w : Nat) : (60 : Int32) * nI w = nI (60 * w) := pk_mul 60 w
theorem x8_sh_loop {k : Nat} (hk : k < 4) : ∀ (d u j : Nat) (A : tA2), j + d = 60 → d < u → x_X8_sheet_57 F 68 (nI k) u (mk A B V q) (nI j) = some (1, mk (va_up A 71 (fil (A 71) (60 * k + j) (60 * k + 60) 0)) B V q) := by
  intro d
  induction d with
  | zero =>
    intro u j A hj hu
    obtain ⟨u, rfl⟩ : ∃ z, u = z + 1 := ⟨u - 1, by omega⟩
    show s_X8_sheet_57 _ _ _ _ _ _ = _
    unfold s_X8_sheet_57
    rw [show (60 : Int32) = nI 60 from rfl, if_pos ((nI_leI (by omega) (by omega)).mpr (by omega)), show j = 60 by omega, fil_nil, up_same]
  | succ d ih =>
    intro u j A hj hu
    obtain ⟨u, rfl⟩ : ∃ z, u = z + 1 := ⟨u - 1, by omega⟩
    show s_X8_sheet_57 _ _ _ _ _ _ = _
    unfold s_X8_sheet_57
    rw [if_neg (fun z => by have := (nI_leI (a := 60) (by omega) (by omega)).mp z; omega), r_68_4, bs, n60, nI_add, s_71 (inb_nI (by omega) (by omega)), bs, tn (by omega), nI_1, ih u (j + 1) _ (by omega) (by omega)]
    have := u2_fil A 71 (60 * k + j) (60 * k + 60) 0 (by omega)
    rw [Nat.add_assoc] at this
    rw [this]
end SH
section ST3
variable {NO : tNO} {SS : (Nat → Int32) → Prop} {F : Nat}
theorem sh_there {A V : tA2} {k : Nat} (h : V (44 + 2 * k) 1 = 0 ∧ A 69 k = -9 ∨ V (44 + 2 * k) 1 = 1 ∧ ∃ la, la < 3 ∧ V (44 + 2 * k) 2 = nI la ∧ A 69 k = nI la) : (V (44 + 2 * k) 1 = 0 ∧ A 69 k = -9) ∨ (¬ V (44 + 2 * k) 1 = 0 ∧ ¬ A 69 k = -9 ∧ ∃ la, la < 3 ∧ V (44 + 2 * k) 2 = nI la ∧ A 69 k = nI la) := by
  rcases h with z | ⟨z1, la, z2, z3, z4⟩
  · exact Or.inl z
  · refine Or.inr ⟨by rw [z1]; decide, ?_, la, z2, z3, z4⟩
    rw [z4]
    rcases (show la = 0 ∨ la = 1 ∨ la = 2 by omega) with rfl | rfl | rfl <;> decide
theorem step_put (hNO : NOf NO) : st_put (InvH NO SS) F := by
  intro h a1 a2 a3 hI
  obtain ⟨A, B, V, q, m, kd, ln, lt, rfl, hI⟩ := hI
  have hI0 := hI
  obtain ⟨hq, hW, hS, hZ, hR, hT, hSS, hN⟩ := hI
  have f0 := inv_fault hNO hI0 0
  have f1 := inv_fault hNO hI0 1
  have f3 := inv_fault hNO hI0 3
  cases hb : inb a1 4
  · refine ⟨(-1, mk A B (u2 V 0 16 0) q), (-1, mk A B (u2 (u2 V 0 16 0) 68 0 0) q), ?_, ?_, rfl, A, B, _, q, m, kd, ln, lt, rfl, f0⟩
    · unfold x_X7_put
      rw [c_0, bs, w_0_16, bs, x7_isSheet, bs, hb, if_pos cI_f]
    · unfold x_X8_put
      rw [c_68, bs, w_68_0, bs, x8_isSheet, bs, hb, if_pos cI_f]
  · obtain ⟨k, hk, rfl⟩ := inb_ex hb (by omega)
    have hs := isS_k hk
    have hi : inb (nI k) 4 = true := hb
    have tk : (nI k).toNatClampNeg = k := tn (by omega)
    obtain ⟨⟨l, hl, s1, s2⟩, s3, s4⟩ := hS k hk
    have nv : ∀ j, u2 V 0 16 0 (44 + 2 * k) j = V (44 + 2 * k) j := fun j => u2_p _ _ (by omega)
    rcases sh_there s3 with ⟨t1, t2⟩ | ⟨t1, t2, la, t3, t4, t5⟩
    · refine ⟨(-11, mk A B (u2 V 0 16 1) q), (-11, mk A B (u2 (u2 V 0 16 1) 68 0 1) q), ?_, ?_, rfl, A, B, _, q, m, kd, ln, lt, rfl, f1⟩
      · unfold x_X7_put
        rw [c_0, bs, w_0_16, bs, x7_isSheet, bs, hb, if_neg (by decide), r_0_0, bs, l_sh hk, bs, gS1 hs, bs, nv, if_pos t1, x7_failWith, bs, u2_u2]
        rfl
      · unfold x_X8_put
        rw [c_68, bs, w_68_0, bs, x8_isSheet, bs, hb, if_neg (by decide), r_68_2, bs, l_69 hi, bs, tk, if_pos t2, x8_fails, bs, u2_u2]
        rfl
    · cases hb2 : inb a2 l
      · refine ⟨(-13, mk A B (u2 V 0 16 3) q), (-13, mk A B (u2 (u2 V 0 16 3) 68 0 3) q), ?_, ?_, rfl, A, B, _, q, m, kd, ln, lt, rfl, f3⟩
        · unfold x_X7_put
          rw [c_0, bs, w_0_16, bs, x7_isSheet, bs, hb, if_neg (by decide), r_0_0, bs, l_sh hk, bs, gS1 hs, bs, nv, if_neg t1, bs, l_sh hk, bs, gS3 hs, bs, nv, s1, x7_isBelow (by omega), bs, hb2, if_pos cI_f, x7_failWith, bs, u2_u2]
          rfl
        · unfold x_X8_put
          rw [c_68, bs, w_68_0, bs, x8_isSheet, bs, hb, if_neg (by decide), r_68_2, bs, l_69 hi, bs, tk, if_neg t2, r_68_3, bs, l_70 hi, bs, tk, s2, x8_within (n := l) (nI_m1 (by omega)), bs, hb2, if_pos cI_f, x8_fails, bs, u2_u2]
          rfl
      · obtain ⟨i, hi2, rfl⟩ := inb_ex hb2 (by omega)
        obtain ⟨v, hv⟩ : ∃ v : Int32, v = (if la = 0 then a3.toInt8.toInt32 else if la = 1 then a3.toInt16.toInt32 else a3) := ⟨_, rfl⟩
        refine ⟨(1, mk (u2 A (45 + 2 * k) i v) B (u2 V 0 16 0) q), (1, mk (u2 (u2 A (45 + 2 * k) i v) 71 (60 * k + i) v) B (u2 (u2 V 0 16 0) 68 0 0) q), ?_, ?_, rfl, _, B, _, q, m, kd, ln, lt, rfl, ?_⟩
        · unfold x_X7_put x_X4_write
          rw [c_0, bs, w_0_16, bs, x7_isSheet, bs, hb, if_neg (by decide), r_0_0, bs, l_sh hk, bs, gS1 hs, bs, nv, if_neg t1, bs, l_sh hk, bs, gS3 hs, bs, nv, s1, x7_isBelow (by omega), bs, hb2, if_neg (by decide), bs, l_sh hk, bs, cS hs, bs, gS2 hs, bs, nv, t4, rS hs, bs, bs, bs]
          have e45 : 44 + 2 * k + 1 = 45 + 2 * k := by omega
          have hj : inb (nI i) 60 = true := inb_nI (by omega) (by omega)
          rcases (show la = 0 ∨ la = 1 ∨ la = 2 by omega) with rfl | rfl | rfl
          · rw [if_pos nI_0, sS hs hj, bs, bs, tn (by omega), e45, hv]; rfl
          · rw [if_neg (by decide), if_pos e1.symm, sS hs hj, bs, bs, tn (by omega), e45, hv]; rfl
          · rw [if_neg (by decide), if_neg (by decide), bs, sS hs hj, bs, bs, tn (by omega), e45, hv]; rfl
        · unfold x_X8_put x_X8_put_93
          have eA : ∀ p, p < 52 ∧ p = 69 ∨ p = 69 ∨ p = 70 → u2 A (45 + 2 * k) i v p = A p := fun p hp => u2_pp _ _ (by omega)
          rw [c_68, bs, w_68_0, bs, x8_isSheet, bs, hb, if_neg (by decide), r_68_2, bs, l_69 hi, bs, tk, eA 69 (by omega), if_neg t2, r_68_3, bs, l_70 hi, bs, tk, eA 70 (by omega), s2, x8_within (n := l) (nI_m1 (by omega)), bs, hb2, if_neg (by decide), r_68_4, bs, bs, l_69 hi, bs, bs, l_69 hi, bs, tk, eA 69 (by omega), t5, n60, nI_add]
          have hj : inb (nI (60 * k + i)) 240 = true := inb_nI (by omega) (by omega)
          rcases (show la = 0 ∨ la = 1 ∨ la = 2 by omega) with rfl | rfl | rfl
          · rw [if_pos nI_0, s_71 hj, bs, tn (by omega), hv]; rfl
          · rw [if_neg (by decide), if_pos e1.symm, s_71 hj, bs, tn (by omega), hv]; rfl
          · rw [if_neg (by decide), if_neg (by decide), s_71 hj, bs, tn (by omega), hv]; rfl
        · refine inv_sh hNO hI0 (fun p h1 h2 h3 h4 => by rw [u2_pp _ _ (by omega), u2_pp _ _ (by omega)]) (fun p j h1 h2 h3 => by rw [u2_ne h3, u2_ne h2]) (by rw [u2_ne (p' := 0) (by omega), u2_s, u2_s]) ?_
          intro k2 hk2
          obtain ⟨y1, y2, y3⟩ := hS k2 hk2
          have nv2 : ∀ j, u2 (u2 V 0 16 0) 68 0 0 (44 + 2 * k2) j = V (44 + 2 * k2) j := fun j => by rw [u2_p _ _ (by omega), u2_p _ _ (by omega)]
          have ea2 : ∀ p, p = 69 ∨ p = 70 → u2 (u2 A (45 + 2 * k) i v) 71 (60 * k + i) v p = A p := fun p hp => by rw [u2_pp _ _ (by omega), u2_pp _ _ (by omega)]
          rw [nv2, nv2, nv2, ea2 69 (by omega), ea2 70 (by omega)]
          refine ⟨y1, y2, fun i2 hi3 => ?_⟩
          by_cases e : k2 = k ∧ i2 = i
          · obtain ⟨rfl, rfl⟩ := e
            rw [u2_s, u2_p _ _ (by omega), u2_s]
          · rw [u2_k _ _ (by omega), u2_p _ _ (by omega), u2_p (p' := 45 + 2 * k2) _ _ (by omega)]
            rw [y3 i2 hi3]
            by_cases e2 : k2 = k
            · subst e2
              rw [u2_k _ _ (by omega)]
            · rw [u2_p _ _ (by omega)]
theorem step_cell (hNO : NOf NO) : st_cell (InvH NO SS) F := by
  intro h a1 a2 a3 hI
  obtain ⟨A, B, V, q, m, kd, ln, lt, rfl, hI⟩ := hI
  have hI0 := hI
  obtain ⟨hq, hW, hS, hZ, hR, hT, hSS, hN⟩ := hI
  have ff := fun x => inv_fault hNO hI0 x
  cases hb : inb a1 4
  · refine ⟨(-9223372036854775808, mk A B (u2 V 0 16 0) q), (-9223372036854775808, mk A B (u2 (u2 V 0 16 0) 68 0 0) q), ?_, ?_, rfl, A, B, _, q, m, kd, ln, lt, rfl, ff 0⟩
    · unfold x_X7_cell
      rw [c_0, bs, w_0_16, bs, x7_isSheet, bs, hb, if_pos cI_f]
    · unfold x_X8_cell
      rw [c_68, bs, w_68_0, bs, x8_isSheet, bs, hb, if_pos cI_f]
  · obtain ⟨k, hk, rfl⟩ := inb_ex hb (by omega)
    have hs := isS_k hk
    have hi : inb (nI k) 4 = true := hb
    have tk : (nI k).toNatClampNeg = k := tn (by omega)
    obtain ⟨⟨l, hl, s1, s2⟩, s3, s4⟩ := hS k hk
    have nv : ∀ j, u2 V 0 16 0 (44 + 2 * k) j = V (44 + 2 * k) j := fun j => u2_p _ _ (by omega)
    cases hb3 : inb a3 3
    · refine ⟨(-9223372036854775808, mk A B (u2 V 0 16 0) q), (-9223372036854775808, mk A B (u2 (u2 V 0 16 0) 68 0 0) q), ?_, ?_, rfl, A, B, _, q, m, kd, ln, lt, rfl, ff 0⟩
      · unfold x_X7_cell
        rw [c_0, bs, w_0_16, bs, x7_isSheet, bs, hb, if_neg (by decide), show (3 : Int32) = nI 3 from rfl, x7_isBelow (by omega), bs, hb3, if_pos cI_f]
      · unfold x_X8_cell
        rw [c_68, bs, w_68_0, bs, x8_isSheet, bs, hb, if_neg (by decide), x8_isSort, bs, hb3, if_pos cI_f]
    · obtain ⟨la3, hla, rfl⟩ := inb_ex hb3 (by omega)
      have b3 := x7_isBelow (F := F) (h := mk A B (u2 V 0 16 0) q) (a := nI la3) (n := 3) (by omega)
      rcases sh_there s3 with ⟨t1, t2⟩ | ⟨t1, t2, la, t3, t4, t5⟩
      · refine ⟨(-9223372036854775808, mk A B (u2 V 0 16 1) q), (-9223372036854775808, mk A B (u2 (u2 V 0 16 1) 68 0 1) q), ?_, ?_, rfl, A, B, _, q, m, kd, ln, lt, rfl, ff 1⟩
        · unfold x_X7_cell x_X7_cell_60 x_X4_faultOfLane
          rw [c_0, bs, w_0_16, bs, x7_isSheet, bs, hb, if_neg (by decide), show (3 : Int32) = nI 3 from rfl, b3, bs, hb3, if_neg (by decide), r_0_0, bs, l_sh hk, bs, cS hs, bs, gS1 hs, bs, nv, if_pos t1, bs, if_neg (by decide), if_neg (by decide), w_0_16, bs, u2_u2]
        · unfold x_X8_cell x_X8_cell_50
          rw [c_68, bs, w_68_0, bs, x8_isSheet, bs, hb, if_neg (by decide), x8_isSort, bs, hb3, if_neg (by decide), r_68_2, bs, l_69 hi, bs, tk, if_pos t2, bs, l_69 hi, bs, tk, if_pos t2, x8_lost, bs, u2_u2]
      · by_cases hle : la = la3
        · subst hle
          cases hb2 : inb a2 l
          · refine ⟨(-9223372036854775808, mk A B (u2 V 0 16 3) q), (-9223372036854775808, mk A B (u2 (u2 V 0 16 3) 68 0 3) q), ?_, ?_, rfl, A, B, _, q, m, kd, ln, lt, rfl, ff 3⟩
            · unfold x_X7_cell x_X7_cell_60 x_X4_faultOfLane
              rw [c_0, bs, w_0_16, bs, x7_isSheet, bs, hb, if_neg (by decide), show (3 : Int32) = nI 3 from rfl, b3, bs, hb3, if_neg (by decide), r_0_0, bs, l_sh hk, bs, cS hs, bs, gS1 hs, bs, nv, if_neg t1, gS2 hs, bs, nv, t4, if_pos rfl, bs, if_pos rfl, bs, l_sh hk, bs, gS3 hs, bs, nv, s1, x7_isBelow (by omega), bs, hb2, if_pos cI_f, if_neg (by decide), w_0_16, bs, u2_u2]
            · unfold x_X8_cell x_X8_cell_50
              rw [c_68, bs, w_68_0, bs, x8_isSheet, bs, hb, if_neg (by decide), x8_isSort, bs, hb3, if_neg (by decide), r_68_2, bs, l_69 hi, bs, tk, if_neg t2, bs, l_69 hi, bs, tk, t5, if_pos rfl, bs, l_69 hi, bs, tk, if_neg t2, r_68_3, bs, l_70 hi, bs, tk, s2, x8_within (n := l) (nI_m1 (by omega)), bs, hb2, if_pos cI_f, x8_lost, bs, u2_u2]
          · obtain ⟨i, hi2, rfl⟩ := inb_ex hb2 (by omega)
            have e45 : 44 + 2 * k + 1 = 45 + 2 * k := by omega
            refine ⟨((A (45 + 2 * k) i).toInt64, mk A B (u2 V 0 16 0) q), ((A (45 + 2 * k) i).toInt64, mk A B (u2 (u2 V 0 16 0) 68 0 0) q), ?_, ?_, rfl, A, B, _, q, m, kd, ln, lt, rfl, ff 0⟩
            · unfold x_X7_cell x_X7_cell_60 x_X4_faultOfLane
              rw [c_0, bs, w_0_16, bs, x7_isSheet, bs, hb, if_neg (by decide), show (3 : Int32) = nI 3 from rfl, b3, bs, hb3, if_neg (by decide), r_0_0, bs, l_sh hk, bs, cS hs, bs, gS1 hs, bs, nv, if_neg t1, gS2 hs, bs, nv, t4, if_pos rfl, bs, if_pos rfl, bs, l_sh hk, bs, gS3 hs, bs, nv, s1, x7_isBelow (by omega), bs, hb2, if_neg (by decide), if_pos rfl, bs, l_sh hk, bs, rS hs, bs, lS hs (inb_nI (by omega) (by omega)), bs, tn (by omega), e45]
            · unfold x_X8_cell x_X8_cell_50
              rw [c_68, bs, w_68_0, bs, x8_isSheet, bs, hb, if_neg (by decide), x8_isSort, bs, hb3, if_neg (by decide), r_68_2, bs, l_69 hi, bs, tk, if_neg t2, bs, l_69 hi, bs, tk, t5, if_pos rfl, bs, l_69 hi, bs, tk, if_neg t2, r_68_3, bs, l_70 hi, bs, tk, s2, x8_within (n := l) (nI_m1 (by omega)), bs, hb2, if_neg (by decide), r_68_4, bs, n60, nI_add, l_71 (inb_nI (by omega) (by omega)), bs, tn (by omega), s4 i (by omega)]
        · have hne : ¬ nI la = nI la3 := nI_eq' (by omega) (by omega) hle
          refine ⟨(-9223372036854775808, mk A B (u2 V 0 16 2) q), (-9223372036854775808, mk A B (u2 (u2 V 0 16 2) 68 0 2) q), ?_, ?_, rfl, A, B, _, q, m, kd, ln, lt, rfl, ff 2⟩
          · unfold x_X7_cell x_X7_cell_60 x_X4_faultOfLane
            rw [c_0, bs, w_0_16, bs, x7_isSheet, bs, hb, if_neg (by decide), show (3 : Int32) = nI 3 from rfl, b3, bs, hb3, if_neg (by decide), r_0_0, bs, l_sh hk, bs, cS hs, bs, gS1 hs, bs, nv, if_neg t1, gS2 hs, bs, nv, t4, if_neg hne, bs, if_neg (by decide), if_neg (by decide), w_0_16, bs, u2_u2]
          · unfold x_X8_cell
            rw [c_68, bs, w_68_0, bs, x8_isSheet, bs, hb, if_neg (by decide), x8_isSort, bs, hb3, if_neg (by decide), r_68_2, bs, l_69 hi, bs, tk, if_neg t2, bs, l_69 hi, bs, tk, t5, if_neg hne, x8_lost, bs, u2_u2]
end ST3
