/-! step: copy -/
def hcB (i n : Int32) (l : Nat) : Bool := decide (0 ≤ i.toInt ∧ 0 ≤ n.toInt ∧ i.toInt + n.toInt ≤ l)
theorem hcB_ex {i n : Int32} {l : Nat} (h : hcB i n l = true) (hl : l < 2 ^ 20) : ∃ a b, a + b ≤ l ∧ i = nI a ∧ n = nI b := by
  simp only [hcB, decide_eq_true_eq] at h
  obtain ⟨a, ha, e1⟩ := inb_ex (a := i) (n := l + 1) (inb_iff.mpr (by omega)) (by omega)
  obtain ⟨b, hb, e2⟩ := inb_ex (a := n) (n := l + 1) (inb_iff.mpr (by omega)) (by omega)
  subst e1; subst e2
  rw [nI_toInt (by omega), nI_toInt (by omega)] at h
  exact ⟨a, b, by omega, rfl, rfl⟩
theorem hcB_nI {a b l : Nat} (h : a + b ≤ l) (hl : l < 2 ^ 20) : hcB (nI a) (nI b) l = true := by
  simp only [hcB, decide_eq_true_eq]
  rw [nI_toInt (by omega), nI_toInt (by omega)]
  omega
theorem i32lt0 {a : Int32} : a < 0 ↔ a.toInt < 0 := by rw [Int32.lt_iff_toInt_lt, i0]
theorem nIlt {a : Int32} {l : Nat} (hl : l < 2 ^ 20) : nI l < a ↔ (l : Int) < a.toInt := by rw [Int32.lt_iff_toInt_lt, nI_toInt (by omega)]
theorem subI {a : Int32} {l : Nat} (hl : l < 2 ^ 20) (h0 : 0 ≤ a.toInt) (h1 : a.toInt ≤ l) : (nI l - a).toInt = (l : Int) - a.toInt := by
  obtain ⟨b, hb, e⟩ := inb_ex (a := a) (n := l + 1) (inb_iff.mpr (by omega)) (by omega)
  subst e
  rw [nI_toInt (by omega), pk_sub (by omega), nI_toInt (by omega)]
  omega
section CP
variable {A : tA2} {B : tB2} {V : tA2} {q : tQ} {F : Nat}
theorem x4_hasCells {p l : Nat} (hs : isS p) (hV : V p 3 = nI l) (hl : l < 2 ^ 20) {i n : Int32} : x_X4_hasCells F (mk A B V q) p i n = some (cI (hcB i n l)) := by
  unfold x_X4_hasCells
  rw [cS hs, bs, gS3 hs, bs, hV, bs]
  by_cases h1 : n < 0
  · rw [if_pos h1, show hcB i n l = false by rw [i32lt0] at h1; simp only [hcB, decide_eq_false_iff_not]; omega]; rfl
  · rw [if_neg h1]
    by_cases h2 : i < 0
    · rw [if_pos h2, show hcB i n l = false by rw [i32lt0] at h2; simp only [hcB, decide_eq_false_iff_not]; omega]; rfl
    · rw [if_neg h2]
      rw [i32lt0] at h1 h2
      by_cases h3 : nI l < i
      · rw [if_pos h3, show hcB i n l = false by rw [nIlt hl] at h3; simp only [hcB, decide_eq_false_iff_not]; omega]; rfl
      · rw [if_neg h3]
        rw [nIlt hl] at h3
        have e := subI hl (a := i) (by omega) (by omega)
        by_cases h4 : nI l - i < n
        · rw [if_pos h4, show hcB i n l = false by rw [Int32.lt_iff_toInt_lt, e] at h4; simp only [hcB, decide_eq_false_iff_not]; omega]; rfl
        · rw [if_neg h4, show hcB i n l = true by rw [Int32.lt_iff_toInt_lt, e] at h4; simp only [hcB, decide_eq_true_eq]; omega]; rfl
end CP
section CL
variable {B : tB2} {V : tA2} {q : tQ} {F : Nat} {A : tA2}
theorem cpy_0 {α : Type} (f g : Nat → α) (s t : Nat) : va_cpy f g s t 0 = g := by
  funext x
  unfold va_cpy
  rw [if_neg (by omega)]
theorem cp_asc {k i o j n : Nat} (hk : k < 4) (ho : o < 4) (hi : i + n ≤ 60) (hj : j + n ≤ 60) (hd : ∀ c c', c' < c → c < n → 60 * k + i + c ≠ 60 * o + j + c') : ∀ (d u c : Nat), c + d = n → d < u → x_X8_copy_166 F 68 (nI k) (nI i) (nI o) (nI j) (nI n) 0 u (mk (va_up A 71 (va_cpy (A 71) (A 71) (60 * k + i) (60 * o + j) c)) B V q) (nI c) = some (nI n, mk (va_up A 71 (va_cpy (A 71) (A 71) (60 * k + i) (60 * o + j) n)) B V q) := by
  intro d
  induction d with
  | zero =>
    intro u c hc hu
    obtain ⟨u, rfl⟩ : ∃ z, u = z + 1 := ⟨u - 1, by omega⟩
    show s_X8_copy_166 _ _ _ _ _ _ _ _ _ _ _ = _
    unfold s_X8_copy_166
    rw [if_pos ((nI_leI (by omega) (by omega)).mpr (by omega)), show c = n by omega]
  | succ d ih =>
    intro u c hc hu
    obtain ⟨u, rfl⟩ : ∃ z, u = z + 1 := ⟨u - 1, by omega⟩
    show s_X8_copy_166 _ _ _ _ _ _ _ _ _ _ _ = _
    unfold s_X8_copy_166 x_X8_copy_190
    rw [if_neg (fun z => by have := (nI_leI (by omega) (by omega)).mp z; omega), if_pos rfl, r_68_4, bs, bs, n60, n60, nI_add, nI_add, nI_add, nI_add, l_71 (inb_nI (by omega) (by omega)), bs, s_71 (inb_nI (by omega) (by omega)), bs, tn (by omega), tn (by omega), nI_1, up_at]
    have e1 : va_cpy (A 71) (A 71) (60 * k + i) (60 * o + j) c (60 * k + i + c) = A 71 (60 * k + i + c) := by
      unfold va_cpy
      rw [if_neg]
      rintro ⟨z1, z2⟩
      exact hd c (60 * k + i + c - (60 * o + j)) (by omega) (by omega) (by omega)
    rw [e1]
    have e2 : u2 (va_up A 71 (va_cpy (A 71) (A 71) (60 * k + i) (60 * o + j) c)) 71 (60 * o + j + c) (A 71 (60 * k + i + c)) = va_up A 71 (va_cpy (A 71) (A 71) (60 * k + i) (60 * o + j) (c + 1)) := by
      unfold u2
      rw [up_up, up_at]
      congr 1
      funext x
      unfold va_cpy va_up
      by_cases z : x = 60 * o + j + c
      · rw [if_pos z, if_pos (by omega), z]
        congr 1
        omega
      · rw [if_neg z]
        dsimp only
        by_cases z2 : 60 * o + j ≤ x ∧ x < 60 * o + j + c
        · rw [if_pos z2, if_pos (by omega)]
        · rw [if_neg z2, if_neg (by omega)]
    rw [e2]
    exact ih u (c + 1) (by omega) (by omega)
theorem cp_desc {k i o j n : Nat} (hk : k < 4) (ho : o < 4) (hi : i + n ≤ 60) (hj : j + n ≤ 60) (hd : ∀ c c', c < c' → c' < n → 60 * k + i + c ≠ 60 * o + j + c') : ∀ (d u c : Nat), c + d = n → d < u → x_X8_copy_166 F 68 (nI k) (nI i) (nI o) (nI j) (nI n) 1 u (mk (va_up A 71 (va_cpy (A 71) (A 71) (60 * k + i + d) (60 * o + j + d) c)) B V q) (nI c) = some (nI n, mk (va_up A 71 (va_cpy (A 71) (A 71) (60 * k + i) (60 * o + j) n)) B V q) := by
  intro d
  induction d with
  | zero =>
    intro u c hc hu
    obtain ⟨u, rfl⟩ : ∃ z, u = z + 1 := ⟨u - 1, by omega⟩
    show s_X8_copy_166 _ _ _ _ _ _ _ _ _ _ _ = _
    unfold s_X8_copy_166
    rw [if_pos ((nI_leI (by omega) (by omega)).mpr (by omega)), show c = n by omega, Nat.add_zero, Nat.add_zero]
  | succ d ih =>
    intro u c hc hu
    obtain ⟨u, rfl⟩ : ∃ z, u = z + 1 := ⟨u - 1, by omega⟩
    show s_X8_copy_166 _ _ _ _ _ _ _ _ _ _ _ = _
    unfold s_X8_copy_166 x_X8_copy_190
    have en : nI n - 1 - nI c = nI d := by rw [nI_sub1 (by omega), pk_sub (by omega)]; congr 1; omega
    rw [if_neg (fun z => by have := (nI_leI (by omega) (by omega)).mp z; omega), if_neg (by decide), r_68_4, bs, bs, en, n60, n60, nI_add, nI_add, nI_add, nI_add, l_71 (inb_nI (by omega) (by omega)), bs, s_71 (inb_nI (by omega) (by omega)), bs, tn (by omega), tn (by omega), nI_1, up_at]
    have e1 : va_cpy (A 71) (A 71) (60 * k + i + (d + 1)) (60 * o + j + (d + 1)) c (60 * k + i + d) = A 71 (60 * k + i + d) := by
      unfold va_cpy
      rw [if_neg]
      rintro ⟨z1, z2⟩
      exact hd d (60 * k + i + d - (60 * o + j)) (by omega) (by omega) (by omega)
    rw [e1]
    have e2 : u2 (va_up A 71 (va_cpy (A 71) (A 71) (60 * k + i + (d + 1)) (60 * o + j + (d + 1)) c)) 71 (60 * o + j + d) (A 71 (60 * k + i + d)) = va_up A 71 (va_cpy (A 71) (A 71) (60 * k + i + d) (60 * o + j + d) (c + 1)) := by
      unfold u2
      rw [up_up, up_at]
      congr 1
      funext x
      unfold va_cpy va_up
      by_cases z : x = 60 * o + j + d
      · rw [if_pos z, if_pos (by omega), z]
        congr 1
        omega
      · rw [if_neg z]
        dsimp only
        by_cases z2 : 60 * o + j + (d + 1) ≤ x ∧ x < 60 * o + j + (d + 1) + c
        · rw [if_pos z2, if_pos (by omega)]
          congr 1
          omega
        · rw [if_neg z2, if_neg (by omega)]
    rw [e2]
    exact ih u (c + 1) (by omega) (by omega)
theorem x8_cp161 {k i o j n : Nat} (hk : k < 4) (ho : o < 4) (hi : i + n ≤ 60) (hj : j + n ≤ 60) (hF : 70 ≤ F) : (if nI j ≤ nI i then x_X8_copy_161 F (mk A B V q) 68 (nI k) (nI i) (nI o) (nI j) (nI n) 0 else x_X8_copy_161 F (mk A B V q) 68 (nI k) (nI i) (nI o) (nI j) (nI n) 1) = some (nI n, mk (va_up A 71 (va_cpy (A 71) (A 71) (60 * k + i) (60 * o + j) n)) B V q) := by
  unfold x_X8_copy_161
  by_cases h : j ≤ i
  · rw [if_pos ((nI_leI (by omega) (by omega)).mpr h)]
    have := cp_asc (A := A) (B := B) (V := V) (q := q) (F := F) hk ho hi hj (fun c c' h1 h2 z => by
      rcases (show k = o ∨ k < o ∨ o < k by omega) with rfl | z3 | z3 <;> omega) n F 0 (by omega) (by omega)
    rw [cpy_0, up_same, nI_0] at this
    exact this
  · rw [if_neg (fun z => by have := (nI_leI (by omega) (by omega)).mp z; omega)]
    have := cp_desc (A := A) (B := B) (V := V) (q := q) (F := F) hk ho hi hj (fun c c' h1 h2 z => by
      rcases (show k = o ∨ k < o ∨ o < k by omega) with rfl | z3 | z3 <;> omega) n F 0 (by omega) (by omega)
    rw [cpy_0, up_same, nI_0] at this
    exact this
end CL
section ST5
variable {NO : tNO} {SS : (Nat → Int32) → Prop} {F : Nat}
theorem step_copy (hNO : NOf NO) (hF : 70 ≤ F) : st_copy (InvH NO SS) F := by
  intro h a1 a2 a3 a4 a5 hI
  obtain ⟨A, B, V, q, m, kd, ln, lt, rfl, hI⟩ := hI
  have hI0 := hI
  obtain ⟨hq, hW, hS, hZ, hR, hT, hSS, hN⟩ := hI
  have ff := fun x => inv_fault hNO hI0 x
  cases hb : inb a1 4
  · refine ⟨(-1, mk A B (u2 V 0 16 0) q), (-1, mk A B (u2 (u2 V 0 16 0) 68 0 0) q), ?_, ?_, rfl, A, B, _, q, m, kd, ln, lt, rfl, ff 0⟩
    · unfold x_X7_copy
      rw [c_0, bs, w_0_16, bs, x7_isSheet, bs, hb, if_pos cI_f]
    · unfold x_X8_copy
      rw [c_68, bs, w_68_0, bs, x8_isSheet, bs, hb, if_pos cI_f]
  · obtain ⟨k, hk, rfl⟩ := inb_ex hb (by omega)
    cases hb3 : inb a3 4
    · refine ⟨(-1, mk A B (u2 V 0 16 0) q), (-1, mk A B (u2 (u2 V 0 16 0) 68 0 0) q), ?_, ?_, rfl, A, B, _, q, m, kd, ln, lt, rfl, ff 0⟩
      · unfold x_X7_copy
        rw [c_0, bs, w_0_16, bs, x7_isSheet, bs, hb, if_neg (by decide), x7_isSheet, bs, hb3, if_pos cI_f]
      · unfold x_X8_copy
        rw [c_68, bs, w_68_0, bs, x8_isSheet, bs, hb, if_neg (by decide), x8_isSheet, bs, hb3, if_pos cI_f]
    · obtain ⟨o, ho, rfl⟩ := inb_ex hb3 (by omega)
      have hsk := isS_k hk
      have hso := isS_k ho
      have hik : inb (nI k) 4 = true := hb
      have hio : inb (nI o) 4 = true := hb3
      have tk : (nI k).toNatClampNeg = k := tn (by omega)
      have to : (nI o).toNatClampNeg = o := tn (by omega)
      obtain ⟨⟨l, hl, s1, s2⟩, s3, s4⟩ := hS k hk
      obtain ⟨⟨l', hl', s1', s2'⟩, s3', s4'⟩ := hS o ho
      have nv : ∀ p j, p ≠ 0 → u2 V 0 16 0 p j = V p j := fun p j hp => u2_p _ _ hp
      have hd7 : ∀ X, (x_X7_copy F (mk A B V q) 0 (nI k) a2 (nI o) a4 a5 = some X ↔ (if V (44 + 2 * k) 1 = 0 then x_X7_copy_53 F (mk A B (u2 V 0 16 0) q) 0 else if V (44 + 2 * o) 1 = 0 then x_X7_copy_53 F (mk A B (u2 V 0 16 0) q) 0 else if V (44 + 2 * k) 2 = V (44 + 2 * o) 2 then (if cI (hcB a2 a5 l) = 0 then x_X7_copy_101 F (mk A B (u2 V 0 16 0) q) 0 else if cI (hcB a4 a5 l') = 0 then x_X7_copy_101 F (mk A B (u2 V 0 16 0) q) 0 else ((acpI (mk A B (u2 V 0 16 0) q) (45 + 2 * k) a2 (45 + 2 * o) a4 a5).bind fun v16 => some (a5, v16))) else (x_X7_failWith F (mk A B (u2 V 0 16 0) q) 0 2).bind fun v17 => some (v17.1, v17.2)) = some X) := by
        intro X
        unfold x_X7_copy
        rw [c_0, bs, w_0_16, bs, x7_isSheet, bs, hb, if_neg (by decide), x7_isSheet, bs, hb3, if_neg (by decide), r_0_0, bs, l_sh hk, bs, bs, l_sh ho, bs, gS1 hsk, bs, gS1 hso, bs, gS2 hsk, bs, gS2 hso, bs, x4_hasCells hsk (by rw [nv _ _ (by omega)]; exact s1) (by omega), bs, x4_hasCells hso (by rw [nv _ _ (by omega)]; exact s1') (by omega), bs, rS hsk, bs, rS hso, bs, nv _ _ (by omega), nv _ _ (by omega), nv _ _ (by omega), nv _ _ (by omega), show 44 + 2 * k + 1 = 45 + 2 * k by omega, show 44 + 2 * o + 1 = 45 + 2 * o by omega]
      have hd8 : ∀ A' V' X, A' 69 = A 69 → A' 70 = A 70 → (x_X8_copy F (mk A' B V' q) 68 (nI k) a2 (nI o) a4 a5 = some X ↔ (if A 69 k = -9 then x_X8_copy_43 F (mk A' B (u2 V' 68 0 0) q) 68 else if A 69 o = -9 then x_X8_copy_43 F (mk A' B (u2 V' 68 0 0) q) 68 else if A 69 k = A 69 o then (if a2 < 0 then x_X8_copy_144 F (mk A' B (u2 V' 68 0 0) q) 68 else if a4 < 0 then x_X8_copy_144 F (mk A' B (u2 V' 68 0 0) q) 68 else if a5 < 0 then x_X8_copy_144 F (mk A' B (u2 V' 68 0 0) q) 68 else if nI l < a2 then x_X8_copy_144 F (mk A' B (u2 V' 68 0 0) q) 68 else if nI l' < a4 then x_X8_copy_144 F (mk A' B (u2 V' 68 0 0) q) 68 else if nI l - a2 < a5 then x_X8_copy_144 F (mk A' B (u2 V' 68 0 0) q) 68 else if a5 ≤ nI l' - a4 then (if a4 ≤ a2 then x_X8_copy_161 F (mk A' B (u2 V' 68 0 0) q) 68 (nI k) a2 (nI o) a4 a5 0 else x_X8_copy_161 F (mk A' B (u2 V' 68 0 0) q) 68 (nI k) a2 (nI o) a4 a5 1) else x_X8_copy_144 F (mk A' B (u2 V' 68 0 0) q) 68) else (x_X8_fails F (mk A' B (u2 V' 68 0 0) q) 68 2).bind fun v16 => some (v16.1, v16.2)) = some X) := by
        intro A' V' X h69 h70
        unfold x_X8_copy x_X8_copy_109 x_X8_copy_110
        simp only [c_68, bs, w_68_0, x8_isSheet, hb, hb3, r_68_2, l_69 hik, l_69 hio, r_68_3, l_70 hik, l_70 hio, tk, to, h69, h70, s2, s2', if_neg (show ¬ cI true = 0 by decide), if_neg (show ¬ (1 : Int32) = 0 by decide), if_true]
      rcases sh_there s3 with ⟨t1, t2⟩ | ⟨t1, t2, la, t3, t4, t5⟩
      · refine ⟨(-11, mk A B (u2 V 0 16 1) q), (-11, mk A B (u2 (u2 V 0 16 1) 68 0 1) q), ?_, ?_, rfl, A, B, _, q, m, kd, ln, lt, rfl, ff 1⟩
        · rw [hd7, if_pos t1]
          unfold x_X7_copy_53
          rw [x7_failWith, bs, u2_u2]
          rfl
        · rw [hd8 _ _ _ rfl rfl, if_pos t2]
          unfold x_X8_copy_43
          rw [x8_fails, bs, u2_u2]
          rfl
      · rcases sh_there s3' with ⟨t1', t2'⟩ | ⟨t1', t2', la', t3', t4', t5'⟩
        · refine ⟨(-11, mk A B (u2 V 0 16 1) q), (-11, mk A B (u2 (u2 V 0 16 1) 68 0 1) q), ?_, ?_, rfl, A, B, _, q, m, kd, ln, lt, rfl, ff 1⟩
          · rw [hd7, if_neg t1, if_pos t1']
            unfold x_X7_copy_53
            rw [x7_failWith, bs, u2_u2]
            rfl
          · rw [hd8 _ _ _ rfl rfl, if_neg t2, if_pos t2']
            unfold x_X8_copy_43
            rw [x8_fails, bs, u2_u2]
            rfl
        · by_cases hla : la = la'
          · have e7 : V (44 + 2 * k) 2 = V (44 + 2 * o) 2 := by rw [t4, t4', hla]
            have e8 : A 69 k = A 69 o := by rw [t5, t5', hla]
            cases hc : (hcB a2 a5 l && hcB a4 a5 l')
            · refine ⟨(-13, mk A B (u2 V 0 16 3) q), (-13, mk A B (u2 (u2 V 0 16 3) 68 0 3) q), ?_, ?_, rfl, A, B, _, q, m, kd, ln, lt, rfl, ff 3⟩
              · rw [hd7, if_neg t1, if_neg t1', if_pos e7]
                unfold x_X7_copy_101
                rw [x7_failWith, bs, u2_u2]
                cases hc1 : hcB a2 a5 l
                · rw [if_pos cI_f]; rfl
                · rw [hc1, Bool.true_and] at hc
                  rw [hc, if_neg (by decide), if_pos cI_f]; rfl
              · rw [hd8 _ _ _ rfl rfl, if_neg t2, if_neg t2', if_pos e8]
                have hfin : x_X8_copy_144 F (mk A B (u2 (u2 V 0 16 3) 68 0 0) q) 68 = some (-13, mk A B (u2 (u2 V 0 16 3) 68 0 3) q) := by
                  unfold x_X8_copy_144
                  rw [x8_fails, bs, u2_u2]
                  rfl
                by_cases y1 : a2 < 0
                · rw [if_pos y1]; exact hfin
                · rw [if_neg y1]
                  by_cases y2 : a4 < 0
                  · rw [if_pos y2]; exact hfin
                  · rw [if_neg y2]
                    by_cases y3 : a5 < 0
                    · rw [if_pos y3]; exact hfin
                    · rw [if_neg y3]
                      by_cases y4 : nI l < a2
                      · rw [if_pos y4]; exact hfin
                      · rw [if_neg y4]
                        by_cases y5 : nI l' < a4
                        · rw [if_pos y5]; exact hfin
                        · rw [if_neg y5]
                          rw [i32lt0] at y1 y2 y3
                          rw [nIlt (by omega)] at y4 y5
                          have z1 := subI (l := l) (by omega) (a := a2) (by omega) (by omega)
                          have z2 := subI (l := l') (by omega) (a := a4) (by omega) (by omega)
                          by_cases y6 : nI l - a2 < a5
                          · rw [if_pos y6]; exact hfin
                          · rw [if_neg y6, if_neg]
                            · exact hfin
                            · intro y7
                              rw [Int32.lt_iff_toInt_lt, z1] at y6
                              rw [Int32.le_iff_toInt_le, z2] at y7
                              rw [Bool.and_eq_false_iff] at hc
                              simp only [hcB, decide_eq_false_iff_not] at hc
                              omega
            · rw [Bool.and_eq_true] at hc
              obtain ⟨i, n, hin, rfl, rfl⟩ := hcB_ex hc.1 (by omega)
              obtain ⟨j, n2, hjn, rfl, e5⟩ := hcB_ex hc.2 (by omega)
              have : n = n2 := (nI_eq (by omega) (by omega)).mp e5
              subst this
              refine ⟨(nI n, mk (va_up A (45 + 2 * o) (va_cpy (A (45 + 2 * k)) (A (45 + 2 * o)) i j n)) B (u2 V 0 16 0) q), (nI n, mk (va_up (va_up A (45 + 2 * o) (va_cpy (A (45 + 2 * k)) (A (45 + 2 * o)) i j n)) 71 (va_cpy (A 71) (A 71) (60 * k + i) (60 * o + j) n)) B (u2 (u2 V 0 16 0) 68 0 0) q), ?_, ?_, rfl, _, B, _, q, m, kd, ln, lt, rfl, ?_⟩
              · rw [hd7, if_neg t1, if_neg t1', if_pos e7, hc.1, hc.2, if_neg (by decide), if_neg (by decide), mk_acp (p := 45 + 2 * k) (n := 60) (p2 := 45 + 2 * o) (n2 := 60) (by have := saS hsk; rwa [show 44 + 2 * k + 1 = 45 + 2 * k by omega] at this) (by have := saS hso; rwa [show 44 + 2 * o + 1 = 45 + 2 * o by omega] at this) (nI_pos (by omega)) (nI_pos (by omega)) (nI_pos (by omega)) (by rw [tn (by omega), tn (by omega)]; omega) (by rw [tn (by omega), tn (by omega)]; omega), bs, tn (by omega), tn (by omega), tn (by omega)]
              · rw [hd8 _ _ _ (up_ne _ _ (by omega)) (up_ne _ _ (by omega)), if_neg t2, if_neg t2', if_pos e8, if_neg (nI_pos (by omega)), if_neg (nI_pos (by omega)), if_neg (nI_pos (by omega)), if_neg (nI_nlt (by omega) (by omega)), if_neg (nI_nlt (by omega) (by omega)), pk_sub (by omega), pk_sub (by omega), if_neg (nI_nlt (by omega) (by omega)), if_pos (nI_le (by omega) (by omega)), x8_cp161 hk ho (by omega) (by omega) hF, up_ne _ _ (show 71 ≠ 45 + 2 * o by omega)]
              · refine inv_sh hNO hI0 (fun p h1 h2 h3 h4 => by rw [up_ne _ _ h4, up_ne _ _ (by omega)]) (fun p j h1 h2 h3 => by rw [u2_ne h3, u2_ne h2]) (by rw [u2_ne (p' := 0) (by omega), u2_s, u2_s]) ?_
                intro k2 hk2
                obtain ⟨y1, y2, y3⟩ := hS k2 hk2
                have nv2 : ∀ j, u2 (u2 V 0 16 0) 68 0 0 (44 + 2 * k2) j = V (44 + 2 * k2) j := fun j => by rw [u2_p _ _ (by omega), u2_p _ _ (by omega)]
                rw [nv2, nv2, nv2, up_ne _ _ (show 69 ≠ 71 by omega), up_ne _ _ (show 70 ≠ 71 by omega), up_ne _ _ (show 69 ≠ 45 + 2 * o by omega), up_ne _ _ (show 70 ≠ 45 + 2 * o by omega)]
                refine ⟨y1, y2, fun i2 hi3 => ?_⟩
                rw [up_at, up_ne _ _ (show 45 + 2 * k2 ≠ 71 by omega)]
                by_cases e : k2 = o
                · subst e
                  rw [up_at]
                  unfold va_cpy
                  by_cases z : j ≤ i2 ∧ i2 < j + n
                  · rw [if_pos (by omega), if_pos z, ← s4 _ (by omega)]
                    congr 1
                    omega
                  · rw [if_neg (by omega), if_neg z]
                    exact y3 i2 hi3
                · rw [up_ne _ _ (by omega)]
                  unfold va_cpy
                  rw [if_neg (by omega)]
                  exact y3 i2 hi3
          · have hne : ¬ nI la = nI la' := nI_eq' (by omega) (by omega) hla
            refine ⟨(-12, mk A B (u2 V 0 16 2) q), (-12, mk A B (u2 (u2 V 0 16 2) 68 0 2) q), ?_, ?_, rfl, A, B, _, q, m, kd, ln, lt, rfl, ff 2⟩
            · rw [hd7, if_neg t1, if_neg t1', t4, t4', if_neg hne, x7_failWith, bs, u2_u2]
              rfl
            · rw [hd8 _ _ _ rfl rfl, if_neg t2, if_neg t2', t5, t5', if_neg hne, x8_fails, bs, u2_u2]
              rfl
end ST5
