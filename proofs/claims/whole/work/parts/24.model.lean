/-! what is heard: the model's side -/
def repM (A : tA2) (m : Nat) (kd ln : Nat → Nat) (lt : Nat → Nat → Int32) : Prop := ∀ w, w < m → A 72 w = nI (kd w) ∧ A 73 w = nI (ln w) ∧ kd w ≤ 2 ∧ 1 ≤ ln w ∧ ln w ≤ 4 ∧ ∀ j, j < ln w → A 74 (4 * w + j) = lt w j
section MD
variable {A : tA2} {B : tB2} {V : tA2} {q : tQ} {F m : Nat} {kd ln : Nat → Nat} {lt : Nat → Nat → Int32}
theorem n4 (w : Nat) : (4 : Int32) * nI w = nI (4 * w) := pk_mul 4 w
theorem x8_letterOf (hm : m ≤ 4) (h : repM A m kd ln lt) {w j fo : Nat} (hw : w < m) (hj : j < ln w) (hfo : fo ≤ 1) : x_X8_letterOf F (mk A B V q) 68 (nI w) (nI fo) (nI j) = some (fml (kd w) (ln w) (lt w) fo j) := by
  obtain ⟨a1, a2, a3, a4, a5, a6⟩ := h w hw
  have hi : inb (nI w) 4 = true := inb_nI (by omega) (by omega)
  have tw : (nI w).toNatClampNeg = w := tn (by omega)
  unfold x_X8_letterOf x_X8_letterOf_21 x_X8_letterOf_50
  rw [c_68, bs, r_68_8, bs, l_73 hi, bs, tw, a2]
  have rd : ∀ i, i < ln w → ((getR 8 (mk A B V q) 68 9).bind fun v1 => (aldI 0 (mk A B V q) v1 (((4 : Int32) * nI w) + nI i)).bind fun v2 => some v2) = some (lt w i) := by
    intro i hi2
    rw [r_68_9, bs, n4, nI_add, l_74 (inb_nI (by omega) (by omega)), bs, tn (by omega), a6 i hi2]
  by_cases h0 : fo = 0
  · subst h0
    rw [if_pos nI_0, rd j hj]
    simp [fml]
  · have ef : fo = 1 := by omega
    subst ef
    rw [if_neg (nz0 (a := 1) (by omega) (by omega)), r_68_7, bs, l_72 hi, bs, tw, a1]
    by_cases hk0 : kd w = 0
    · rw [hk0, if_pos nI_0, rd j hj]
      simp [fml]
    · rw [if_neg (nz0 hk0 (by omega)), bs, l_72 hi, bs, tw, a1]
      by_cases hk1 : kd w = 1
      · rw [hk1, if_pos e1.symm, nI_sub1 a4, pk_sub (by omega), rd _ (by omega)]
        simp [fml]
      · rw [if_neg (nz1 hk1 (by omega)), if_neg (nz0 (by omega) (by omega)), nI_1, pk_rem (by omega) (by omega) (by omega)]
        rw [rd _ (Nat.mod_lt _ (by omega))]
        simp only [fml, hk0, hk1, if_false, or_self, Nat.one_ne_zero]
        congr 2
        by_cases hl : j + 1 < ln w
        · rw [if_pos hl, Nat.mod_eq_of_lt hl]
        · rw [if_neg hl, show j + 1 = ln w by omega, Nat.mod_self]
theorem x8_ih_loop (hm : m ≤ 4) (h : repM A m kd ln lt) {w e fo : Nat} (hw : w < m) (he : e ≤ 60) (hle : ln w ≤ e) (hfo : fo ≤ 1) (k14 : Int32 → Option Int32) : ∀ (d u j : Nat), j + d = ln w → d + 1 < u → (∀ i, i < j → A 79 (e - ln w + i) = fml (kd w) (ln w) (lt w) fo i) → x_X8_isHeard_25 F k14 (mk A B V q) 68 (nI w) (nI e) (nI fo) u 1 (nI j) = x_X8_isHeard_81 F k14 (mk A B V q) 68 (nI w) (nI e) (nI fo) (cI (hFb (kd w) (ln w) (lt w) fo (A 79) (e - ln w))) := by
  obtain ⟨a1, a2, a3, a4, a5, a6⟩ := h w hw
  have hi : inb (nI w) 4 = true := inb_nI (by omega) (by omega)
  have tw : (nI w).toNatClampNeg = w := tn (by omega)
  intro d
  induction d with
  | zero =>
    intro u j hj hu hall
    obtain ⟨u, rfl⟩ : ∃ z, u = z + 1 := ⟨u - 1, by omega⟩
    show s_X8_isHeard_25 _ _ _ _ _ _ _ _ _ _ = _
    unfold s_X8_isHeard_25
    rw [r_68_8, bs, l_73 hi, bs, tw, a2, if_pos ((nI_leI (by omega) (by omega)).mpr (by omega)), show hFb (kd w) (ln w) (lt w) fo (A 79) (e - ln w) = true from hFb_iff.mpr (fun i hi => hall i (by omega))]
    rfl
  | succ d ih =>
    intro u j hj hu hall
    obtain ⟨u, rfl⟩ : ∃ z, u = z + 1 := ⟨u - 1, by omega⟩
    show s_X8_isHeard_25 _ _ _ _ _ _ _ _ _ _ = _
    unfold s_X8_isHeard_25 x_X8_isHeard_73
    rw [r_68_8, bs, l_73 hi, bs, tw, a2, if_neg (fun z => by have := (nI_leI (by omega) (by omega)).mp z; omega), if_neg (by decide), r_68_16, bs, bs, l_73 hi, bs, tw, a2, pk_sub hle, nI_add, l_79 (inb_nI (by omega) (by omega)), bs, tn (by omega), x8_letterOf hm h hw (by omega) hfo, bs, nI_1]
    by_cases e : A 79 (e - ln w + j) = fml (kd w) (ln w) (lt w) fo j
    · rw [if_pos e]
      exact ih u (j + 1) (by omega) (by omega) (fun i hi => by
        rcases Nat.lt_or_ge i j with z | z
        · exact hall i z
        · have : i = j := by omega
          rw [this]; exact e)
    · rw [if_neg e]
      rename_i e'
      have hb : hFb (kd w) (ln w) (lt w) fo (A 79) (e' - ln w) = false := by
        rw [Bool.eq_false_iff]
        intro z
        exact e (hFb_iff.mp z j (by omega))
      rw [hb]
      obtain ⟨u, rfl⟩ : ∃ z, u = z + 1 := ⟨u - 1, by omega⟩
      show s_X8_isHeard_25 _ _ _ _ _ _ _ _ _ _ = _
      unfold s_X8_isHeard_25
      rw [r_68_8, bs, l_73 hi, bs, if_pos rfl]
      by_cases z : A 73 (nI w).toNatClampNeg ≤ nI (j + 1)
      · rw [if_pos z]; rfl
      · rw [if_neg z]; rfl
theorem x8_isHeard (hm : m ≤ 4) (h : repM A m kd ln lt) {w e : Nat} (hw : w < m) (he : e ≤ 60) (hF : 7 ≤ F) : x_X8_isHeard F (mk A B V q) 68 (nI w) (nI e) = some (cI (hWb (kd w) (ln w) (lt w) (A 79) e)) := by
  obtain ⟨a1, a2, a3, a4, a5, a6⟩ := h w hw
  have hi : inb (nI w) 4 = true := inb_nI (by omega) (by omega)
  have tw : (nI w).toNatClampNeg = w := tn (by omega)
  unfold x_X8_isHeard
  rw [c_68, bs, r_68_8, bs, l_73 hi, bs, tw, a2]
  by_cases hle : ln w ≤ e
  · rw [if_pos ((nI_leI (by omega) (by omega)).mpr hle)]
    obtain ⟨u, hu⟩ : ∃ z, F = z + 3 := ⟨F - 3, by omega⟩
    have lp := fun (fo : Nat) (hfo : fo ≤ 1) (k14 : Int32 → Option Int32) => x8_ih_loop (B := B) (V := V) (q := q) (F := F) hm h hw he hle hfo k14 (ln w) F 0 (by omega) (by omega) (fun i hi => absurd hi (by omega))
    have l0 := fun k14 => lp 0 (by omega) k14
    have l1 := fun k14 => lp 1 (by omega) k14
    rw [nI_0] at l0
    simp only [nI_0, ← e1] at l1
    have x2 : x_X8_isHeard_14 F (mk A B V q) 68 (nI w) (nI e) (u + 1) 2 = some 0 := by
      show s_X8_isHeard_14 _ _ _ _ _ _ _ = _
      unfold s_X8_isHeard_14
      rw [if_pos (by decide)]
    have x1 : x_X8_isHeard_14 F (mk A B V q) 68 (nI w) (nI e) (u + 2) 1 = some (cI (hFb (kd w) (ln w) (lt w) 1 (A 79) (e - ln w))) := by
      show s_X8_isHeard_14 _ _ _ _ _ _ _ = _
      unfold s_X8_isHeard_14
      rw [if_neg (by decide), l1]
      unfold x_X8_isHeard_81
      cases hFb (kd w) (ln w) (lt w) 1 (A 79) (e - ln w)
      · rw [if_pos cI_f]; exact x2
      · rw [if_neg (by decide)]; rfl
    have x0 : x_X8_isHeard_14 F (mk A B V q) 68 (nI w) (nI e) (u + 3) 0 = some (cI (hWb (kd w) (ln w) (lt w) (A 79) e)) := by
      show s_X8_isHeard_14 _ _ _ _ _ _ _ = _
      unfold s_X8_isHeard_14
      rw [if_neg (by decide), l0]
      unfold x_X8_isHeard_81 hWb
      have hd : decide (ln w ≤ e) = true := by simp [hle]
      rw [hd]
      cases hFb (kd w) (ln w) (lt w) 0 (A 79) (e - ln w)
      · rw [if_pos cI_f]; exact x1
      · rw [if_neg (by decide)]; rfl
    have : x_X8_isHeard_14 F (mk A B V q) 68 (nI w) (nI e) F 0 = x_X8_isHeard_14 F (mk A B V q) 68 (nI w) (nI e) (u + 3) 0 := by rw [← hu]
    rw [this]
    exact x0
  · rw [if_neg (fun z => by have := (nI_leI (by omega) (by omega)).mp z; omega), hWb_lt (by omega)]
    rfl
theorem x8_hb_loop (hm : m ≤ 4) (h : repM A m kd ln lt) (hV : V 68 5 = nI m) {e : Nat} (he : e ≤ 60) (hF : 7 ≤ F) : ∀ (d u w acc : Nat), w + d = m → d < u → x_X8_heardBehind_4 F (mk A B V q) 68 (nI e) u (nI acc) (nI w) = some (nI (orF (fun w => if hWb (kd w) (ln w) (lt w) (A 79) e = true then 2 ^ w else 0) w d acc)) := by
  intro d
  induction d with
  | zero =>
    intro u w acc hw hu
    obtain ⟨u, rfl⟩ : ∃ z, u = z + 1 := ⟨u - 1, by omega⟩
    show s_X8_heardBehind_4 _ _ _ _ _ _ _ = _
    unfold s_X8_heardBehind_4
    rw [g_68_5, bs, hV, if_pos ((nI_leI (by omega) (by omega)).mpr (by omega))]
    rfl
  | succ d ih =>
    intro u w acc hw hu
    obtain ⟨u, rfl⟩ : ∃ z, u = z + 1 := ⟨u - 1, by omega⟩
    show s_X8_heardBehind_4 _ _ _ _ _ _ _ = _
    unfold s_X8_heardBehind_4 x_X8_heardBehind_29
    rw [g_68_5, bs, hV, if_neg (fun z => by have := (nI_leI (by omega) (by omega)).mp z; omega), x8_isHeard hm h (by omega) he hF, bs, nI_1]
    cases hb : hWb (kd w) (ln w) (lt w) (A 79) e
    · rw [if_pos cI_f, e0, nIor, ih u (w + 1) _ (by omega) (by omega)]
      simp [orF, hb]
    · rw [if_neg (by decide), sh4 w (by omega), nIor, ih u (w + 1) _ (by omega) (by omega)]
      simp [orF, hb]
theorem x8_heardBehind (hm : m ≤ 4) (h : repM A m kd ln lt) (hV : V 68 5 = nI m) {e : Nat} (he : e ≤ 60) (hF : 7 ≤ F) : x_X8_heardBehind F (mk A B V q) 68 (nI e) = some (nI (bitS (fun w => hWb (kd w) (ln w) (lt w) (A 79) e) m)) := by
  unfold x_X8_heardBehind
  rw [c_68, bs]
  exact x8_hb_loop hm h hV he hF m F 0 0 (by omega) (by omega)
theorem x8_th_loop (hm : m ≤ 4) (h : repM A m kd ln lt) {w t : Nat} (hw : w < m) (ht : t ≤ 60) (hV : V 68 17 = nI t) (hF : 7 ≤ F) : ∀ (d u e acc : Nat), e + d = t + 1 → d < u → acc + d < 2 ^ 30 → x_X8_timesHeard_4 F (mk A B V q) 68 (nI w) u (nI acc) (nI e) = some (nI (acc + cnt (hWb (kd w) (ln w) (lt w) (A 79)) e d)) := by
  intro d
  induction d with
  | zero =>
    intro u e acc he hu ha
    obtain ⟨u, rfl⟩ : ∃ z, u = z + 1 := ⟨u - 1, by omega⟩
    show s_X8_timesHeard_4 _ _ _ _ _ _ _ = _
    unfold s_X8_timesHeard_4
    rw [g_68_17, bs, hV, if_pos ((nI_ltI (by omega) (by omega)).mpr (by omega))]
    simp [cnt]
  | succ d ih =>
    intro u e acc he hu ha
    obtain ⟨u, rfl⟩ : ∃ z, u = z + 1 := ⟨u - 1, by omega⟩
    show s_X8_timesHeard_4 _ _ _ _ _ _ _ = _
    unfold s_X8_timesHeard_4 x_X8_timesHeard_27
    rw [g_68_17, bs, hV, if_neg (fun z => by have := (nI_ltI (by omega) (by omega)).mp z; omega), x8_isHeard hm h hw (by omega) hF, bs, nI_1, nI_1]
    cases hb : hWb (kd w) (ln w) (lt w) (A 79) e
    · rw [if_pos cI_f, e0, nI_add, ih u (e + 1) _ (by omega) (by omega) (by omega)]
      simp [cnt, hb]
    · rw [if_neg (by decide), ih u (e + 1) (acc + 1) (by omega) (by omega) (by omega)]
      simp [cnt, hb]
      congr 1
      omega
theorem x8_timesHeard (hm : m ≤ 4) (h : repM A m kd ln lt) {w t : Nat} (hw : w < m) (ht : t ≤ 60) (hV : V 68 17 = nI t) (hF : 70 ≤ F) : x_X8_timesHeard F (mk A B V q) 68 (nI w) = some (nI (cnt (hWb (kd w) (ln w) (lt w) (A 79)) 1 t)) := by
  unfold x_X8_timesHeard
  rw [c_68, bs]
  have := x8_th_loop (B := B) (q := q) hm h hw ht hV (by omega : 7 ≤ F) t F 1 0 (by omega) (by omega) (by omega)
  rw [nI_0, ← e1] at this
  rw [this]
  simp
theorem x8_af_loop (hm : m ≤ 4) (h : repM A m kd ln lt) {w : Nat} (hw : w < m) : ∀ (d u j : Nat), j + d = ln w → d < u → x_X8_areForms_2 F (mk A B V q) 68 (nI w) u (nI j) = some (cI (anyF (fun j => !(fml (kd w) (ln w) (lt w) 0 j == fml (kd w) (ln w) (lt w) 1 j)) j d)) := by
  obtain ⟨a1, a2, a3, a4, a5, a6⟩ := h w hw
  have hi : inb (nI w) 4 = true := inb_nI (by omega) (by omega)
  have tw : (nI w).toNatClampNeg = w := tn (by omega)
  intro d
  induction d with
  | zero =>
    intro u j hj hu
    obtain ⟨u, rfl⟩ : ∃ z, u = z + 1 := ⟨u - 1, by omega⟩
    show s_X8_areForms_2 _ _ _ _ _ _ = _
    unfold s_X8_areForms_2
    rw [r_68_8, bs, l_73 hi, bs, tw, a2, if_pos ((nI_leI (by omega) (by omega)).mpr (by omega))]
    rfl
  | succ d ih =>
    intro u j hj hu
    obtain ⟨u, rfl⟩ : ∃ z, u = z + 1 := ⟨u - 1, by omega⟩
    show s_X8_areForms_2 _ _ _ _ _ _ = _
    unfold s_X8_areForms_2
    have l0 := x8_letterOf (B := B) (V := V) (q := q) (F := F) (fo := 0) hm h hw (show j < ln w by omega) (by omega)
    have l1 := x8_letterOf (B := B) (V := V) (q := q) (F := F) (fo := 1) hm h hw (show j < ln w by omega) (by omega)
    rw [nI_0] at l0
    rw [← e1] at l1
    rw [r_68_8, bs, l_73 hi, bs, tw, a2, if_neg (fun z => by have := (nI_leI (by omega) (by omega)).mp z; omega), l0, bs, l1, bs, nI_1]
    by_cases e : fml (kd w) (ln w) (lt w) 0 j = fml (kd w) (ln w) (lt w) 1 j
    · rw [if_pos e, ih u (j + 1) (by omega) (by omega)]
      simp [anyF, e]
    · rw [if_neg e]
      simp [anyF, e, cI]
theorem x8_areForms (hm : m ≤ 4) (h : repM A m kd ln lt) {w : Nat} (hw : w < m) (hF : 6 ≤ F) : x_X8_areForms F (mk A B V q) 68 (nI w) = some (cI (anyF (fun j => !(fml (kd w) (ln w) (lt w) 0 j == fml (kd w) (ln w) (lt w) 1 j)) 0 (ln w))) := by
  have hn := (h w hw).2.2.2.2.1
  unfold x_X8_areForms
  rw [c_68, bs]
  exact x8_af_loop hm h hw (ln w) F 0 (by omega) (by omega)
end MD
