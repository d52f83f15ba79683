/-! counts: the model's side -/
def kM (m : Nat) (W : tW) (t k : Nat) : Nat := kW (fun r => ind (XM m W r) k) t 0
theorem kM_lt {m : Nat} {W : tW} {t k : Nat} (ht : t ≤ 30) : kM m W t k < 2 ^ 63 := by
  have a := kW_le (f := fun r => ind (XM m W r) k) (fun r => ind_le _ _) t 0
  have b := pow3_le ht
  unfold kM
  omega
theorem kM_step {m : Nat} {W : tW} (h : okL m W) (t i : Nat) : kM m W (t + 1) i = smF (fun k => (ind (TM m W k 0) i + ind (TM m W k 1) i + ind (TM m W k 2) i) * kM m W t k) 0 640 :=
  kW_step (X := XM m W) (T := TM m W) (K := 640) (fun r => XM_lt h.1 r) (fun r c hc => XM_bh h r c hc) i t
section WY
variable {V : tA2} {q : tQ} {F : Nat} {A : tA2}
theorem fw_init {n : Nat} : ∀ (d u k : Nat) (B : tB2), k + d = 640 → d < u → (∀ i, i < k → B 83 i = lN (ind 0 i)) → ∃ B', x_X8_findWays_6 F 68 (nI n) u (mk A B V q) (nI k) = x_X8_findWays_36 F 68 (nI n) F (mk A B' V q) 0 ∧ (∀ P, P ≠ 83 → B' P = B P) ∧ ∀ i, i < 640 → B' 83 i = lN (ind 0 i) := by
  intro d
  induction d with
  | zero =>
    intro u k B hk hu hb
    obtain ⟨u, rfl⟩ : ∃ z, u = z + 1 := ⟨u - 1, by omega⟩
    refine ⟨B, ?_, fun _ _ => rfl, fun i hi => hb i (by omega)⟩
    show s_X8_findWays_6 _ _ _ _ _ _ = _
    unfold s_X8_findWays_6
    rw [show k = 640 by omega, if_pos (by decide)]
  | succ d ih =>
    intro u k B hk hu hb
    obtain ⟨u, rfl⟩ : ∃ z, u = z + 1 := ⟨u - 1, by omega⟩
    obtain ⟨B', e1, e2, e3⟩ := ih u (k + 1) (u2 B 83 k (lN (ind 0 k))) (by omega) (by omega) (fun i hi => by
      by_cases e : i = k
      · subst e; rw [u2_s]
      · rw [u2_k _ _ e]; exact hb i (by omega))
    refine ⟨B', ?_, fun P hP => by rw [e2 P hP, u2_pp _ _ hP], e3⟩
    show s_X8_findWays_6 _ _ _ _ _ _ = _
    unfold s_X8_findWays_6 x_X8_findWays_27
    rw [if_neg (show ¬ (640 : Int32) ≤ nI k from fun z => by have := (nI_leI (a := 640) (by omega) (by omega)).mp z; omega), r_68_21, bs]
    by_cases e : k = 0
    · rw [if_pos (by rw [e]; rfl), s_83 (inb_nI (by omega) (by omega)), bs, tn (by omega), nI_1]
      have : (1 : Int64) = lN (ind 0 k) := by rw [e]; rfl
      rw [this]
      exact e1
    · rw [if_neg (nz0 e (by omega)), s_83 (inb_nI (by omega) (by omega)), bs, tn (by omega), nI_1]
      have : (0 : Int64) = lN (ind 0 k) := by unfold ind; rw [if_neg (fun z => e z.symm)]; rfl
      rw [this]
      exact e1
theorem fw_clear {n t : Nat} (k36 : pH → Int32 → Option pH) : ∀ (d u k : Nat) (B : tB2), k + d = 640 → d < u → (∀ i, i < k → B 84 i = lN 0) → ∃ B', x_X8_findWays_43 F k36 68 (nI n) (nI t) u (mk A B V q) (nI k) = x_X8_findWays_65 F k36 68 (nI n) (nI t) F (mk A B' V q) 0 ∧ (∀ P, P ≠ 84 → B' P = B P) ∧ ∀ i, i < 640 → B' 84 i = lN 0 := by
  intro d
  induction d with
  | zero =>
    intro u k B hk hu hb
    obtain ⟨u, rfl⟩ : ∃ z, u = z + 1 := ⟨u - 1, by omega⟩
    refine ⟨B, ?_, fun _ _ => rfl, fun i hi => hb i (by omega)⟩
    show s_X8_findWays_43 _ _ _ _ _ _ _ _ = _
    unfold s_X8_findWays_43
    rw [show k = 640 by omega, if_pos (by decide)]
  | succ d ih =>
    intro u k B hk hu hb
    obtain ⟨u, rfl⟩ : ∃ z, u = z + 1 := ⟨u - 1, by omega⟩
    obtain ⟨B', e1, e2, e3⟩ := ih u (k + 1) (u2 B 84 k 0) (by omega) (by omega) (fun i hi => by
      by_cases e : i = k
      · subst e; rw [u2_s]; rfl
      · rw [u2_k _ _ e]; exact hb i (by omega))
    refine ⟨B', ?_, fun P hP => by rw [e2 P hP, u2_pp _ _ hP], e3⟩
    show s_X8_findWays_43 _ _ _ _ _ _ _ _ = _
    unfold s_X8_findWays_43
    rw [if_neg (show ¬ (640 : Int32) ≤ nI k from fun z => by have := (nI_leI (a := 640) (by omega) (by omega)).mp z; omega), r_68_22, bs, s_84 (inb_nI (by omega) (by omega)), bs, tn (by omega), nI_1]
    exact e1
theorem fw_in {m : Nat} {W : tW} (hm : m ≤ 4) (hN : netM A m W 40) {n t k x : Nat} (hk : k < 640) (hx : x < 2 ^ 63) (k36 k65 : pH → Int32 → Option pH) : ∀ (d u c : Nat) (B : tB2) (b : Nat → Nat), c + d = 3 → d < u → B 83 k = lN x → (∀ i, i < 640 → B 84 i = lN (b i)) → ∃ B', x_X8_findWays_75 F k36 k65 68 (nI n) (nI t) (nI k) u (mk A B V q) (nI c) = k65 (mk A B' V q) (nI (k + 1)) ∧ (∀ P, P ≠ 84 → B' P = B P) ∧ ∀ i, i < 640 → B' 84 i = lN (b i + smF (fun c => ind (TM m W k c) i * x) c d) := by
  have hi6 : inb (nI k) 640 = true := inb_nI hk (by omega)
  have tk : (nI k).toNatClampNeg = k := tn (by omega)
  intro d
  induction d with
  | zero =>
    intro u c B b hc hu h83 hb
    obtain ⟨u, rfl⟩ : ∃ z, u = z + 1 := ⟨u - 1, by omega⟩
    refine ⟨B, ?_, fun _ _ => rfl, fun i hi => by simp only [smF, Nat.add_zero]; exact hb i hi⟩
    show s_X8_findWays_75 _ _ _ _ _ _ _ _ _ _ = _
    unfold s_X8_findWays_75 x_X8_findWays_119
    rw [show c = 3 by omega, if_pos (by decide), nI_1]
  | succ d ih =>
    intro u c B b hc hu h83 hb
    obtain ⟨u, rfl⟩ : ∃ z, u = z + 1 := ⟨u - 1, by omega⟩
    by_cases x0 : x = 0
    · refine ⟨B, ?_, fun _ _ => rfl, fun i hi => ?_⟩
      · show s_X8_findWays_75 _ _ _ _ _ _ _ _ _ _ = _
        unfold s_X8_findWays_75 x_X8_findWays_119
        rw [if_neg (show ¬ (3 : Int32) ≤ nI c from fun z => by have := (nI_leI (a := 3) (by omega) (by omega)).mp z; omega), r_68_21, bs, l_83 hi6, bs, tk, h83, if_pos ((lN_le0 hx).mpr x0), nI_1]
      · rw [smF_congr (s' := fun _ => 0) (d + 1) c (fun j _ _ => by rw [x0, Nat.mul_zero]), smF_z, Nat.add_zero]
        exact hb i hi
    · have t2 := TM_lt hm (W := W) k c
      obtain ⟨B', e1, e2, e3⟩ := ih u (c + 1) (u2 B 84 (TM m W k c) (lN (b (TM m W k c) + x))) (fun i => b i + ind (TM m W k c) i * x) (by omega) (by omega) (by rw [u2_p _ _ (by omega)]; exact h83) (fun i hi => by
        by_cases e : i = TM m W k c
        · subst e; rw [u2_s, show ind (TM m W k c) (TM m W k c) = 1 by unfold ind; rw [if_pos rfl], Nat.one_mul]
        · rw [u2_k _ _ e, show ind (TM m W k c) i = 0 by unfold ind; rw [if_neg (fun z => e z.symm)], Nat.zero_mul, Nat.add_zero]; exact hb i hi)
      refine ⟨B', ?_, fun P hP => by rw [e2 P hP, u2_pp _ _ hP], fun i hi => ?_⟩
      · show s_X8_findWays_75 _ _ _ _ _ _ _ _ _ _ = _
        unfold s_X8_findWays_75
        rw [if_neg (show ¬ (3 : Int32) ≤ nI c from fun z => by have := (nI_leI (a := 3) (by omega) (by omega)).mp z; omega), r_68_21, bs, l_83 hi6, bs, tk, h83, if_neg (fun z => x0 ((lN_le0 hx).mp z)), r_68_22, bs, x8_behindLetter hm hN hk (by omega), bs, l_84 (inb_nI t2 (by omega)), bs, tn (by omega), hb _ t2, bs, l_83 hi6, bs, tk, h83, lN_add, s_84 (inb_nI t2 (by omega)), bs, tn (by omega), nI_1]
        exact e1
      · rw [e3 i hi]
        simp only [smF]
        rw [Nat.add_assoc]
theorem fw_scat {m : Nat} {W : tW} (hm : m ≤ 4) (hN : netM A m W 40) {n t : Nat} {D : Nat → Nat} (hDb : ∀ k, D k < 2 ^ 63) (hF : 10 ≤ F) (k36 : pH → Int32 → Option pH) : ∀ (d u k : Nat) (B : tB2) (b : Nat → Nat), k + d = 640 → d < u → (∀ i, i < 640 → B 83 i = lN (D i)) → (∀ i, i < 640 → B 84 i = lN (b i)) → ∃ B', x_X8_findWays_65 F k36 68 (nI n) (nI t) u (mk A B V q) (nI k) = x_X8_findWays_127 F k36 68 (nI n) (nI t) F (mk A B' V q) 0 ∧ (∀ P, P ≠ 84 → B' P = B P) ∧ ∀ i, i < 640 → B' 84 i = lN (b i + smF (fun k => smF (fun c => ind (TM m W k c) i * D k) 0 3) k d) := by
  intro d
  induction d with
  | zero =>
    intro u k B b hk hu hD hb
    obtain ⟨u, rfl⟩ : ∃ z, u = z + 1 := ⟨u - 1, by omega⟩
    refine ⟨B, ?_, fun _ _ => rfl, fun i hi => by simp only [smF, Nat.add_zero]; exact hb i hi⟩
    show s_X8_findWays_65 _ _ _ _ _ _ _ _ = _
    unfold s_X8_findWays_65
    rw [show k = 640 by omega, if_pos (by decide)]
  | succ d ih =>
    intro u k B b hk hu hD hb
    obtain ⟨u, rfl⟩ : ∃ z, u = z + 1 := ⟨u - 1, by omega⟩
    obtain ⟨B1, e1, e2, e3⟩ := fw_in (F := F) (V := V) (q := q) (n := n) (t := t) (k := k) (x := D k) hm hN (by omega) (hDb k) k36 (x_X8_findWays_65 F k36 68 (nI n) (nI t) u) 3 F 0 B b (by omega) (by omega) (hD k (by omega)) hb
    obtain ⟨B', i1, i2, i3⟩ := ih u (k + 1) B1 (fun i => b i + smF (fun c => ind (TM m W k c) i * D k) 0 3) (by omega) (by omega) (fun i hi => by rw [e2 _ (by omega)]; exact hD i hi) e3
    refine ⟨B', ?_, fun P hP => by rw [i2 P hP, e2 P hP], fun i hi => ?_⟩
    · show s_X8_findWays_65 _ _ _ _ _ _ _ _ = _
      unfold s_X8_findWays_65
      rw [if_neg (show ¬ (640 : Int32) ≤ nI k from fun z => by have := (nI_leI (a := 640) (by omega) (by omega)).mp z; omega)]
      rw [nI_0] at e1
      rw [e1]
      exact i1
    · rw [i3 i hi]
      simp only [smF]
      rw [Nat.add_assoc]
theorem fw_copy {n t : Nat} (k36 : pH → Int32 → Option pH) : ∀ (d u k : Nat) (B : tB2), k + d = 640 → d < u → (∀ i, i < k → B 83 i = B 84 i) → ∃ B', x_X8_findWays_127 F k36 68 (nI n) (nI t) u (mk A B V q) (nI k) = k36 (mk A B' V q) (nI (t + 1)) ∧ (∀ P, P ≠ 83 → B' P = B P) ∧ ∀ i, i < 640 → B' 83 i = B 84 i := by
  intro d
  induction d with
  | zero =>
    intro u k B hk hu hb
    obtain ⟨u, rfl⟩ : ∃ z, u = z + 1 := ⟨u - 1, by omega⟩
    refine ⟨B, ?_, fun _ _ => rfl, fun i hi => hb i (by omega)⟩
    show s_X8_findWays_127 _ _ _ _ _ _ _ _ = _
    unfold s_X8_findWays_127
    rw [show k = 640 by omega, if_pos (by decide), nI_1]
  | succ d ih =>
    intro u k B hk hu hb
    obtain ⟨u, rfl⟩ : ∃ z, u = z + 1 := ⟨u - 1, by omega⟩
    have hi6 : inb (nI k) 640 = true := inb_nI (by omega) (by omega)
    obtain ⟨B', e1, e2, e3⟩ := ih u (k + 1) (u2 B 83 k (B 84 k)) (by omega) (by omega) (fun i hi => by
      rw [u2_p (p' := 84) _ _ (by omega)]
      by_cases e : i = k
      · subst e; rw [u2_s]
      · rw [u2_k _ _ e]; exact hb i (by omega))
    rw [u2_pp (p' := 84) _ _ (by omega)] at e3
    refine ⟨B', ?_, fun P hP => by rw [e2 P hP, u2_pp _ _ hP], e3⟩
    show s_X8_findWays_127 _ _ _ _ _ _ _ _ = _
    unfold s_X8_findWays_127
    rw [if_neg (show ¬ (640 : Int32) ≤ nI k from fun z => by have := (nI_leI (a := 640) (by omega) (by omega)).mp z; omega), r_68_21, bs, r_68_22, bs, l_84 hi6, bs, s_83 hi6, bs, tn (by omega), nI_1]
    exact e1
theorem fw_step {m : Nat} {W : tW} (h : okL m W) (hN : netM A m W 40) {n : Nat} (hn : n ≤ 30) (hF : 700 ≤ F) : ∀ (d u t : Nat) (B : tB2), t + d = n → d < u → (∀ i, i < 640 → B 83 i = lN (kM m W t i)) → ∃ B', x_X8_findWays_36 F 68 (nI n) u (mk A B V q) (nI t) = some (mk A B' V q) ∧ (∀ P, P ≠ 83 → P ≠ 84 → B' P = B P) ∧ ∀ i, i < 640 → B' 83 i = lN (kM m W n i) := by
  have hm := h.1
  intro d
  induction d with
  | zero =>
    intro u t B ht hu hb
    obtain ⟨u, rfl⟩ : ∃ z, u = z + 1 := ⟨u - 1, by omega⟩
    refine ⟨B, ?_, fun _ _ _ => rfl, by rw [show n = t by omega]; exact hb⟩
    show s_X8_findWays_36 _ _ _ _ _ _ = _
    unfold s_X8_findWays_36
    rw [if_pos ((nI_leI (by omega) (by omega)).mpr (by omega))]
  | succ d ih =>
    intro u t B ht hu hb
    obtain ⟨u, rfl⟩ : ∃ z, u = z + 1 := ⟨u - 1, by omega⟩
    obtain ⟨B1, a1, a2, a3⟩ := fw_clear (F := F) (A := A) (V := V) (q := q) (n := n) (t := t) (x_X8_findWays_36 F 68 (nI n) u) 640 F 0 B (by omega) (by omega) (fun i hi => by omega)
    obtain ⟨B2, b1, b2, b3⟩ := fw_scat (F := F) (V := V) (q := q) (n := n) (t := t) (D := kM m W t) hm hN (fun k => kM_lt (by omega)) (by omega) (x_X8_findWays_36 F 68 (nI n) u) 640 F 0 B1 (fun _ => 0) (by omega) (by omega) (fun i hi => by rw [a2 _ (by omega)]; exact hb i hi) a3
    obtain ⟨B3, c1, c2, c3⟩ := fw_copy (F := F) (A := A) (V := V) (q := q) (n := n) (t := t) (x_X8_findWays_36 F 68 (nI n) u) 640 F 0 B2 (by omega) (by omega) (fun i hi => by omega)
    obtain ⟨B', i1, i2, i3⟩ := ih u (t + 1) B3 (by omega) (by omega) (fun i hi => by
      rw [c3 i hi, b3 i hi, kM_step h, Nat.zero_add]
      refine congrArg lN (smF_congr 640 0 (fun k _ _ => ?_))
      show ind (TM m W k 0) i * kM m W t k + (ind (TM m W k 1) i * kM m W t k + (ind (TM m W k 2) i * kM m W t k + 0)) = _
      rw [Nat.add_mul, Nat.add_mul]
      omega)
    refine ⟨B', ?_, fun P h1 h2 => by rw [i2 P h1 h2, c2 P h1, b2 P h2, a2 P h2], i3⟩
    show s_X8_findWays_36 _ _ _ _ _ _ = _
    unfold s_X8_findWays_36
    rw [if_neg (fun z => by have := (nI_leI (by omega) (by omega)).mp z; omega)]
    rw [nI_0] at a1 b1 c1
    rw [a1, b1, c1]
    exact i1
theorem x8_findWays {B : tB2} {m : Nat} {W : tW} (h : okL m W) (hV : V 68 5 = nI m) (hM : repM A m W.1 W.2.1 W.2.2) {n : Nat} (hn : n ≤ 30) (hF : 700 ≤ F) : ∃ A' B', x_X8_findWays F (mk A B V q) 68 (nI n) = some (mk A' B' V q) ∧ agM A A' ∧ (∀ P, P ≠ 83 → P ≠ 84 → B' P = B P) ∧ ∀ i, i < 640 → B' 83 i = lN (kM m W n i) := by
  obtain ⟨A1, a1, a2, a3⟩ := x8_findNext (B := B) (V := V) (q := q) (F := F) h hV hM (by omega)
  obtain ⟨B1, b1, b2, b3⟩ := fw_init (F := F) (A := A1) (V := V) (q := q) (n := n) 640 F 0 B (by omega) (by omega) (fun i hi => by omega)
  have x0 : XM m W 0 = 0 := by unfold XM; rw [sx_0, ST_0]
  obtain ⟨B2, c1, c2, c3⟩ := fw_step (F := F) (V := V) (q := q) h a3 hn hF n F 0 B1 (by omega) (by omega) (fun i hi => by
    rw [b3 i hi]
    show _ = lN (ind (XM m W 0) i)
    rw [x0])
  refine ⟨A1, B2, ?_, a2, fun P h1 h2 => by rw [c2 P h1 h2, b2 P h1], c3⟩
  unfold x_X8_findWays
  rw [nI_0] at b1 c1
  rw [c_68, bs, a1, bs, b1, c1]
theorem ww_loop {B : tB2} {D : Nat → Nat} {s : Nat} (hs : s < 16) (hD : ∀ i, i < 640 → B 83 i = lN (D i)) : ∀ (d u e acc : Nat), e + d = 40 → d < u → x_X8_waysWith_5 F (mk A B V q) 68 (nI s) u (lN acc) (nI e) = some (lN (acc + smF (fun e => D (16 * e + s)) e d)) := by
  intro d
  induction d with
  | zero =>
    intro u e acc he hu
    obtain ⟨u, rfl⟩ : ∃ z, u = z + 1 := ⟨u - 1, by omega⟩
    show s_X8_waysWith_5 _ _ _ _ _ _ _ = _
    unfold s_X8_waysWith_5
    rw [show e = 40 by omega, if_pos (by decide)]
    rfl
  | succ d ih =>
    intro u e acc he hu
    obtain ⟨u, rfl⟩ : ∃ z, u = z + 1 := ⟨u - 1, by omega⟩
    show s_X8_waysWith_5 _ _ _ _ _ _ _ = _
    unfold s_X8_waysWith_5
    rw [if_neg (show ¬ (40 : Int32) ≤ nI e from fun z => by have := (nI_leI (a := 40) (by omega) (by omega)).mp z; omega), r_68_21, bs, n16, nI_add, l_83 (inb_nI (by omega) (by omega)), bs, tn (by omega), hD _ (by omega), lN_add, nI_1, ih u (e + 1) _ (by omega) (by omega)]
    simp only [smF]
    rw [Nat.add_assoc]
theorem ww_sum {m : Nat} (hm : m ≤ 4) {W : tW} {s : Nat} (hs : s < 16) (t : Nat) : smF (fun e => kM m W t (16 * e + s)) 0 40 = kW (fun r => ind (ST m W r) s) t 0 := by
  have e : (fun r => ind (ST m W r) s) = (fun r => smF (fun e => ind (XM m W r) (16 * e + s)) 0 40) := by
    funext r
    have a := sx_le 3 r
    have b := ST_lt hm (W := W) r
    simp only [lo] at a
    have c : (fun e => ind (XM m W r) (16 * e + s)) = (fun e => ind (ST m W r) s * ind (sx 3 r) e) := by
      funext e
      unfold ind XM
      by_cases z1 : ST m W r = s
      · by_cases z2 : sx 3 r = e
        · rw [if_pos (by omega), if_pos z1, if_pos z2]
        · rw [if_neg (by omega), if_pos z1, if_neg z2]
      · rw [if_neg (by omega), if_neg z1, Nat.zero_mul]
    rw [c, smF_pick (fun _ => ind (ST m W r) s), if_pos (by omega)]
  rw [e, kW_sm (fun e r => ind (XM m W r) (16 * e + s))]
  rfl
theorem x8_waysWith {B : tB2} {m : Nat} (hm : m ≤ 4) {W : tW} {s t : Nat} (hs : s < 16) (hD : ∀ i, i < 640 → B 83 i = lN (kM m W t i)) (hF : 60 ≤ F) : x_X8_waysWith F (mk A B V q) 68 (nI s) = some (lN (kW (fun r => ind (ST m W r) s) t 0)) := by
  unfold x_X8_waysWith
  have := ww_loop (F := F) (A := A) (V := V) (q := q) (s := s) hs hD 40 F 0 0 (by omega) (by omega)
  rw [Nat.zero_add, ww_sum hm hs] at this
  rw [c_68, bs]
  exact this
theorem x8_allWords {B : tB2} {m : Nat} (hm : m ≤ 4) (hV : V 68 5 = nI m) : x_X8_allWords F (mk A B V q) 68 = some (nI (fll m)) := by
  unfold x_X8_allWords
  rw [c_68, bs, g_68_5, bs, hV, full4 hm]
  rfl
end WY
section ST14
variable {F : Nat}
theorem x7_isCounted {h : pH} {a : Int32} : x_X7_isCounted F h a = some (cI (inb a 31)) := by
  unfold x_X7_isCounted
  refine Eq.trans (ifR (c := 30) (by omega) _ _) ?_
  cases inb a 31
  · rfl
  · rfl
/-- renewed and counted on: what have, free, odds share on the row's side -/
theorem x7_counted {A V : tA2} {B : tB2} {q : tQ} {m n : Nat} {kd ln : Nat → Nat} {lt : Nat → Nat → Int32} (h1 : 1 ≤ m) (hn : n ≤ 30) (hI : InvW NOp SSp A B V q m kd ln lt) (hF : 700 ≤ F) : okL m (kd, ln, lt) ∧ ∃ A1 B1 V1 A2 B2 V2 q2, x_X7_renewNet F (mk A B V q) 0 = some (mk A1 B1 V1 q) ∧ x_X0_countTo F (mk A1 B1 V1 q) 39 33 (nI n) = some (mk A2 B2 V2 q2) ∧ InvW NOp SSp A2 B2 V2 q2 m kd ln lt ∧ B2 40 n = lN (kA m (kd, ln, lt) n) ∧ B2 41 n = lN (kN m (kd, ln, lt) n) := by
  obtain ⟨h, A1, B1, V1, e1, I1, N1, v14⟩ := x7_renewNet (F := F) h1 hI hF
  refine ⟨h, A1, B1, V1, ?_⟩
  obtain ⟨n0, n1, n2, n3, n4, n5⟩ := N1
  obtain ⟨hq, hW, hS, hZ, hR, hT, hSS, hN⟩ := I1
  obtain ⟨B2, V2, q2, c1, c2, c3, c4, c5, c6, c7, ct, c8, c9, c10⟩ := x0_countTo (F := F) h h1 hn (by omega) hq n3 n4
  have no : NOp A1 B2 V2 q2 m kd ln lt := by
    refine ⟨n0, by rw [c3 _ (by omega)]; exact n1, n2, ?_, c7, c4⟩
    obtain ⟨many, rw, wp, D, d1, d2⟩ := n3
    refine ⟨many, rw, wp, D, d1, ?_⟩
    rw [c3 _ (by omega)]
    exact d2
  have cc : B2 40 n = lN (kA m (kd, ln, lt) n) ∧ B2 41 n = lN (kN m (kd, ln, lt) n) := by
    obtain ⟨many, ct', x1, x2, x3, x4, x5, x6⟩ := c7
    rw [c8] at x4
    have := (nI_eq (by omega) (by omega)).mp x4
    exact x5 n (by omega)
  refine ⟨A1, B2, V2, q2, e1, c1, ⟨c4, ?_, SI_c hS (fun p h1 h2 => ⟨rfl, c3 p (by omega)⟩) rfl rfl rfl, ZI_c hZ rfl rfl (by rw [c3 _ (by omega)]) (by rw [c3 _ (by omega)]), RI_c hR (fun p h1 h2 => ⟨rfl, c3 p (by omega)⟩) (fun _ _ _ => rfl) (by rw [c3 _ (by omega)]) (by rw [c3 _ (by omega)]), TI_c hT (by rw [c3 _ (by omega)]) (by rw [c3 _ (by omega)]) (by rw [c3 _ (by omega)]) (by rw [c3 _ (by omega)]), hSS, Or.inr ⟨by rw [c3 _ (by omega)]; exact v14, no⟩⟩, cc.1, cc.2⟩
  have w := WI_c (q := q) hW hq (A' := A1) (V' := V2) (fun p h1 h2 => ⟨rfl, c3 p (by omega)⟩) rfl rfl rfl (by rw [c3 _ (by omega)]) (by rw [c3 _ (by omega)])
  obtain ⟨w1, w2, w3, w4, w5, w6⟩ := w
  exact ⟨w1, w2, w3, by rw [c5]; exact w4, w5, w6⟩
theorem inv_ways {A V A' : tA2} {B B' : tB2} {q : tQ} {m : Nat} {kd ln : Nat → Nat} {lt : Nat → Nat → Int32} (hI : InvW NOp SSp A B V q m kd ln lt) (h1 : agM A A') (h2 : ∀ P, P ≠ 83 → P ≠ 84 → B' P = B P) : InvW NOp SSp A' B' V q m kd ln lt :=
  inv_scr NO_f hI (fun p hp => h1 p (fun z => hp (by unfold scrA; omega))) h2 (fun _ _ _ => rfl)
theorem step_have (hF : 700 ≤ F) : st_have (InvH NOp SSp) F := by
  intro h a1 hI
  obtain ⟨A, B, V, q, m, kd, ln, lt, rfl, hI⟩ := hI
  obtain ⟨hm, v1, v2, hX, hM, hL⟩ := id hI.2.1
  have self : InvH NOp SSp (mk A B V q) := ⟨A, B, V, q, m, kd, ln, lt, rfl, hI⟩
  have w30 : ∀ {h : pH}, x_X8_within F h a1 0 30 = some (cI (inb a1 31)) := x8_within (n := 31) rfl
  unfold x_X7_have x_X8_have
  simp only [c_0, c_68, bs, x7_isCounted, w30]
  cases hb : inb a1 31
  · simp only [if_pos cI_f]
    exact ⟨(_, _), (_, _), rfl, rfl, rfl, self⟩
  · simp only [if_neg (show ¬ cI true = 0 by decide), g_0_3, bs, v1]
    by_cases h0 : m = 0
    · simp only [if_pos (show nI m = 0 by rw [h0]; rfl)]
      refine ⟨(_, _), (_, _), rfl, ?_, rfl, self⟩
      rw [c_68, bs, g_68_5, bs, v2, if_pos (show nI m = 0 by rw [h0]; rfl)]
    · simp only [if_neg (nz0 h0 (by omega))]
      obtain ⟨n, hn, rfl⟩ := inb_ex hb (by omega)
      obtain ⟨ok, A1, B1, V1, A2, B2, V2, q2, e1, e2, I2, b40, b41⟩ := x7_counted (F := F) (n := n) (by omega) (by omega) hI hF
      obtain ⟨-, -, y2, -, yM, -⟩ := id I2.2.1
      obtain ⟨A3, B3, f1, f2, f3, f4⟩ := x8_findWays (F := F) (A := A2) (B := B2) (V := V2) (q := q2) ok y2 yM (n := n) (by omega) hF
      refine ⟨(lN (kA m (kd, ln, lt) n), mk A2 B2 V2 q2), (lN (kA m (kd, ln, lt) n), mk A3 B3 V2 q2), ?_, ?_, rfl, A3, B3, V2, q2, m, kd, ln, lt, rfl, inv_ways I2 f2 f3⟩
      · rw [e1, bs, r_0_13, bs, r_0_12, bs, e2, bs, r_0_13, bs, r_39_0, bs, l_40 (inb_nI (by omega) (by omega)), bs, tn (by omega), b40]
      · dsimp only
        rw [c_68, bs, g_68_5, bs, y2, if_neg (nz0 h0 (by omega)), f1, bs, x8_allWords hm y2, bs, x8_waysWith hm (fll_lt hm) f4 (by omega), bs]
        rfl
theorem step_free (hF : 700 ≤ F) : st_free (InvH NOp SSp) F := by
  intro h a1 hI
  obtain ⟨A, B, V, q, m, kd, ln, lt, rfl, hI⟩ := hI
  obtain ⟨hm, v1, v2, hX, hM, hL⟩ := id hI.2.1
  have self : InvH NOp SSp (mk A B V q) := ⟨A, B, V, q, m, kd, ln, lt, rfl, hI⟩
  have w30 : ∀ {h : pH}, x_X8_within F h a1 0 30 = some (cI (inb a1 31)) := x8_within (n := 31) rfl
  unfold x_X7_free x_X8_free
  simp only [c_0, c_68, bs, x7_isCounted, w30]
  cases hb : inb a1 31
  · simp only [if_pos cI_f]
    exact ⟨(_, _), (_, _), rfl, rfl, rfl, self⟩
  · simp only [if_neg (show ¬ cI true = 0 by decide), g_0_3, bs, v1]
    by_cases h0 : m = 0
    · simp only [if_pos (show nI m = 0 by rw [h0]; rfl)]
      refine ⟨(_, _), (_, _), rfl, ?_, rfl, self⟩
      rw [c_68, bs, g_68_5, bs, v2, if_pos (show nI m = 0 by rw [h0]; rfl)]
    · simp only [if_neg (nz0 h0 (by omega))]
      obtain ⟨n, hn, rfl⟩ := inb_ex hb (by omega)
      obtain ⟨ok, A1, B1, V1, A2, B2, V2, q2, e1, e2, I2, b40, b41⟩ := x7_counted (F := F) (n := n) (by omega) (by omega) hI hF
      obtain ⟨-, -, y2, -, yM, -⟩ := id I2.2.1
      obtain ⟨A3, B3, f1, f2, f3, f4⟩ := x8_findWays (F := F) (A := A2) (B := B2) (V := V2) (q := q2) ok y2 yM (n := n) (by omega) hF
      refine ⟨(lN (kN m (kd, ln, lt) n), mk A2 B2 V2 q2), (lN (kN m (kd, ln, lt) n), mk A3 B3 V2 q2), ?_, ?_, rfl, A3, B3, V2, q2, m, kd, ln, lt, rfl, inv_ways I2 f2 f3⟩
      · rw [e1, bs, r_0_13, bs, r_0_12, bs, e2, bs, r_0_13, bs, r_39_1, bs, l_41 (inb_nI (by omega) (by omega)), bs, tn (by omega), b41]
      · dsimp only
        have ww := x8_waysWith (F := F) (A := A3) (V := V2) (q := q2) hm (s := 0) (by omega) f4 (by omega)
        rw [nI_0] at ww
        rw [c_68, bs, g_68_5, bs, y2, if_neg (nz0 h0 (by omega)), f1, bs, ww, bs]
        rfl
end ST14
