/-! counts: the row's side -/
theorem lN_le0 {x : Nat} (h : x < 2 ^ 63) : (lg_cmp (lN x) 0 ≤ 0) ↔ x = 0 := by
  rw [lg_cmp_le, Int64.le_iff_toInt_le, lNt h]
  have : (0 : Int64).toInt = 0 := rfl
  rw [this]
  omega
def ptA (m : Nat) (W : tW) (A : tA2) (r : Nat) : Nat := (A 34 (PP m W r)).toNatClampNeg
def tA37 (A : tA2) (p c : Nat) : Nat := (A 37 (3 * p + c)).toNatClampNeg
theorem pt_ok {m : Nat} {W : tW} (h : okL m W) (h1 : 1 ≤ m) {A : tA2} {many : Nat} {rw : Nat → Nat} (hB : BI m W A many (3 * many) rw) : (∀ r, ptA m W A r < many ∧ A 35 (ptA m W A r) = nI (PP m W r)) ∧ (∀ r c, c < 3 → ptA m W A (bh r c) = tA37 A (ptA m W A r) c) ∧ (∀ p c, p < many → c < 3 → A 37 (3 * p + c) = nI (tA37 A p c) ∧ tA37 A p c < many) := by
  have hall := bi_all h h1 hB
  obtain ⟨b1, b2, b3, b4, b5, b6, b7, b8⟩ := id hB
  have pt : ∀ r j, j < many → PP m W (rw j) = PP m W r → ptA m W A r = j := fun r j hj e => by
    unfold ptA
    rw [← e, (b4 j hj).2, tn (by omega)]
  have t37 : ∀ p c, p < many → c < 3 → ∃ j, j < many ∧ A 37 (3 * p + c) = nI j ∧ tA37 A p c = j ∧ PP m W (rw j) = PP m W (bh (rw p) c) := fun p c hp hc => by
    obtain ⟨y1, j, y2, y3, y4, y5⟩ := b8 (3 * p + c) (by omega)
    rw [show (3 * p + c) / 3 = p by omega, show (3 * p + c) % 3 = c by omega] at y4
    exact ⟨j, y2, y3, by unfold tA37; rw [y3, tn (by omega)], y4⟩
  refine ⟨fun r => ?_, fun r c hc => ?_, fun p c hp hc => ?_⟩
  · obtain ⟨j, j1, j2, j3⟩ := hall r
    rw [pt r j j1 j2]
    exact ⟨j1, by rw [(b4 j j1).1, j2]⟩
  · obtain ⟨j, j1, j2, j3⟩ := hall r
    obtain ⟨j', y1, y2, y3, y4⟩ := t37 j c j1 hc
    rw [pt r j j1 j2, y3, pt (bh r c) j' y1]
    rw [y4, PP_bh h hc, PP_bh h hc, j2]
  · obtain ⟨j', y1, y2, y3, y4⟩ := t37 p c hp hc
    rw [y3]
    exact ⟨y2, y1⟩
section CT
variable {q : tQ} {F : Nat}
theorem l_RR {A : tA2} {B : tB2} {V : tA2} {R : Nat} (h : R = 42 ∨ R = 43) {i : Int32} (hi : inb i 320 = true) : aldL (mk A B V q) R i = some (B R i.toNatClampNeg) := by
  rcases h with rfl | rfl
  · exact l_42 hi
  · exact l_43 hi
theorem s_RR {A : tA2} {B : tB2} {V : tA2} {R : Nat} (h : R = 42 ∨ R = 43) {i : Int32} {y : Int64} (hi : inb i 320 = true) : astL (mk A B V q) R i y = some (mk A (u2 B R i.toNatClampNeg y) V q) := by
  rcases h with rfl | rfl
  · exact s_42 hi
  · exact s_43 hi
theorem okQ_R {q : tQ} (h : okQ q) : (q.2.2.1 = 42 ∨ q.2.2.1 = 43) ∧ (q.2.2.2 = 42 ∨ q.2.2.2 = 43) ∧ q.2.2.1 ≠ q.2.2.2 := by
  rcases h.2 with ⟨z1, z2⟩ | ⟨z1, z2⟩ <;> omega
theorem x0_au_loop {A : tA2} {B : tB2} {V : tA2} {many ct wp : Nat} {pl D : Nat → Nat} (hq : okQ q) (hM : V 33 5 = nI many) (hm : many ≤ 320) (hC : V 39 4 = nI ct) (hct : ct ≤ 30) (hW : V 33 6 = nI wp) (hwp : wp < many) (h35 : ∀ p, p < many → A 35 p = nI (pl p) ∧ pl p < 640) (hD : ∀ p, p < many → B q.2.2.1 p = lN (D p)) : ∀ (d u p acc : Nat), p + d = many → d < u → x_X0_addUp_5 F (mk A B V q) 39 33 u (lN acc) (nI p) = some (mk A (u2 (u2 B 40 ct (lN (D wp))) 41 ct (lN (acc + smF (fun p => ind (pl p % 16) 0 * D p) p d))) V q) := by
  have hR := (okQ_R hq).1
  intro d
  induction d with
  | zero =>
    intro u p acc hp hu
    obtain ⟨u, rfl⟩ : ∃ z, u = z + 1 := ⟨u - 1, by omega⟩
    show s_X0_addUp_5 _ _ _ _ _ _ _ = _
    unfold s_X0_addUp_5
    rw [g_33_5, bs, hM, if_pos ((nI_leI (by omega) (by omega)).mpr (by omega)), r_39_0, bs, g_39_4, bs, hC, r_39_2, bs, g_33_6, bs, hW, l_RR hR (inb_nI (by omega) (by omega)), bs, tn (by omega), hD wp hwp, s_40 (inb_nI (by omega) (by omega)), bs, r_39_1, bs, g_39_4, bs, hC, s_41 (inb_nI (by omega) (by omega)), bs, tn (by omega)]
    rfl
  | succ d ih =>
    intro u p acc hp hu
    obtain ⟨u, rfl⟩ : ∃ z, u = z + 1 := ⟨u - 1, by omega⟩
    obtain ⟨p1, p2⟩ := h35 p (by omega)
    show s_X0_addUp_5 _ _ _ _ _ _ _ = _
    unfold s_X0_addUp_5 x_X0_addUp_33 x_X2_isSilent
    rw [g_33_5, bs, hM, if_neg (fun z => by have := (nI_leI (by omega) (by omega)).mp z; omega), c_33, bs, r_33_1, bs, l_35 (inb_nI (by omega) (by omega)), bs, tn (by omega), p1, r16 (by omega), r_39_2, bs, l_RR hR (inb_nI (by omega) (by omega)), bs, tn (by omega), hD p (by omega), lN_add, nI_1]
    simp only [smF]
    by_cases e : pl p % 16 = 0
    · rw [if_pos (by rw [e]; rfl), bs, if_neg (by decide), ih u (p + 1) _ (by omega) (by omega)]
      rw [show ind (pl p % 16) 0 = 1 by unfold ind; rw [if_pos e], Nat.one_mul, Nat.add_assoc]
    · rw [if_neg (nz0 e (by omega)), bs, if_pos rfl, ih u (p + 1) _ (by omega) (by omega)]
      rw [show ind (pl p % 16) 0 = 0 by unfold ind; rw [if_neg e], Nat.zero_mul, Nat.zero_add]
theorem x0_addUp {A : tA2} {B : tB2} {V : tA2} {many ct wp : Nat} {pl D : Nat → Nat} (hq : okQ q) (hM : V 33 5 = nI many) (hm : many ≤ 320) (hC : V 39 4 = nI ct) (hct : ct ≤ 30) (hW : V 33 6 = nI wp) (hwp : wp < many) (h35 : ∀ p, p < many → A 35 p = nI (pl p) ∧ pl p < 640) (hD : ∀ p, p < many → B q.2.2.1 p = lN (D p)) (hF : 400 ≤ F) : x_X0_addUp F (mk A B V q) 39 33 = some (mk A (u2 (u2 B 40 ct (lN (D wp))) 41 ct (lN (smF (fun p => ind (pl p % 16) 0 * D p) 0 many))) V q) := by
  unfold x_X0_addUp
  rw [c_39, bs]
  have := x0_au_loop (F := F) hq hM hm hC hct hW hwp h35 hD many F 0 0 (by omega) (by omega)
  rw [Nat.zero_add] at this
  exact this
/-! a letter more -/
theorem x0_al_clear {A : tA2} {V : tA2} {many : Nat} (hq : okQ q) (hM : V 33 5 = nI many) (hm : many ≤ 320) : ∀ (d u p : Nat) (B : tB2), p + d = many → d < u → (∀ i, i < p → B q.2.2.2 i = lN 0) → ∃ B', x_X0_addLetter_2 F 39 33 u (mk A B V q) (nI p) = x_X0_addLetter_25 F 39 33 F (mk A B' V q) 0 ∧ (∀ P, P ≠ q.2.2.2 → B' P = B P) ∧ ∀ i, i < many → B' q.2.2.2 i = lN 0 := by
  have hS := (okQ_R hq).2.1
  intro d
  induction d with
  | zero =>
    intro u p B hp hu hz
    obtain ⟨u, rfl⟩ : ∃ z, u = z + 1 := ⟨u - 1, by omega⟩
    refine ⟨B, ?_, fun _ _ => rfl, fun i hi => hz i (by omega)⟩
    show s_X0_addLetter_2 _ _ _ _ _ _ = _
    unfold s_X0_addLetter_2
    rw [g_33_5, bs, hM, if_pos ((nI_leI (by omega) (by omega)).mpr (by omega))]
  | succ d ih =>
    intro u p B hp hu hz
    obtain ⟨u, rfl⟩ : ∃ z, u = z + 1 := ⟨u - 1, by omega⟩
    obtain ⟨B', e1, e2, e3⟩ := ih u (p + 1) (u2 B q.2.2.2 p 0) (by omega) (by omega) (fun i hi => by
      by_cases e : i = p
      · subst e; rw [u2_s]; rfl
      · rw [u2_k _ _ e]; exact hz i (by omega))
    refine ⟨B', ?_, fun P hP => by rw [e2 P hP, u2_pp _ _ hP], e3⟩
    show s_X0_addLetter_2 _ _ _ _ _ _ = _
    unfold s_X0_addLetter_2
    rw [g_33_5, bs, hM, if_neg (fun z => by have := (nI_leI (by omega) (by omega)).mp z; omega), r_39_3, bs, s_RR hS (inb_nI (by omega) (by omega)), bs, tn (by omega), nI_1]
    exact e1
theorem x0_al_in {A : tA2} {V : tA2} {many p x : Nat} (hq : okQ q) (hm : many ≤ 320) (hp : p < many) (hx : x < 2 ^ 63) (hT : ∀ c, c < 3 → A 37 (3 * p + c) = nI (tA37 A p c) ∧ tA37 A p c < many) (k25 : pH → Int32 → Option pH) : ∀ (d u c : Nat) (B : tB2) (b : Nat → Nat), c + d = 3 → d < u → (∀ i, i < many → B q.2.2.2 i = lN (b i)) → ∃ B', x_X0_addLetter_43 F k25 39 33 (nI p) (lN x) u (mk A B V q) (nI c) = k25 (mk A B' V q) (nI (p + 1)) ∧ (∀ P, P ≠ q.2.2.2 → B' P = B P) ∧ ∀ i, i < many → B' q.2.2.2 i = lN (b i + smF (fun c => ind (tA37 A p c) i * x) c d) := by
  have hS := (okQ_R hq).2.1
  intro d
  induction d with
  | zero =>
    intro u c B b hc hu hb
    obtain ⟨u, rfl⟩ : ∃ z, u = z + 1 := ⟨u - 1, by omega⟩
    refine ⟨B, ?_, fun _ _ => rfl, fun i hi => by simp only [smF, Nat.add_zero]; exact hb i hi⟩
    show s_X0_addLetter_43 _ _ _ _ _ _ _ _ _ = _
    unfold s_X0_addLetter_43 x_X0_addLetter_81
    rw [show c = 3 by omega, if_pos (by decide), nI_1]
  | succ d ih =>
    intro u c B b hc hu hb
    obtain ⟨u, rfl⟩ : ∃ z, u = z + 1 := ⟨u - 1, by omega⟩
    by_cases x0 : x = 0
    · refine ⟨B, ?_, fun _ _ => rfl, fun i hi => ?_⟩
      · show s_X0_addLetter_43 _ _ _ _ _ _ _ _ _ = _
        unfold s_X0_addLetter_43 x_X0_addLetter_81
        rw [if_neg (show ¬ (3 : Int32) ≤ nI c from fun z => by have := (nI_leI (a := 3) (by omega) (by omega)).mp z; omega), if_pos ((lN_le0 hx).mpr x0), nI_1]
      · rw [smF_congr (s' := fun _ => 0) (d + 1) c (fun j _ _ => by rw [x0, Nat.mul_zero]), smF_z, Nat.add_zero]
        exact hb i hi
    · obtain ⟨t1, t2⟩ := hT c (by omega)
      obtain ⟨B', e1, e2, e3⟩ := ih u (c + 1) (u2 B q.2.2.2 (tA37 A p c) (lN (b (tA37 A p c) + x))) (fun i => b i + ind (tA37 A p c) i * x) (by omega) (by omega) (fun i hi => by
        by_cases e : i = tA37 A p c
        · subst e; rw [u2_s, show ind (tA37 A p c) (tA37 A p c) = 1 by unfold ind; rw [if_pos rfl], Nat.one_mul]
        · rw [u2_k _ _ e, show ind (tA37 A p c) i = 0 by unfold ind; rw [if_neg (fun z => e z.symm)], Nat.zero_mul, Nat.add_zero]; exact hb i hi)
      refine ⟨B', ?_, fun P hP => by rw [e2 P hP, u2_pp _ _ hP], fun i hi => ?_⟩
      · show s_X0_addLetter_43 _ _ _ _ _ _ _ _ _ = _
        unfold s_X0_addLetter_43
        rw [if_neg (show ¬ (3 : Int32) ≤ nI c from fun z => by have := (nI_leI (a := 3) (by omega) (by omega)).mp z; omega), if_neg (fun z => x0 ((lN_le0 hx).mp z)), r_39_3, bs, r_33_3, bs, n3, nI_add, l_37 (inb_nI (by omega) (by omega)), bs, tn (by omega), t1, l_RR hS (inb_nI (by omega) (by omega)), bs, tn (by omega), hb _ t2, lN_add, s_RR hS (inb_nI (by omega) (by omega)), bs, tn (by omega), nI_1]
        exact e1
      · rw [e3 i hi]
        simp only [smF]
        rw [Nat.add_assoc]
theorem pr_39_2 {A : tA2} {B : tB2} {V : tA2} {x : Nat} : putV 0 (mk A B V q) 39 2 (.ref x) = some (mk A B V (q.1, q.2.1, x, q.2.2.2)) := by
  refine mk_putR (ci := 0) rfl (by decide) rfl (fun p k h => ?_) (fun k h _ => ?_) ?_
  · unfold rf
    simp [h]
  · unfold rf
    simp [h]
  · simp [rf]
theorem pr_39_3 {A : tA2} {B : tB2} {V : tA2} {x : Nat} : putV 0 (mk A B V q) 39 3 (.ref x) = some (mk A B V (q.1, q.2.1, q.2.2.1, x)) := by
  refine mk_putR (ci := 0) rfl (by decide) rfl (fun p k h => ?_) (fun k h _ => ?_) ?_
  · unfold rf
    simp [h]
  · unfold rf
    simp [h]
  · simp [rf]
theorem x0_al_out {A : tA2} {V : tA2} {many : Nat} {D : Nat → Nat} (hq : okQ q) (hM : V 33 5 = nI many) (hm : many ≤ 320) (hT : ∀ p c, p < many → c < 3 → A 37 (3 * p + c) = nI (tA37 A p c) ∧ tA37 A p c < many) (hDb : ∀ p, D p < 2 ^ 63) (hF : 10 ≤ F) : ∀ (d u p : Nat) (B : tB2) (b : Nat → Nat), p + d = many → d < u → (∀ i, i < many → B q.2.2.1 i = lN (D i)) → (∀ i, i < many → B q.2.2.2 i = lN (b i)) → ∃ B', x_X0_addLetter_25 F 39 33 u (mk A B V q) (nI p) = some (mk A B' V (q.1, q.2.1, q.2.2.2, q.2.2.1)) ∧ (∀ P, P ≠ q.2.2.2 → B' P = B P) ∧ ∀ i, i < many → B' q.2.2.2 i = lN (b i + smF (fun p => smF (fun c => ind (tA37 A p c) i * D p) 0 3) p d) := by
  have hR := (okQ_R hq).1
  have hne := (okQ_R hq).2.2
  intro d
  induction d with
  | zero =>
    intro u p B b hp hu hD hb
    obtain ⟨u, rfl⟩ : ∃ z, u = z + 1 := ⟨u - 1, by omega⟩
    refine ⟨B, ?_, fun _ _ => rfl, fun i hi => by simp only [smF, Nat.add_zero]; exact hb i hi⟩
    show s_X0_addLetter_25 _ _ _ _ _ _ = _
    unfold s_X0_addLetter_25
    rw [g_33_5, bs, hM, if_pos ((nI_leI (by omega) (by omega)).mpr (by omega)), r_39_2, bs, r_39_3, bs, pr_39_2, bs, pr_39_3, bs]
  | succ d ih =>
    intro u p B b hp hu hD hb
    obtain ⟨u, rfl⟩ : ∃ z, u = z + 1 := ⟨u - 1, by omega⟩
    obtain ⟨B1, e1, e2, e3⟩ := x0_al_in (F := F) (A := A) (V := V) (x := D p) hq hm (show p < many by omega) (hDb p) (fun c hc => hT p c (by omega) hc) (x_X0_addLetter_25 F 39 33 u) 3 F 0 B b (by omega) (by omega) hb
    obtain ⟨B', i1, i2, i3⟩ := ih u (p + 1) B1 (fun i => b i + smF (fun c => ind (tA37 A p c) i * D p) 0 3) (by omega) (by omega) (fun i hi => by rw [e2 _ hne]; exact hD i hi) e3
    refine ⟨B', ?_, fun P hP => by rw [i2 P hP, e2 P hP], fun i hi => ?_⟩
    · show s_X0_addLetter_25 _ _ _ _ _ _ = _
      unfold s_X0_addLetter_25
      rw [g_33_5, bs, hM, if_neg (fun z => by have := (nI_leI (by omega) (by omega)).mp z; omega), r_39_2, bs, l_RR hR (inb_nI (by omega) (by omega)), bs, tn (by omega), hD p (by omega)]
      rw [nI_0] at e1
      rw [e1]
      exact i1
    · rw [i3 i hi]
      simp only [smF]
      rw [Nat.add_assoc]
theorem x0_addLetter {A : tA2} {B : tB2} {V : tA2} {many : Nat} {D : Nat → Nat} (hq : okQ q) (hM : V 33 5 = nI many) (hm : many ≤ 320) (hT : ∀ p c, p < many → c < 3 → A 37 (3 * p + c) = nI (tA37 A p c) ∧ tA37 A p c < many) (hDb : ∀ p, D p < 2 ^ 63) (hF : 400 ≤ F) (hD : ∀ i, i < many → B q.2.2.1 i = lN (D i)) : ∃ B', x_X0_addLetter F (mk A B V q) 39 33 = some (mk A B' V (q.1, q.2.1, q.2.2.2, q.2.2.1)) ∧ (∀ P, P ≠ q.2.2.2 → B' P = B P) ∧ ∀ i, i < many → B' q.2.2.2 i = lN (smF (fun p => (ind (tA37 A p 0) i + ind (tA37 A p 1) i + ind (tA37 A p 2) i) * D p) 0 many) := by
  have hne := (okQ_R hq).2.2
  obtain ⟨B1, e1, e2, e3⟩ := x0_al_clear (F := F) (A := A) (V := V) hq hM hm many F 0 B (by omega) (by omega) (fun i hi => by omega)
  obtain ⟨B', i1, i2, i3⟩ := x0_al_out (F := F) (A := A) (V := V) hq hM hm hT hDb (by omega) many F 0 B1 (fun _ => 0) (by omega) (by omega) (fun i hi => by rw [e2 _ hne]; exact hD i hi) e3
  refine ⟨B', ?_, fun P hP => by rw [i2 P hP, e2 P hP], fun i hi => ?_⟩
  · unfold x_X0_addLetter
    rw [nI_0] at e1 i1
    rw [c_39, bs, e1]
    exact i1
  · rw [i3 i hi, Nat.zero_add]
    congr 1
    apply smF_congr
    intro p _ _
    show ind (tA37 A p 0) i * D p + (ind (tA37 A p 1) i * D p + (ind (tA37 A p 2) i * D p + 0)) = _
    rw [Nat.add_mul, Nat.add_mul]
    omega
end CT
/-! what holds of the counts -/
def kA (m : Nat) (W : tW) (t : Nat) : Nat := kW (fun r => ind (ST m W r) (fll m)) t 0
def kN (m : Nat) (W : tW) (t : Nat) : Nat := kW (fun r => ind (ST m W r) 0) t 0
def kP (m : Nat) (W : tW) (A : tA2) (t p : Nat) : Nat := kW (fun r => ind (ptA m W A r) p) t 0
def CO (m : Nat) (W : tW) (A : tA2) (B : tB2) (V : tA2) (q : tQ) : Prop := ∃ many ct, V 33 5 = nI many ∧ many ≤ 320 ∧ ct ≤ 30 ∧ V 39 4 = nI ct ∧ (∀ t, t ≤ ct → B 40 t = lN (kA m W t) ∧ B 41 t = lN (kN m W t)) ∧ ∀ p, p < many → B q.2.2.1 p = lN (kP m W A ct p)
theorem kP_lt {m : Nat} {W : tW} {A : tA2} {t p : Nat} (ht : t ≤ 30) : kP m W A t p < 2 ^ 63 := by
  have a := kW_le (f := fun r => ind (ptA m W A r) p) (fun r => ind_le _ _) t 0
  have b := pow3_le ht
  unfold kP
  omega
theorem kP_step {m : Nat} {W : tW} (h : okL m W) (h1 : 1 ≤ m) {A : tA2} {many : Nat} {rw : Nat → Nat} (hB : BI m W A many (3 * many) rw) (t i : Nat) : kP m W A (t + 1) i = smF (fun p => (ind (tA37 A p 0) i + ind (tA37 A p 1) i + ind (tA37 A p 2) i) * kP m W A t p) 0 many := by
  obtain ⟨p1, p2, p3⟩ := pt_ok h h1 hB
  exact kW_step (X := ptA m W A) (T := tA37 A) (K := many) (fun r => (p1 r).1) p2 i t
theorem kP_none {m : Nat} {W : tW} (h : okL m W) (h1 : 1 ≤ m) {A : tA2} {many : Nat} {rw : Nat → Nat} (hB : BI m W A many (3 * many) rw) (t : Nat) : smF (fun p => ind (PP m W (rw p) % 16) 0 * kP m W A t p) 0 many = kN m W t := by
  obtain ⟨p1, p2, p3⟩ := pt_ok h h1 hB
  have e := kW_split (X := ptA m W A) (K := many) (fun r => (p1 r).1) (fun p => ind (PP m W (rw p) % 16) 0) t 0
  rw [show (smF (fun p => ind (PP m W (rw p) % 16) 0 * kP m W A t p) 0 many) = _ from e.symm]
  unfold kN
  congr 1
  funext r
  obtain ⟨b1, b2, b3, b4, b5, b6, b7, b8⟩ := hB
  have a := (p1 r).2
  have c := (b4 _ (p1 r).1).1
  rw [a] at c
  have := PP_lt h r
  have := PP_lt h (rw (ptA m W A r))
  have := (nI_eq (by omega) (by omega)).mp c
  rw [← this, PP_mod h.1]
theorem kP_all {m : Nat} {W : tW} (h : okL m W) (h1 : 1 ≤ m) {A : tA2} {many wp : Nat} {rw : Nat → Nat} (hB : BI m W A many (3 * many) rw) (hwp : wp < many) (hw : ST m W (rw wp) = fll m) (t : Nat) : kP m W A t wp = kA m W t := by
  obtain ⟨p1, p2, p3⟩ := pt_ok h h1 hB
  unfold kP kA
  congr 1
  funext r
  obtain ⟨b1, b2, b3, b4, b5, b6, b7, b8⟩ := id hB
  have a := (p1 r).2
  have c := (b4 _ (p1 r).1).1
  rw [a] at c
  have l1 := PP_lt h r
  have l2 := PP_lt h (rw (ptA m W A r))
  have e := (nI_eq (by omega) (by omega)).mp c
  unfold ind
  by_cases z : ptA m W A r = wp
  · rw [if_pos z, if_pos]
    rw [z, (PP_fll h.1).mpr hw] at e
    exact (PP_fll h.1).mp e
  · rw [if_neg z, if_neg]
    intro y
    apply z
    rw [(PP_fll h.1).mpr y, ← (PP_fll h.1).mpr hw] at e
    exact bi_inj hB (p1 r).1 hwp e.symm
