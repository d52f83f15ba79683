/-! the makers: rows of references hold nothing past their ends, nothing lies past place 90 -/
def fz_eT (e : pE) : Prop := ∀ (t n : Nat) (f : Nat → Option Nat), e = .inl (t, n, .inr (.inr (.inr (.inr f)))) → ∀ i, n ≤ i → f i = none
def fz_TT (h : pH) : Prop := (∀ p, fz_eT (h p)) ∧ ∀ k, 91 ≤ k → h k = pj
theorem fz_eT_o {x : Nat × List Value} : fz_eT (.inr x) := by intro t n f e; cases e
theorem fz_eT_i {t n : Nat} {g : Nat → Int32} : fz_eT (.inl (t, n, .inl g)) := by intro _ _ _ e; cases e
theorem fz_eT_l {t n : Nat} {g : Nat → Int64} : fz_eT (.inl (t, n, .inr (.inl g))) := by intro _ _ _ e; cases e
theorem fz_eT_r {t n : Nat} : fz_eT (.inl (t, n, .inr (.inr (.inr (.inr (fun _ => none)))))) := by
  intro _ _ _ e i hi
  cases e
  rfl
theorem fz_TT_0 : fz_TT (fun _ => pj) := ⟨fun _ => fz_eT_o, fun _ _ => rfl⟩
theorem fz_TT_up {h : pH} {a : Nat} {e : pE} (hT : fz_TT h) (ha : a < 91) (he : fz_eT e) : fz_TT (va_up h a e) := by
  constructor
  · intro p
    by_cases z : p = a
    · have : va_up h a e p = e := by simp [va_up, z]
      rw [this]; exact he
    · have : va_up h a e p = h p := by simp [va_up, z]
      rw [this]; exact hT.1 p
  · intro k hk
    have z : ¬ k = a := by omega
    have : va_up h a e k = h k := by simp [va_up, z]
    rw [this]; exact hT.2 k hk
theorem fz_TT_putV {ci : Nat} {h h' : pH} {a k : Nat} {v : Value} (hT : fz_TT h) (hc : ci ≠ 999) (q : putV ci h a k v = some h') : fz_TT h' := by
  unfold putV at q
  split at q
  · rename_i o e
    split at q
    · rename_i z
      cases q
      refine fz_TT_up hT ?_ fz_eT_o
      rcases Nat.lt_or_ge a 91 with y | y
      · exact y
      · exfalso
        rw [hT.2 a y] at e
        unfold pj at e
        cases e
        exact hc z.1.symm
    · cases q
  · cases q
theorem fz_TT_putZ {ci : Nat} {h h' : pH} {a k : Nat} {v : Int32} (hT : fz_TT h) (hc : ci ≠ 999) (q : putZ ci h a k v = some h') : fz_TT h' := by
  unfold putZ at q
  split at q
  · exact fz_TT_putV hT hc q
  · cases q
theorem fz_TT_astI {t : Nat} {h h' : pH} {a : Nat} {i x : Int32} (hT : fz_TT h) (q : astI t h a i x = some h') : fz_TT h' := by
  unfold astI at q
  split at q
  · rename_i u n f e
    split at q
    · cases q
      refine fz_TT_up hT ?_ fz_eT_i
      rcases Nat.lt_or_ge a 91 with y | y
      · exact y
      · exfalso
        rw [hT.2 a y] at e
        unfold pj at e
        cases e
    · cases q
  · cases q
theorem fz_TT_astR {t ci : Nat} {h h' : pH} {a b : Nat} {i : Int32} (hT : fz_TT h) (q : astR t ci h a i b = some h') : fz_TT h' := by
  unfold astR at q
  split at q
  · rename_i u n f e
    split at q
    · rename_i z
      cases q
      refine fz_TT_up hT ?_ ?_
      · rcases Nat.lt_or_ge a 91 with y | y
        · exact y
        · exfalso
          rw [hT.2 a y] at e
          unfold pj at e
          cases e
      · intro t' n' f' e' j hj
        cases e'
        have z2 := z.2.1
        simp only [inb, Bool.and_eq_true, decide_eq_true_eq] at z2
        have z3 : ¬ j = i.toNatClampNeg := by omega
        have : va_up f i.toNatClampNeg (some b) j = f j := by simp [va_up, z3]
        rw [this]
        exact hT.1 a _ _ _ e j hj
    · cases q
  · cases q
def fz_PG {α : Type} (P : α → Prop) (o : Option α) : Prop := ∀ r, o = some r → P r
theorem fz_pg_end {α : Type} {P : α → Prop} {r : α} (h : P r) : fz_PG P (some r) := by
  intro r' e
  cases e
  exact h
theorem fz_pg_call {α β : Type} {P : α → Prop} {Q : β → Prop} {o : Option α} {f : α → Option β} (h : fz_PG P o) (k : ∀ r, P r → fz_PG Q (f r)) : fz_PG Q (o.bind f) := by
  intro r e
  obtain ⟨v, e1, e2⟩ := ob e
  exact k v (h v e1) r e2
theorem fz_pg_any {α β : Type} {Q : β → Prop} {o : Option α} {f : α → Option β} (k : ∀ r, fz_PG Q (f r)) : fz_PG Q (o.bind f) := by
  intro r e
  obtain ⟨v, e1, e2⟩ := ob e
  exact k v r e2
theorem fz_pg_up {β : Type} {Q : β → Prop} {h : pH} {a : Nat} {e : pE} {f : pH → Option β} (hT : fz_TT h) (ha : a < 91) (he : fz_eT e) (k : ∀ r, fz_TT r → fz_PG Q (f r)) : fz_PG Q ((some (va_up h a e)).bind f) := k _ (fz_TT_up hT ha he)
theorem fz_tt_X1_loop {F n l0 : Nat} : ∀ (m : Nat) (h : pH) (l1 : Int32), fz_TT h → fz_PG fz_TT (x_X1_init_45 F n l0 m h l1) := by
  intro m
  induction m with
  | zero =>
    intro h l1 hT r e
    unfold x_X1_init_45 at e
    cases e
  | succ m ih =>
    intro h l1 hT
    show fz_PG fz_TT (s_X1_init_45 F n l0 (x_X1_init_45 F n l0 m) h l1)
    unfold s_X1_init_45
    split
    · exact fz_pg_end hT
    · refine fz_pg_any (fun v1 => ?_)
      refine fz_pg_any (fun v2 => ?_)
      refine fz_pg_any (fun v3 => ?_)
      refine fz_pg_any (fun v4 => ?_)
      refine fz_pg_call (P := fz_TT) (fun _ q => fz_TT_astI hT q) (fun v5 hv5 => ?_)
      exact ih _ _ hv5
set_option maxRecDepth 20000 in
set_option maxHeartbeats 2000000 in
theorem fz_tt_x_X0_init {F n : Nat} {h : pH} {l0 : Nat} (hT : fz_TT h) (hn : n + 4 ≤ 91) : fz_PG fz_TT (x_X0_init F n h l0) := by
  unfold x_X0_init
  refine fz_pg_up hT (by omega) fz_eT_l (fun v1 hv1 => ?_)
  refine fz_pg_call (P := fz_TT) (fun _ q => fz_TT_putV hv1 (by decide) q) (fun v2 hv2 => ?_)
  refine fz_pg_up hv2 (by omega) fz_eT_l (fun v3 hv3 => ?_)
  refine fz_pg_call (P := fz_TT) (fun _ q => fz_TT_putV hv3 (by decide) q) (fun v4 hv4 => ?_)
  refine fz_pg_up hv4 (by omega) fz_eT_l (fun v5 hv5 => ?_)
  refine fz_pg_call (P := fz_TT) (fun _ q => fz_TT_putV hv5 (by decide) q) (fun v6 hv6 => ?_)
  refine fz_pg_up hv6 (by omega) fz_eT_l (fun v7 hv7 => ?_)
  refine fz_pg_call (P := fz_TT) (fun _ q => fz_TT_putV hv7 (by decide) q) (fun v8 hv8 => ?_)
  exact fz_pg_end hv8
set_option maxRecDepth 20000 in
set_option maxHeartbeats 2000000 in
theorem fz_tt_x_X1_init {F n : Nat} {h : pH} {l0 : Nat} (hT : fz_TT h) (hn : n + 5 ≤ 91) : fz_PG fz_TT (x_X1_init F n h l0) := by
  unfold x_X1_init
  refine fz_pg_up hT (by omega) fz_eT_i (fun v1 hv1 => ?_)
  refine fz_pg_call (P := fz_TT) (fun _ q => fz_TT_putV hv1 (by decide) q) (fun v2 hv2 => ?_)
  refine fz_pg_up hv2 (by omega) fz_eT_i (fun v3 hv3 => ?_)
  refine fz_pg_call (P := fz_TT) (fun _ q => fz_TT_putV hv3 (by decide) q) (fun v4 hv4 => ?_)
  refine fz_pg_up hv4 (by omega) fz_eT_i (fun v5 hv5 => ?_)
  refine fz_pg_call (P := fz_TT) (fun _ q => fz_TT_putV hv5 (by decide) q) (fun v6 hv6 => ?_)
  refine fz_pg_up hv6 (by omega) fz_eT_i (fun v7 hv7 => ?_)
  refine fz_pg_call (P := fz_TT) (fun _ q => fz_TT_putV hv7 (by decide) q) (fun v8 hv8 => ?_)
  refine fz_pg_up hv8 (by omega) fz_eT_i (fun v9 hv9 => ?_)
  refine fz_pg_call (P := fz_TT) (fun _ q => fz_TT_putV hv9 (by decide) q) (fun v10 hv10 => ?_)
  exact fz_tt_X1_loop _ _ _ hv10
set_option maxRecDepth 20000 in
set_option maxHeartbeats 2000000 in
theorem fz_tt_x_X2_init {F n : Nat} {h : pH} {l0 : Nat} (hT : fz_TT h) (hn : n + 5 ≤ 91) : fz_PG fz_TT (x_X2_init F n h l0) := by
  unfold x_X2_init
  refine fz_pg_up hT (by omega) fz_eT_i (fun v1 hv1 => ?_)
  refine fz_pg_call (P := fz_TT) (fun _ q => fz_TT_putV hv1 (by decide) q) (fun v2 hv2 => ?_)
  refine fz_pg_up hv2 (by omega) fz_eT_i (fun v3 hv3 => ?_)
  refine fz_pg_call (P := fz_TT) (fun _ q => fz_TT_putV hv3 (by decide) q) (fun v4 hv4 => ?_)
  refine fz_pg_up hv4 (by omega) fz_eT_i (fun v5 hv5 => ?_)
  refine fz_pg_call (P := fz_TT) (fun _ q => fz_TT_putV hv5 (by decide) q) (fun v6 hv6 => ?_)
  refine fz_pg_up hv6 (by omega) fz_eT_i (fun v7 hv7 => ?_)
  refine fz_pg_call (P := fz_TT) (fun _ q => fz_TT_putV hv7 (by decide) q) (fun v8 hv8 => ?_)
  refine fz_pg_up hv8 (by omega) fz_eT_i (fun v9 hv9 => ?_)
  refine fz_pg_call (P := fz_TT) (fun _ q => fz_TT_putV hv9 (by decide) q) (fun v10 hv10 => ?_)
  exact fz_pg_end hv10
set_option maxRecDepth 20000 in
set_option maxHeartbeats 2000000 in
theorem fz_tt_x_X3_init {F n : Nat} {h : pH} {l0 : Nat} (hT : fz_TT h) (hn : n + 1 ≤ 91) : fz_PG fz_TT (x_X3_init F n h l0) := by
  unfold x_X3_init
  refine fz_pg_up hT (by omega) fz_eT_i (fun v1 hv1 => ?_)
  refine fz_pg_call (P := fz_TT) (fun _ q => fz_TT_putV hv1 (by decide) q) (fun v2 hv2 => ?_)
  exact fz_pg_end hv2
set_option maxRecDepth 20000 in
set_option maxHeartbeats 2000000 in
theorem fz_tt_x_X4_init {F n : Nat} {h : pH} {l0 : Nat} (hT : fz_TT h) (hn : n + 1 ≤ 91) : fz_PG fz_TT (x_X4_init F n h l0) := by
  unfold x_X4_init
  refine fz_pg_up hT (by omega) fz_eT_i (fun v1 hv1 => ?_)
  refine fz_pg_call (P := fz_TT) (fun _ q => fz_TT_putV hv1 (by decide) q) (fun v2 hv2 => ?_)
  exact fz_pg_end hv2
set_option maxRecDepth 20000 in
set_option maxHeartbeats 2000000 in
theorem fz_tt_x_X6_init {F n : Nat} {h : pH} {l0 : Nat} (hT : fz_TT h) (hn : n + 1 ≤ 91) : fz_PG fz_TT (x_X6_init F n h l0) := by
  unfold x_X6_init
  refine fz_pg_up hT (by omega) fz_eT_i (fun v1 hv1 => ?_)
  refine fz_pg_call (P := fz_TT) (fun _ q => fz_TT_putV hv1 (by decide) q) (fun v2 hv2 => ?_)
  exact fz_pg_end hv2
set_option maxRecDepth 20000 in
set_option maxHeartbeats 2000000 in
theorem fz_tt_x_X7_newWords {F n : Nat} {h : pH} (hT : fz_TT h) (hn : n + 9 ≤ 91) : fz_PG (fun r : Nat × pH => fz_TT r.2) (x_X7_newWords F n h) := by
  unfold x_X7_newWords
  refine fz_pg_up hT (by omega) fz_eT_r (fun v1 hv1 => ?_)
  refine fz_pg_up hv1 (by omega) fz_eT_o (fun v2 hv2 => ?_)
  refine fz_pg_call (fz_tt_x_X6_init hv2 (by omega)) (fun v3 hv3 => ?_)
  refine fz_pg_call (P := fz_TT) (fun _ q => fz_TT_astR hv3 q) (fun v4 hv4 => ?_)
  refine fz_pg_up hv4 (by omega) fz_eT_o (fun v5 hv5 => ?_)
  refine fz_pg_call (fz_tt_x_X6_init hv5 (by omega)) (fun v6 hv6 => ?_)
  refine fz_pg_call (P := fz_TT) (fun _ q => fz_TT_astR hv6 q) (fun v7 hv7 => ?_)
  refine fz_pg_up hv7 (by omega) fz_eT_o (fun v8 hv8 => ?_)
  refine fz_pg_call (fz_tt_x_X6_init hv8 (by omega)) (fun v9 hv9 => ?_)
  refine fz_pg_call (P := fz_TT) (fun _ q => fz_TT_astR hv9 q) (fun v10 hv10 => ?_)
  refine fz_pg_up hv10 (by omega) fz_eT_o (fun v11 hv11 => ?_)
  refine fz_pg_call (fz_tt_x_X6_init hv11 (by omega)) (fun v12 hv12 => ?_)
  refine fz_pg_call (P := fz_TT) (fun _ q => fz_TT_astR hv12 q) (fun v13 hv13 => ?_)
  exact fz_pg_end hv13
set_option maxRecDepth 20000 in
set_option maxHeartbeats 2000000 in
theorem fz_tt_x_X5_init {F n : Nat} {h : pH} {l0 : Nat} (hT : fz_TT h) (hn : n + 9 ≤ 91) : fz_PG fz_TT (x_X5_init F n h l0) := by
  unfold x_X5_init
  refine fz_pg_call (fz_tt_x_X7_newWords hT (by omega)) (fun v1 hv1 => ?_)
  refine fz_pg_call (P := fz_TT) (fun _ q => fz_TT_putV hv1 (by decide) q) (fun v2 hv2 => ?_)
  exact fz_pg_end hv2
set_option maxRecDepth 20000 in
set_option maxHeartbeats 2000000 in
theorem fz_tt_x_X7_init {F n : Nat} {h : pH} {l0 : Nat} (hT : fz_TT h) (hn : n + 67 ≤ 91) : fz_PG fz_TT (x_X7_init F n h l0) := by
  unfold x_X7_init
  refine fz_pg_up hT (by omega) fz_eT_r (fun v1 hv1 => ?_)
  refine fz_pg_call (P := fz_TT) (fun _ q => fz_TT_putV hv1 (by decide) q) (fun v2 hv2 => ?_)
  refine fz_pg_up hv2 (by omega) fz_eT_o (fun v3 hv3 => ?_)
  refine fz_pg_call (fz_tt_x_X5_init hv3 (by omega)) (fun v4 hv4 => ?_)
  refine fz_pg_call (P := fz_TT) (fun _ q => fz_TT_putV hv4 (by decide) q) (fun v5 hv5 => ?_)
  refine fz_pg_call (fz_tt_x_X7_newWords hv5 (by omega)) (fun v6 hv6 => ?_)
  refine fz_pg_call (P := fz_TT) (fun _ q => fz_TT_putV hv6 (by decide) q) (fun v7 hv7 => ?_)
  refine fz_pg_up hv7 (by omega) fz_eT_i (fun v8 hv8 => ?_)
  refine fz_pg_call (P := fz_TT) (fun _ q => fz_TT_putV hv8 (by decide) q) (fun v9 hv9 => ?_)
  refine fz_pg_up hv9 (by omega) fz_eT_i (fun v10 hv10 => ?_)
  refine fz_pg_call (P := fz_TT) (fun _ q => fz_TT_putV hv10 (by decide) q) (fun v11 hv11 => ?_)
  refine fz_pg_up hv11 (by omega) fz_eT_r (fun v12 hv12 => ?_)
  refine fz_pg_call (P := fz_TT) (fun _ q => fz_TT_putV hv12 (by decide) q) (fun v13 hv13 => ?_)
  refine fz_pg_up hv13 (by omega) fz_eT_o (fun v14 hv14 => ?_)
  refine fz_pg_call (fz_tt_x_X6_init hv14 (by omega)) (fun v15 hv15 => ?_)
  refine fz_pg_call (P := fz_TT) (fun _ q => fz_TT_putV hv15 (by decide) q) (fun v16 hv16 => ?_)
  refine fz_pg_up hv16 (by omega) fz_eT_i (fun v17 hv17 => ?_)
  refine fz_pg_call (P := fz_TT) (fun _ q => fz_TT_putV hv17 (by decide) q) (fun v18 hv18 => ?_)
  refine fz_pg_up hv18 (by omega) fz_eT_o (fun v19 hv19 => ?_)
  refine fz_pg_call (fz_tt_x_X1_init hv19 (by omega)) (fun v20 hv20 => ?_)
  refine fz_pg_call (P := fz_TT) (fun _ q => fz_TT_putV hv20 (by decide) q) (fun v21 hv21 => ?_)
  refine fz_pg_up hv21 (by omega) fz_eT_o (fun v22 hv22 => ?_)
  refine fz_pg_call (fz_tt_x_X2_init hv22 (by omega)) (fun v23 hv23 => ?_)
  refine fz_pg_call (P := fz_TT) (fun _ q => fz_TT_putV hv23 (by decide) q) (fun v24 hv24 => ?_)
  refine fz_pg_up hv24 (by omega) fz_eT_o (fun v25 hv25 => ?_)
  refine fz_pg_call (fz_tt_x_X0_init hv25 (by omega)) (fun v26 hv26 => ?_)
  refine fz_pg_call (P := fz_TT) (fun _ q => fz_TT_putV hv26 (by decide) q) (fun v27 hv27 => ?_)
  refine fz_pg_call (P := fz_TT) (fun _ q => fz_TT_putZ hv27 (by decide) q) (fun v28 hv28 => ?_)
  refine fz_pg_any (fun v29 => ?_)
  refine fz_pg_up hv28 (by omega) fz_eT_o (fun v30 hv30 => ?_)
  refine fz_pg_call (fz_tt_x_X4_init hv30 (by omega)) (fun v31 hv31 => ?_)
  refine fz_pg_call (P := fz_TT) (fun _ q => fz_TT_astR hv31 q) (fun v32 hv32 => ?_)
  refine fz_pg_any (fun v33 => ?_)
  refine fz_pg_up hv32 (by omega) fz_eT_o (fun v34 hv34 => ?_)
  refine fz_pg_call (fz_tt_x_X4_init hv34 (by omega)) (fun v35 hv35 => ?_)
  refine fz_pg_call (P := fz_TT) (fun _ q => fz_TT_astR hv35 q) (fun v36 hv36 => ?_)
  refine fz_pg_any (fun v37 => ?_)
  refine fz_pg_up hv36 (by omega) fz_eT_o (fun v38 hv38 => ?_)
  refine fz_pg_call (fz_tt_x_X4_init hv38 (by omega)) (fun v39 hv39 => ?_)
  refine fz_pg_call (P := fz_TT) (fun _ q => fz_TT_astR hv39 q) (fun v40 hv40 => ?_)
  refine fz_pg_any (fun v41 => ?_)
  refine fz_pg_up hv40 (by omega) fz_eT_o (fun v42 hv42 => ?_)
  refine fz_pg_call (fz_tt_x_X4_init hv42 (by omega)) (fun v43 hv43 => ?_)
  refine fz_pg_call (P := fz_TT) (fun _ q => fz_TT_astR hv43 q) (fun v44 hv44 => ?_)
  refine fz_pg_any (fun v45 => ?_)
  refine fz_pg_up hv44 (by omega) fz_eT_o (fun v46 hv46 => ?_)
  refine fz_pg_call (fz_tt_x_X3_init hv46 (by omega)) (fun v47 hv47 => ?_)
  refine fz_pg_call (P := fz_TT) (fun _ q => fz_TT_astR hv47 q) (fun v48 hv48 => ?_)
  refine fz_pg_any (fun v49 => ?_)
  refine fz_pg_up hv48 (by omega) fz_eT_o (fun v50 hv50 => ?_)
  refine fz_pg_call (fz_tt_x_X3_init hv50 (by omega)) (fun v51 hv51 => ?_)
  refine fz_pg_call (P := fz_TT) (fun _ q => fz_TT_astR hv51 q) (fun v52 hv52 => ?_)
  refine fz_pg_any (fun v53 => ?_)
  refine fz_pg_up hv52 (by omega) fz_eT_o (fun v54 hv54 => ?_)
  refine fz_pg_call (fz_tt_x_X3_init hv54 (by omega)) (fun v55 hv55 => ?_)
  refine fz_pg_call (P := fz_TT) (fun _ q => fz_TT_astR hv55 q) (fun v56 hv56 => ?_)
  refine fz_pg_any (fun v57 => ?_)
  refine fz_pg_up hv56 (by omega) fz_eT_o (fun v58 hv58 => ?_)
  refine fz_pg_call (fz_tt_x_X3_init hv58 (by omega)) (fun v59 hv59 => ?_)
  refine fz_pg_call (P := fz_TT) (fun _ q => fz_TT_astR hv59 q) (fun v60 hv60 => ?_)
  refine fz_pg_any (fun v61 => ?_)
  refine fz_pg_up hv60 (by omega) fz_eT_o (fun v62 hv62 => ?_)
  refine fz_pg_call (fz_tt_x_X3_init hv62 (by omega)) (fun v63 hv63 => ?_)
  refine fz_pg_call (P := fz_TT) (fun _ q => fz_TT_astR hv63 q) (fun v64 hv64 => ?_)
  refine fz_pg_any (fun v65 => ?_)
  refine fz_pg_up hv64 (by omega) fz_eT_o (fun v66 hv66 => ?_)
  refine fz_pg_call (fz_tt_x_X3_init hv66 (by omega)) (fun v67 hv67 => ?_)
  refine fz_pg_call (P := fz_TT) (fun _ q => fz_TT_astR hv67 q) (fun v68 hv68 => ?_)
  refine fz_pg_any (fun v69 => ?_)
  refine fz_pg_up hv68 (by omega) fz_eT_o (fun v70 hv70 => ?_)
  refine fz_pg_call (fz_tt_x_X3_init hv70 (by omega)) (fun v71 hv71 => ?_)
  refine fz_pg_call (P := fz_TT) (fun _ q => fz_TT_astR hv71 q) (fun v72 hv72 => ?_)
  refine fz_pg_any (fun v73 => ?_)
  refine fz_pg_up hv72 (by omega) fz_eT_o (fun v74 hv74 => ?_)
  refine fz_pg_call (fz_tt_x_X3_init hv74 (by omega)) (fun v75 hv75 => ?_)
  refine fz_pg_call (P := fz_TT) (fun _ q => fz_TT_astR hv75 q) (fun v76 hv76 => ?_)
  exact fz_pg_end hv76
set_option maxRecDepth 20000 in
set_option maxHeartbeats 2000000 in
theorem fz_tt_x_X8_init {F n : Nat} {h : pH} {l0 : Nat} (hT : fz_TT h) (hn : n + 22 ≤ 91) : fz_PG fz_TT (x_X8_init F n h l0) := by
  unfold x_X8_init
  refine fz_pg_up hT (by omega) fz_eT_i (fun v1 hv1 => ?_)
  refine fz_pg_call (P := fz_TT) (fun _ q => fz_TT_astI hv1 q) (fun v2 hv2 => ?_)
  refine fz_pg_call (P := fz_TT) (fun _ q => fz_TT_astI hv2 q) (fun v3 hv3 => ?_)
  refine fz_pg_call (P := fz_TT) (fun _ q => fz_TT_astI hv3 q) (fun v4 hv4 => ?_)
  refine fz_pg_call (P := fz_TT) (fun _ q => fz_TT_astI hv4 q) (fun v5 hv5 => ?_)
  refine fz_pg_call (P := fz_TT) (fun _ q => fz_TT_putV hv5 (by decide) q) (fun v6 hv6 => ?_)
  refine fz_pg_up hv6 (by omega) fz_eT_i (fun v7 hv7 => ?_)
  refine fz_pg_call (P := fz_TT) (fun _ q => fz_TT_putV hv7 (by decide) q) (fun v8 hv8 => ?_)
  refine fz_pg_up hv8 (by omega) fz_eT_i (fun v9 hv9 => ?_)
  refine fz_pg_call (P := fz_TT) (fun _ q => fz_TT_putV hv9 (by decide) q) (fun v10 hv10 => ?_)
  refine fz_pg_up hv10 (by omega) fz_eT_i (fun v11 hv11 => ?_)
  refine fz_pg_call (P := fz_TT) (fun _ q => fz_TT_putV hv11 (by decide) q) (fun v12 hv12 => ?_)
  refine fz_pg_up hv12 (by omega) fz_eT_i (fun v13 hv13 => ?_)
  refine fz_pg_call (P := fz_TT) (fun _ q => fz_TT_putV hv13 (by decide) q) (fun v14 hv14 => ?_)
  refine fz_pg_up hv14 (by omega) fz_eT_i (fun v15 hv15 => ?_)
  refine fz_pg_call (P := fz_TT) (fun _ q => fz_TT_putV hv15 (by decide) q) (fun v16 hv16 => ?_)
  refine fz_pg_up hv16 (by omega) fz_eT_i (fun v17 hv17 => ?_)
  refine fz_pg_call (P := fz_TT) (fun _ q => fz_TT_putV hv17 (by decide) q) (fun v18 hv18 => ?_)
  refine fz_pg_up hv18 (by omega) fz_eT_i (fun v19 hv19 => ?_)
  refine fz_pg_call (P := fz_TT) (fun _ q => fz_TT_putV hv19 (by decide) q) (fun v20 hv20 => ?_)
  refine fz_pg_up hv20 (by omega) fz_eT_i (fun v21 hv21 => ?_)
  refine fz_pg_call (P := fz_TT) (fun _ q => fz_TT_putV hv21 (by decide) q) (fun v22 hv22 => ?_)
  refine fz_pg_up hv22 (by omega) fz_eT_i (fun v23 hv23 => ?_)
  refine fz_pg_call (P := fz_TT) (fun _ q => fz_TT_putV hv23 (by decide) q) (fun v24 hv24 => ?_)
  refine fz_pg_up hv24 (by omega) fz_eT_i (fun v25 hv25 => ?_)
  refine fz_pg_call (P := fz_TT) (fun _ q => fz_TT_putV hv25 (by decide) q) (fun v26 hv26 => ?_)
  refine fz_pg_up hv26 (by omega) fz_eT_i (fun v27 hv27 => ?_)
  refine fz_pg_call (P := fz_TT) (fun _ q => fz_TT_putV hv27 (by decide) q) (fun v28 hv28 => ?_)
  refine fz_pg_up hv28 (by omega) fz_eT_i (fun v29 hv29 => ?_)
  refine fz_pg_call (P := fz_TT) (fun _ q => fz_TT_putV hv29 (by decide) q) (fun v30 hv30 => ?_)
  refine fz_pg_up hv30 (by omega) fz_eT_i (fun v31 hv31 => ?_)
  refine fz_pg_call (P := fz_TT) (fun _ q => fz_TT_putV hv31 (by decide) q) (fun v32 hv32 => ?_)
  refine fz_pg_up hv32 (by omega) fz_eT_l (fun v33 hv33 => ?_)
  refine fz_pg_call (P := fz_TT) (fun _ q => fz_TT_putV hv33 (by decide) q) (fun v34 hv34 => ?_)
  refine fz_pg_up hv34 (by omega) fz_eT_l (fun v35 hv35 => ?_)
  refine fz_pg_call (P := fz_TT) (fun _ q => fz_TT_putV hv35 (by decide) q) (fun v36 hv36 => ?_)
  refine fz_pg_up hv36 (by omega) fz_eT_i (fun v37 hv37 => ?_)
  refine fz_pg_call (P := fz_TT) (fun _ q => fz_TT_putV hv37 (by decide) q) (fun v38 hv38 => ?_)
  refine fz_pg_up hv38 (by omega) fz_eT_i (fun v39 hv39 => ?_)
  refine fz_pg_call (P := fz_TT) (fun _ q => fz_TT_putV hv39 (by decide) q) (fun v40 hv40 => ?_)
  refine fz_pg_up hv40 (by omega) fz_eT_i (fun v41 hv41 => ?_)
  refine fz_pg_call (P := fz_TT) (fun _ q => fz_TT_putV hv41 (by decide) q) (fun v42 hv42 => ?_)
  refine fz_pg_up hv42 (by omega) fz_eT_i (fun v43 hv43 => ?_)
  refine fz_pg_call (P := fz_TT) (fun _ q => fz_TT_putV hv43 (by decide) q) (fun v44 hv44 => ?_)
  refine fz_pg_up hv44 (by omega) fz_eT_i (fun v45 hv45 => ?_)
  refine fz_pg_call (P := fz_TT) (fun _ q => fz_TT_putV hv45 (by decide) q) (fun v46 hv46 => ?_)
  refine fz_pg_up hv46 (by omega) fz_eT_i (fun v47 hv47 => ?_)
  refine fz_pg_call (P := fz_TT) (fun _ q => fz_TT_putV hv47 (by decide) q) (fun v48 hv48 => ?_)
  exact fz_pg_end hv48
theorem fz_tt_mk0 {F : Nat} : fz_PG fz_TT (mk0 F) := by
  unfold mk0
  refine fz_pg_call (fz_tt_x_X7_init (fz_TT_up fz_TT_0 (by omega) fz_eT_o) (by omega)) (fun h hh => ?_)
  exact fz_tt_x_X8_init (fz_TT_up hh (by omega) fz_eT_o) (by omega)
