theorem ty_prim {s : State} {args : Array Value} {ty : FieldType} (h : (Cond.arrayClass ty).before args s = true) (hra : ∀ cA : ClassId, s.vm.findClass ("[" ++ ty.toString) = some cA → va_RA s cA ty) : ∃ c, ArrOfT s c ty ∧ va_RA s c ty := by
  obtain ⟨c, k, comp, h1, h2, h3⟩ := Cond.arrayClass_spec h
  exact ⟨c, fun n z => ⟨(fun k h => by cases h), k, h2, comp, h3⟩, hra c h1⟩
theorem ty_obj {s : State} {args : Array Value} {n : String} (h : (Cond.arrayOver (.object n)).before args s = true) : ∃ c, ArrOfT s c (.object n) ∧ va_RA s c (.object n) := by
  obtain ⟨comp, c, k, h1, -, h2, h3, h4⟩ := Cond.arrayOver_spec h
  exact ⟨c, fun n z => ⟨(fun k h => by cases h), k, h2, comp, h3⟩, k, comp, h2, h3, h1, h4⟩
theorem start_tys {s : State} {args : Array Value} (hts : ∀ w ∈ bigW, w.before args s = true) : ∃ f : Nat → ClassId, ∀ (k : Nat) (q : ClassId × FieldType), (tyL f)[k]? = some q → ArrOfT s q.1 q.2 ∧ va_RA s q.1 q.2 := by
  obtain ⟨c0, h0⟩ := ty_prim (hts _ ac_int) (fun _ q => q)
  obtain ⟨c1, h1⟩ := ty_prim (hts _ ac_long) (fun _ q => q)
  obtain ⟨c2, h2⟩ := ty_prim (hts _ ac_boolean) (fun _ q => q)
  obtain ⟨c3, h3⟩ := ty_obj (hts _ ao_X4)
  obtain ⟨c4, h4⟩ := ty_obj (hts _ ao_X6)
  obtain ⟨c5, h5⟩ := ty_obj (hts _ ao_X3)
  refine ⟨fun k => if k = 0 then c0 else if k = 1 then c1 else if k = 2 then c2 else if k = 3 then c3 else if k = 4 then c4 else c5, ?_⟩
  intro k q hk
  match k, hk with
  | 0, hk => cases hk; exact h0
  | 1, hk => cases hk; exact h1
  | 2, hk => cases hk; exact h2
  | 3, hk => cases hk; exact h3
  | 4, hk => cases hk; exact h4
  | 5, hk => cases hk; exact h5
  | k + 6, hk => simp [tyL] at hk
/-! ## the start: classes and rows as the tables have them, the two objects made, then the loop -/
def pG0 (s : State) (dC : Nat → ClassId) (dI : Nat → Nat → Nat) (f : Nat → ClassId) : pG := (s.heap.size, (dC, dI), f)
def mk0 (F : Nat) : Option pH := (x_X7_init F 1 (va_up (fun _ => pj) 0 (.inr (7, [.null, .null, .null, .int 0, .null, .int 0, .null, .null, .int 0, .null, .null, .null, .null, .null, .int 0, .int 0, .int 0]))) 0).bind fun h => x_X8_init F 69 (va_up h 68 (.inr (8, [.int 0, .int 0, .null, .null, .null, .int 0, .int 0, .null, .null, .null, .null, .int 0, .int 0, .null, .null, .null, .null, .int 0, .null, .null, .null, .null, .null, .null, .null, .int 0, .null, .null, .null, .null]))) 68
set_option maxRecDepth 20000 in
set_option maxHeartbeats 4000000 in
theorem start_of {I : pH → Prop} {F : Nat} {h0 : pH} (hmk : mk0 F = some h0) (hI : I h0) (hst : okAll I F) {p : Program} {e : Env} {s : State} {m : MethodId} {below : List Frame} {meth : Method} {c : Code} (l : Launch) (hflags : l.flags = flags0) {b N : Nat} {xs : Nat → Int32} (hN : N ≤ 3584) (C0 : lw_At p s m meth c b N xs) : W p l e room_1 s m #[Value.ref b] below meth c s.heap [] 0 0 (lw_Z below #[Value.ref b] s) (entryFrame m ([Value.ref b] : List Value).toArray 4) := by
  obtain ⟨hx, hb, hr, hml, hown, hts, hX, hbl, hlocks, hgv⟩ := C0
  have hts2 : ∀ w ∈ bigW, w.before #[Value.ref b] s = true := fun w hw => hts w (List.mem_filter.mp hw).1
  obtain ⟨c0, iS0, hKn0⟩ := u_known (C := RX0) (T := TX0) (N := 5) (n := 5) hts2 wu_X0 (hts2 _ ins_X0)
  obtain ⟨c1, iS1, hKn1⟩ := u_known (C := RX1) (T := TX1) (N := 6) (n := 6) hts2 wu_X1 (hts2 _ ins_X1)
  obtain ⟨c2, iS2, hKn2⟩ := u_known (C := RX2) (T := TX2) (N := 8) (n := 8) hts2 wu_X2 (hts2 _ ins_X2)
  obtain ⟨c3, iS3, hKn3⟩ := u_known (C := RX3) (T := TX3) (N := 4) (n := 4) hts2 wu_X3 (hts2 _ ins_X3)
  obtain ⟨c4, iS4, hKn4⟩ := u_known (C := RX4) (T := TX4) (N := 4) (n := 4) hts2 wu_X4 (hts2 _ ins_X4)
  obtain ⟨c5, iS5, hKn5⟩ := u_known (C := RX5) (T := TX5) (N := 2) (n := 2) hts2 wu_X5 (hts2 _ ins_X5)
  obtain ⟨c6, iS6, hKn6⟩ := u_known (C := RX6) (T := TX6) (N := 3) (n := 3) hts2 wu_X6 (hts2 _ ins_X6)
  obtain ⟨c7, iS7, hKn7⟩ := u_known (C := RX7) (T := TX7) (N := 17) (n := 17) hts2 wu_X7 (hts2 _ ins_X7)
  obtain ⟨c8, iS8, hKn8⟩ := u_known (C := RX8) (T := TX8) (N := 30) (n := 30) hts2 wu_X8 (hts2 _ ins_X8)
  obtain ⟨dC, dI, hKc⟩ : ∃ (dC : Nat → ClassId) (dI : Nat → Nat → Nat), ∀ (k : Nat) (q : vw_C), vwCl[k]? = some q → u_Kn s q.1 q.2.1 q.2.2 (dC k) (dI k) := by
    refine ⟨fun k => if k = 0 then c0 else if k = 1 then c1 else if k = 2 then c2 else if k = 3 then c3 else if k = 4 then c4 else if k = 5 then c5 else if k = 6 then c6 else if k = 7 then c7 else c8, fun k => if k = 0 then iS0 else if k = 1 then iS1 else if k = 2 then iS2 else if k = 3 then iS3 else if k = 4 then iS4 else if k = 5 then iS5 else if k = 6 then iS6 else if k = 7 then iS7 else iS8, ?_⟩
    intro k q hq
    match k, hq with
    | 0, hq => cases hq; exact hKn0
    | 1, hq => cases hq; exact hKn1
    | 2, hq => cases hq; exact hKn2
    | 3, hq => cases hq; exact hKn3
    | 4, hq => cases hq; exact hKn4
    | 5, hq => cases hq; exact hKn5
    | 6, hq => cases hq; exact hKn6
    | 7, hq => cases hq; exact hKn7
    | 8, hq => cases hq; exact hKn8
    | k + 9, hq => simp [vwCl] at hq
  obtain ⟨f, hf⟩ : ∃ f : Nat → ClassId, ∀ (k : Nat) (q : ClassId × FieldType), (tyL f)[k]? = some q → ArrOfT s q.1 q.2 ∧ va_RA s q.1 q.2 := start_tys hts2
  have hK : va_K (pG0 s dC dI f).2.1 vwCl (tyL (pG0 s dC dI f).2.2) s := ⟨hKc, hf⟩
  have C : Cx (p, l, e, room_1, s, m, #[Value.ref b], below, meth, c) (pG0 s dC dI f) RL cL_law 4 room_1 0 (some .boolean) := ⟨hx, hb, hown, hts2, hK, rfl, hlocks, hml, rfl, hr⟩
  have S : Sx (p, l, e, room_1, s, m, #[Value.ref b], below, meth, c) (pG0 s dC dI f) b N xs := ⟨hX, hbl, rfl⟩
  have hl := lv_entry ([.ref b]) (n := 4) (Nat.le_of_ble_eq_true rfl)
  rw [lg_entry_eq]
  generalize (lg_sl ([.ref b]) ++ List.replicate (4 - (lg_sl ([.ref b])).length) Slot.unset).toArray = ls at hl ⊢
  have hl : lv_has ls c.maxLocals [(0, .ref b)] := by rw [hml]; exact hl
  have hW0 : pW (pG0 s dC dI f) 0 (fun _ => pj) s.heap := ⟨fun k q hk => by simp [wd] at hk, fun _ _ => rfl⟩
  obtain ⟨h1, e1, e2⟩ := ob hmk
  have main : JL (p, l, e, room_1, s, m, #[Value.ref b], below, meth, c) (pG0 s dC dI f) (lw_Z below #[Value.ref b] s) (0, 0, 0) (fun _ => pj) 0 [(0, .ref b)] [] := by
    refine jl_new (ci := 7) C rfl wu_X7 tyX7_ok cl_L_7 ins_X7 ini_X7 [.null, .null, .null, .int 0, .null, .int 0, .null, .null, .int 0, .null, .null, .null, .null, .null, .int 0, .int 0, .int 0] (by decide +kernel) rfl rfl (Nat.le_of_ble_eq_true rfl) (Nat.le_of_ble_eq_true rfl) dL_law_0 (show _ = (1, 17, 1) from rfl) (show _ = 0 from rfl) rfl ?_
    refine jl_dup C dL_law_3 rfl ?_
    refine jl_callI (a := 0) C [] lk_L_9 (mc_X7_init l (pG0 s dC dI f) F 1 e1) rfl rfl (Nat.le_of_ble_eq_true rfl) ⟨Nat.le_of_ble_eq_true rfl, Nat.le_of_ble_eq_true rfl⟩ ⟨Nat.le_of_ble_eq_true rfl, Nat.le_of_ble_eq_true rfl⟩ rfl dL_law_4 (show _ = (68, 3942, 68) from rfl) rfl ?_
    refine jl_astore_n C 1 dL_law_7 rfl rfl (by decide) ?_
    refine jl_new (ci := 8) C rfl wu_X8 tyX8_ok cl_L_10 ins_X8 ini_X8 [.int 0, .int 0, .null, .null, .null, .int 0, .int 0, .null, .null, .null, .null, .int 0, .int 0, .null, .null, .null, .null, .int 0, .null, .null, .null, .null, .null, .null, .null, .int 0, .null, .null, .null, .null] (by decide +kernel) rfl rfl (Nat.le_of_ble_eq_true rfl) (Nat.le_of_ble_eq_true rfl) dL_law_8 (show _ = (69, 3972, 69) from rfl) (show _ = 68 from rfl) rfl ?_
    refine jl_dup C dL_law_11 rfl ?_
    refine jl_callI (a := 68) C [] lk_L_12 (mc_X8_init l (pG0 s dC dI f) F 69 e2) rfl rfl (Nat.le_of_ble_eq_true rfl) ⟨Nat.le_of_ble_eq_true rfl, Nat.le_of_ble_eq_true rfl⟩ ⟨Nat.le_of_ble_eq_true rfl, Nat.le_of_ble_eq_true rfl⟩ rfl dL_law_12 (show _ = lwK from rfl) rfl ?_
    refine jl_astore_n C 2 dL_law_15 rfl rfl (by decide) ?_
    refine jl_iconst (v := 0) C dL_law_16 (by decide) ?_
    refine jl_istore_n C 3 dL_law_17 rfl rfl (by decide) ?_
    refine jl_perm [3, 2, 1, 0] rfl ?_
    refine law_loop C S hN hst ?_ (N + 1) 0 0 h0 rfl (Nat.zero_le _) (by omega) hI
    intro h i3 H locs ls hW hS hl
    refine lv_iconst (v := 1) hx hb dL_law_1046 (by decide) ?_
    refine va_forget (fun q hq => hS.2.2 q hq) ?_
    refine W.widen (k := 600000) (n := 7302250) (Nat.le_of_ble_eq_true rfl) (Nat.le_of_ble_eq_true rfl) ?_
    exact lw_ret hx hb hr hlocks dL_law_1047
  exact main s.heap [] ls hW0 va_S.rf hl
