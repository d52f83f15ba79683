def x_X0_init (F n : Nat) (h : pH) (l0 : Nat) : Option pH :=
  (some (va_up h n (.inl (1, (31, .inr (.inl (fun _ => 0))))))).bind fun v1 =>
  (putV 0 v1 l0 0 (.ref n)).bind fun v2 =>
  (some (va_up v2 (n + 1) (.inl (1, (31, .inr (.inl (fun _ => 0))))))).bind fun v3 =>
  (putV 0 v3 l0 1 (.ref (n + 1))).bind fun v4 =>
  (some (va_up v4 (n + 2) (.inl (1, (320, .inr (.inl (fun _ => 0))))))).bind fun v5 =>
  (putV 0 v5 l0 2 (.ref (n + 2))).bind fun v6 =>
  (some (va_up v6 (n + 3) (.inl (1, (320, .inr (.inl (fun _ => 0))))))).bind fun v7 =>
  (putV 0 v7 l0 3 (.ref (n + 3))).bind fun v8 =>
  some v8
set_option maxRecDepth 20000 in
theorem mc_X0_init (l : Launch) (G : pG) (F n : Nat) {h : pH} {l0 : Nat} {res : pH} (hx : x_X0_init F n h l0 = some res) : MC l yX0_init cX0_init 1 none (rmD 1 4 702) G [.ref l0] n h (none) (n + 4) res := by
  unfold x_X0_init at hx
  refine jj_entry RX0 rfl (by decide) (Nat.le_of_ble_eq_true rfl) (fun X _ hin C => ?_)
  show J X G (4, 702, none, n + 4, res) (0, 0, n) h 0 [(0, .ref l0)] []
  refine jj_aload_n C 0 0 dX0_init_0 rfl rfl ?_
  refine jj_objInit C ml_X0_3 (Nat.le_of_ble_eq_true rfl) (Nat.le_of_ble_eq_true rfl) dX0_init_1 ?_
  refine jj_aload_n C 0 0 dX0_init_4 rfl rfl ?_
  refine jj_bipush (v := 31) C dX0_init_5 (by decide) ?_
  obtain ⟨v1, ev1, hx⟩ := ob hx
  refine jj_newa (atype := .long) (ty := .long) C 1 rfl ac_long rfl (fun _ _ q => q) (31, .inr (.inl (fun _ => 0))) (fun _ => rfl) rfl (by decide) (show _ = 31 by decide) (Nat.le_of_ble_eq_true rfl) rfl (Nat.le_of_ble_eq_true rfl) (Nat.le_of_ble_eq_true rfl) dX0_init_7 (show _ = (1, 31, n + 1) from rfl) (show _ = n from rfl) (Option.some.inj ev1) ?_
  obtain ⟨v2, ev2, hx⟩ := ob hx
  refine jj_putF C fd_X0_9 rfl hin rfl rfl dX0_init_9 ev2 ?_
  refine jj_aload_n C 0 0 dX0_init_12 rfl rfl ?_
  refine jj_bipush (v := 31) C dX0_init_13 (by decide) ?_
  obtain ⟨v3, ev3, hx⟩ := ob hx
  refine jj_newa (atype := .long) (ty := .long) C 1 rfl ac_long rfl (fun _ _ q => q) (31, .inr (.inl (fun _ => 0))) (fun _ => rfl) rfl (by decide) (show _ = 31 by decide) (Nat.le_of_ble_eq_true rfl) rfl (Nat.le_of_ble_eq_true rfl) (Nat.le_of_ble_eq_true rfl) dX0_init_15 (show _ = (2, 62, n + 2) from rfl) (show _ = n + 1 from rfl) (Option.some.inj ev3) ?_
  obtain ⟨v4, ev4, hx⟩ := ob hx
  refine jj_putF C fd_X0_15 rfl hin rfl rfl dX0_init_17 ev4 ?_
  refine jj_aload_n C 0 0 dX0_init_20 rfl rfl ?_
  refine jj_sipush (v := 320) C dX0_init_21 (by decide) ?_
  obtain ⟨v5, ev5, hx⟩ := ob hx
  refine jj_newa (atype := .long) (ty := .long) C 1 rfl ac_long rfl (fun _ _ q => q) (320, .inr (.inl (fun _ => 0))) (fun _ => rfl) rfl (by decide) (show _ = 320 by decide) (Nat.le_of_ble_eq_true rfl) rfl (Nat.le_of_ble_eq_true rfl) (Nat.le_of_ble_eq_true rfl) dX0_init_24 (show _ = (3, 382, n + 3) from rfl) (show _ = n + 2 from rfl) (Option.some.inj ev5) ?_
  obtain ⟨v6, ev6, hx⟩ := ob hx
  refine jj_put C fd_X0_20 rfl rfl dX0_init_26 ev6 ?_
  refine jj_aload_n C 0 0 dX0_init_29 rfl rfl ?_
  refine jj_sipush (v := 320) C dX0_init_30 (by decide) ?_
  obtain ⟨v7, ev7, hx⟩ := ob hx
  refine jj_newa (atype := .long) (ty := .long) C 1 rfl ac_long rfl (fun _ _ q => q) (320, .inr (.inl (fun _ => 0))) (fun _ => rfl) rfl (by decide) (show _ = 320 by decide) (Nat.le_of_ble_eq_true rfl) rfl (Nat.le_of_ble_eq_true rfl) (Nat.le_of_ble_eq_true rfl) dX0_init_33 (show _ = (4, 702, n + 4) from rfl) (show _ = n + 3 from rfl) (Option.some.inj ev7) ?_
  obtain ⟨v8, ev8, hx⟩ := ob hx
  refine jj_put C fd_X0_23 rfl rfl dX0_init_35 ev8 ?_
  obtain rfl := Option.some.inj hx
  exact jj_vret C dX0_init_38 rfl
def s_X1_init_45 (F n : Nat) (l0 : Nat) (k45 : pH → Int32 → Option pH) (h : pH) (l1 : Int32) : Option pH :=
  if 121 ≤ l1 then
    some h
  else
    (getR 1 h l0 0).bind fun v1 =>
    (getR 1 h l0 0).bind fun v2 =>
    (aldI 0 h v2 ((l1 - (1 : Int32)) / (3 : Int32))).bind fun v3 =>
    (x_X1_behind F h v3 ((l1 - (1 : Int32)) - (l1 - (1 : Int32)) / (3 : Int32) * (3 : Int32))).bind fun v4 =>
    (astI 0 h v1 l1 v4).bind fun v5 =>
    k45 v5 (l1 + 1)
def x_X1_init_45 (F n : Nat) (l0 : Nat) : Nat → pH → Int32 → Option pH
  | 0, _, _ => none
  | m + 1, h, l1 => s_X1_init_45 F n l0 (x_X1_init_45 F n l0 m) h l1
theorem ts_X1_init_45 {X : pX} {G : pG} {n : Nat} {res : pH} (C : Cx X G RX1 cX1_init 2 (rmD 1 5 407) n none) (F : Nat) {l0 : Nat} {k45 : pH → Int32 → Option pH} (hk45 : ∀ (h : pH) (l1 : Int32), k45 h l1 = some res → J X G (5, 407, none, n + 5, res) (5, 407, n + 5) h 45 [(0, .ref l0), (1, .int l1)] []) {h : pH} {l1 : Int32} (hx : s_X1_init_45 F n l0 k45 h l1 = some res) : J X G (5, 407, none, n + 5, res) (5, 407, n + 5) h 45 [(0, .ref l0), (1, .int l1)] [] := by
  unfold s_X1_init_45 at hx
  refine jj_iload_n C 1 1 dX1_init_45 rfl rfl ?_
  refine jj_bipush (v := 121) C dX1_init_46 (by decide) ?_
  refine jj_icmp_ge (tgt := 81) C dX1_init_48 (by decide) (fun q48 => ?_) (fun q48 => ?_)
  · rw [if_pos q48] at hx
    obtain rfl := Option.some.inj hx
    exact jj_vret C dX1_init_81 rfl
  · rw [if_neg q48] at hx
    refine jj_aload_n C 0 0 dX1_init_51 rfl rfl ?_
    obtain ⟨v1, ev1, hx⟩ := ob hx
    refine jj_getR C fd_X1_11 dX1_init_52 ev1 ?_
    refine jj_iload_n C 1 1 dX1_init_55 rfl rfl ?_
    refine jj_aload_n C 0 0 dX1_init_56 rfl rfl ?_
    obtain ⟨v2, ev2, hx⟩ := ob hx
    refine jj_getR C fd_X1_11 dX1_init_57 ev2 ?_
    refine jj_iload_n C 1 1 dX1_init_60 rfl rfl ?_
    refine jj_iconst (v := 1) C dX1_init_61 (by decide) ?_
    refine jj_isub C dX1_init_62 ?_
    refine jj_iconst (v := 3) C dX1_init_63 (by decide) ?_
    refine jj_idiv C dX1_init_64 (by decide) ?_
    obtain ⟨v3, ev3, hx⟩ := ob hx
    refine jj_iald C dX1_init_65 ev3 ?_
    refine jj_iload_n C 1 1 dX1_init_66 rfl rfl ?_
    refine jj_iconst (v := 1) C dX1_init_67 (by decide) ?_
    refine jj_isub C dX1_init_68 ?_
    refine jj_iconst (v := 3) C dX1_init_69 (by decide) ?_
    refine jj_irem C dX1_init_70 (by decide) ?_
    obtain ⟨v4, ev4, hx⟩ := ob hx
    refine jj_callS C [.int v3, .int ((l1 - (1 : Int32)) - (l1 - (1 : Int32)) / (3 : Int32) * (3 : Int32))] lk_X1_28 (mc_X1_behind X.2.1 G F (n + 5) ev4) rfl rfl (Nat.le_of_ble_eq_true rfl) ⟨Nat.le_of_ble_eq_true rfl, Nat.le_of_ble_eq_true rfl⟩ ⟨Nat.le_of_ble_eq_true rfl, Nat.le_of_ble_eq_true rfl⟩ rfl dX1_init_71 (show _ = (5, 407, n + 5) from rfl) rfl ?_
    obtain ⟨v5, ev5, hx⟩ := ob hx
    refine jj_iast C dX1_init_74 ev5 ?_
    refine jj_iinc (v := l1 + 1) C 1 1 dX1_init_75 rfl rfl rfl (by decide) ?_
    refine jj_goto (tgt := 45) C dX1_init_78 (by decide) ?_
    refine jj_sub [1, 0] rfl ?_
    exact hk45 _ _ hx
theorem t_X1_init_45 {X : pX} {G : pG} {n : Nat} {res : pH} (C : Cx X G RX1 cX1_init 2 (rmD 1 5 407) n none) (F : Nat) {l0 : Nat} : ∀ (m : Nat) (h : pH) (l1 : Int32), x_X1_init_45 F n l0 m h l1 = some res → J X G (5, 407, none, n + 5, res) (5, 407, n + 5) h 45 [(0, .ref l0), (1, .int l1)] [] := by
  intro m
  induction m with
  | zero => intro h l1 hx; exact nomatch (show (none : Option pH) = some res from hx)
  | succ m ih => intro h l1 hx; exact ts_X1_init_45 C F ih hx
def x_X1_init (F n : Nat) (h : pH) (l0 : Nat) : Option pH :=
  (some (va_up h n (.inl (0, (121, .inl (fun _ => 0)))))).bind fun v1 =>
  (putV 1 v1 l0 0 (.ref n)).bind fun v2 =>
  (some (va_up v2 (n + 1) (.inl (0, (121, .inl (fun _ => 0)))))).bind fun v3 =>
  (putV 1 v3 l0 1 (.ref (n + 1))).bind fun v4 =>
  (some (va_up v4 (n + 2) (.inl (0, (121, .inl (fun _ => 0)))))).bind fun v5 =>
  (putV 1 v5 l0 2 (.ref (n + 2))).bind fun v6 =>
  (some (va_up v6 (n + 3) (.inl (2, (40, .inl (fun _ => 0)))))).bind fun v7 =>
  (putV 1 v7 l0 3 (.ref (n + 3))).bind fun v8 =>
  (some (va_up v8 (n + 4) (.inl (0, (4, .inl (fun _ => 0)))))).bind fun v9 =>
  (putV 1 v9 l0 4 (.ref (n + 4))).bind fun v10 =>
  x_X1_init_45 F n l0 F v10 4
set_option maxRecDepth 20000 in
theorem mc_X1_init (l : Launch) (G : pG) (F n : Nat) {h : pH} {l0 : Nat} {res : pH} (hx : x_X1_init F n h l0 = some res) : MC l yX1_init cX1_init 2 none (rmD 1 5 407) G [.ref l0] n h (none) (n + 5) res := by
  unfold x_X1_init at hx
  refine jj_entry RX1 rfl (by decide) (Nat.le_of_ble_eq_true rfl) (fun X _ hin C => ?_)
  show J X G (5, 407, none, n + 5, res) (0, 0, n) h 0 [(0, .ref l0)] []
  refine jj_aload_n C 0 0 dX1_init_0 rfl rfl ?_
  refine jj_objInit C ml_X1_3 (Nat.le_of_ble_eq_true rfl) (Nat.le_of_ble_eq_true rfl) dX1_init_1 ?_
  refine jj_aload_n C 0 0 dX1_init_4 rfl rfl ?_
  refine jj_bipush (v := 121) C dX1_init_5 (by decide) ?_
  obtain ⟨v1, ev1, hx⟩ := ob hx
  refine jj_newa (atype := .int) (ty := .int) C 0 rfl ac_int rfl (fun _ _ q => q) (121, .inl (fun _ => 0)) (fun _ => rfl) rfl (by decide) (show _ = 121 by decide) (Nat.le_of_ble_eq_true rfl) rfl (Nat.le_of_ble_eq_true rfl) (Nat.le_of_ble_eq_true rfl) dX1_init_7 (show _ = (1, 121, n + 1) from rfl) (show _ = n from rfl) (Option.some.inj ev1) ?_
  obtain ⟨v2, ev2, hx⟩ := ob hx
  refine jj_putF C fd_X1_11 rfl hin rfl rfl dX1_init_9 ev2 ?_
  refine jj_aload_n C 0 0 dX1_init_12 rfl rfl ?_
  refine jj_bipush (v := 121) C dX1_init_13 (by decide) ?_
  obtain ⟨v3, ev3, hx⟩ := ob hx
  refine jj_newa (atype := .int) (ty := .int) C 0 rfl ac_int rfl (fun _ _ q => q) (121, .inl (fun _ => 0)) (fun _ => rfl) rfl (by decide) (show _ = 121 by decide) (Nat.le_of_ble_eq_true rfl) rfl (Nat.le_of_ble_eq_true rfl) (Nat.le_of_ble_eq_true rfl) dX1_init_15 (show _ = (2, 242, n + 2) from rfl) (show _ = n + 1 from rfl) (Option.some.inj ev3) ?_
  obtain ⟨v4, ev4, hx⟩ := ob hx
  refine jj_putF C fd_X1_15 rfl hin rfl rfl dX1_init_17 ev4 ?_
  refine jj_aload_n C 0 0 dX1_init_20 rfl rfl ?_
  refine jj_bipush (v := 121) C dX1_init_21 (by decide) ?_
  obtain ⟨v5, ev5, hx⟩ := ob hx
  refine jj_newa (atype := .int) (ty := .int) C 0 rfl ac_int rfl (fun _ _ q => q) (121, .inl (fun _ => 0)) (fun _ => rfl) rfl (by decide) (show _ = 121 by decide) (Nat.le_of_ble_eq_true rfl) rfl (Nat.le_of_ble_eq_true rfl) (Nat.le_of_ble_eq_true rfl) dX1_init_23 (show _ = (3, 363, n + 3) from rfl) (show _ = n + 2 from rfl) (Option.some.inj ev5) ?_
  obtain ⟨v6, ev6, hx⟩ := ob hx
  refine jj_putF C fd_X1_18 rfl hin rfl rfl dX1_init_25 ev6 ?_
  refine jj_aload_n C 0 0 dX1_init_28 rfl rfl ?_
  refine jj_bipush (v := 40) C dX1_init_29 (by decide) ?_
  obtain ⟨v7, ev7, hx⟩ := ob hx
  refine jj_newa (atype := .boolean) (ty := .boolean) C 2 rfl ac_boolean rfl (fun _ _ q => q) (40, .inl (fun _ => 0)) (fun _ => rfl) rfl (by decide) (show _ = 40 by decide) (Nat.le_of_ble_eq_true rfl) rfl (Nat.le_of_ble_eq_true rfl) (Nat.le_of_ble_eq_true rfl) dX1_init_31 (show _ = (4, 403, n + 4) from rfl) (show _ = n + 3 from rfl) (Option.some.inj ev7) ?_
  obtain ⟨v8, ev8, hx⟩ := ob hx
  refine jj_putF C fd_X1_21 rfl hin rfl rfl dX1_init_33 ev8 ?_
  refine jj_aload_n C 0 0 dX1_init_36 rfl rfl ?_
  refine jj_iconst (v := 4) C dX1_init_37 (by decide) ?_
  obtain ⟨v9, ev9, hx⟩ := ob hx
  refine jj_newa (atype := .int) (ty := .int) C 0 rfl ac_int rfl (fun _ _ q => q) (4, .inl (fun _ => 0)) (fun _ => rfl) rfl (by decide) (show _ = 4 by decide) (Nat.le_of_ble_eq_true rfl) rfl (Nat.le_of_ble_eq_true rfl) (Nat.le_of_ble_eq_true rfl) dX1_init_38 (show _ = (5, 407, n + 5) from rfl) (show _ = n + 4 from rfl) (Option.some.inj ev9) ?_
  obtain ⟨v10, ev10, hx⟩ := ob hx
  refine jj_putF C fd_X1_25 rfl hin rfl rfl dX1_init_40 ev10 ?_
  refine jj_iconst (v := 4) C dX1_init_43 (by decide) ?_
  refine jj_istore_n C 1 dX1_init_44 rfl rfl (by decide) ?_
  refine jj_sub [1, 0] rfl ?_
  exact t_X1_init_45 C F F _ _ hx
def x_X2_init (F n : Nat) (h : pH) (l0 : Nat) : Option pH :=
  (some (va_up h n (.inl (0, (640, .inl (fun _ => 0)))))).bind fun v1 =>
  (putV 2 v1 l0 0 (.ref n)).bind fun v2 =>
  (some (va_up v2 (n + 1) (.inl (0, (320, .inl (fun _ => 0)))))).bind fun v3 =>
  (putV 2 v3 l0 1 (.ref (n + 1))).bind fun v4 =>
  (some (va_up v4 (n + 2) (.inl (0, (320, .inl (fun _ => 0)))))).bind fun v5 =>
  (putV 2 v5 l0 2 (.ref (n + 2))).bind fun v6 =>
  (some (va_up v6 (n + 3) (.inl (0, (960, .inl (fun _ => 0)))))).bind fun v7 =>
  (putV 2 v7 l0 3 (.ref (n + 3))).bind fun v8 =>
  (some (va_up v8 (n + 4) (.inl (0, (16, .inl (fun _ => 0)))))).bind fun v9 =>
  (putV 2 v9 l0 4 (.ref (n + 4))).bind fun v10 =>
  some v10
set_option maxRecDepth 20000 in
theorem mc_X2_init (l : Launch) (G : pG) (F n : Nat) {h : pH} {l0 : Nat} {res : pH} (hx : x_X2_init F n h l0 = some res) : MC l yX2_init cX2_init 1 none (rmD 1 5 2256) G [.ref l0] n h (none) (n + 5) res := by
  unfold x_X2_init at hx
  refine jj_entry RX2 rfl (by decide) (Nat.le_of_ble_eq_true rfl) (fun X _ hin C => ?_)
  show J X G (5, 2256, none, n + 5, res) (0, 0, n) h 0 [(0, .ref l0)] []
  refine jj_aload_n C 0 0 dX2_init_0 rfl rfl ?_
  refine jj_objInit C ml_X2_5 (Nat.le_of_ble_eq_true rfl) (Nat.le_of_ble_eq_true rfl) dX2_init_1 ?_
  refine jj_aload_n C 0 0 dX2_init_4 rfl rfl ?_
  refine jj_sipush (v := 640) C dX2_init_5 (by decide) ?_
  obtain ⟨v1, ev1, hx⟩ := ob hx
  refine jj_newa (atype := .int) (ty := .int) C 0 rfl ac_int rfl (fun _ _ q => q) (640, .inl (fun _ => 0)) (fun _ => rfl) rfl (by decide) (show _ = 640 by decide) (Nat.le_of_ble_eq_true rfl) rfl (Nat.le_of_ble_eq_true rfl) (Nat.le_of_ble_eq_true rfl) dX2_init_8 (show _ = (1, 640, n + 1) from rfl) (show _ = n from rfl) (Option.some.inj ev1) ?_
  obtain ⟨v2, ev2, hx⟩ := ob hx
  refine jj_putF C fd_X2_13 rfl hin rfl rfl dX2_init_10 ev2 ?_
  refine jj_aload_n C 0 0 dX2_init_13 rfl rfl ?_
  refine jj_sipush (v := 320) C dX2_init_14 (by decide) ?_
  obtain ⟨v3, ev3, hx⟩ := ob hx
  refine jj_newa (atype := .int) (ty := .int) C 0 rfl ac_int rfl (fun _ _ q => q) (320, .inl (fun _ => 0)) (fun _ => rfl) rfl (by decide) (show _ = 320 by decide) (Nat.le_of_ble_eq_true rfl) rfl (Nat.le_of_ble_eq_true rfl) (Nat.le_of_ble_eq_true rfl) dX2_init_17 (show _ = (2, 960, n + 2) from rfl) (show _ = n + 1 from rfl) (Option.some.inj ev3) ?_
  obtain ⟨v4, ev4, hx⟩ := ob hx
  refine jj_putF C fd_X2_17 rfl hin rfl rfl dX2_init_19 ev4 ?_
  refine jj_aload_n C 0 0 dX2_init_22 rfl rfl ?_
  refine jj_sipush (v := 320) C dX2_init_23 (by decide) ?_
  obtain ⟨v5, ev5, hx⟩ := ob hx
  refine jj_newa (atype := .int) (ty := .int) C 0 rfl ac_int rfl (fun _ _ q => q) (320, .inl (fun _ => 0)) (fun _ => rfl) rfl (by decide) (show _ = 320 by decide) (Nat.le_of_ble_eq_true rfl) rfl (Nat.le_of_ble_eq_true rfl) (Nat.le_of_ble_eq_true rfl) dX2_init_26 (show _ = (3, 1280, n + 3) from rfl) (show _ = n + 2 from rfl) (Option.some.inj ev5) ?_
  obtain ⟨v6, ev6, hx⟩ := ob hx
  refine jj_putF C fd_X2_20 rfl hin rfl rfl dX2_init_28 ev6 ?_
  refine jj_aload_n C 0 0 dX2_init_31 rfl rfl ?_
  refine jj_sipush (v := 960) C dX2_init_32 (by decide) ?_
  obtain ⟨v7, ev7, hx⟩ := ob hx
  refine jj_newa (atype := .int) (ty := .int) C 0 rfl ac_int rfl (fun _ _ q => q) (960, .inl (fun _ => 0)) (fun _ => rfl) rfl (by decide) (show _ = 960 by decide) (Nat.le_of_ble_eq_true rfl) rfl (Nat.le_of_ble_eq_true rfl) (Nat.le_of_ble_eq_true rfl) dX2_init_35 (show _ = (4, 2240, n + 4) from rfl) (show _ = n + 3 from rfl) (Option.some.inj ev7) ?_
  obtain ⟨v8, ev8, hx⟩ := ob hx
  refine jj_putF C fd_X2_23 rfl hin rfl rfl dX2_init_37 ev8 ?_
  refine jj_aload_n C 0 0 dX2_init_40 rfl rfl ?_
  refine jj_bipush (v := 16) C dX2_init_41 (by decide) ?_
  obtain ⟨v9, ev9, hx⟩ := ob hx
  refine jj_newa (atype := .int) (ty := .int) C 0 rfl ac_int rfl (fun _ _ q => q) (16, .inl (fun _ => 0)) (fun _ => rfl) rfl (by decide) (show _ = 16 by decide) (Nat.le_of_ble_eq_true rfl) rfl (Nat.le_of_ble_eq_true rfl) (Nat.le_of_ble_eq_true rfl) dX2_init_43 (show _ = (5, 2256, n + 5) from rfl) (show _ = n + 4 from rfl) (Option.some.inj ev9) ?_
  obtain ⟨v10, ev10, hx⟩ := ob hx
  refine jj_putF C fd_X2_26 rfl hin rfl rfl dX2_init_45 ev10 ?_
  obtain rfl := Option.some.inj hx
  exact jj_vret C dX2_init_48 rfl
def x_X3_init (F n : Nat) (h : pH) (l0 : Nat) : Option pH :=
  (some (va_up h n (.inl (0, (8, .inl (fun _ => 0)))))).bind fun v1 =>
  (putV 3 v1 l0 0 (.ref n)).bind fun v2 =>
  some v2
set_option maxRecDepth 20000 in
theorem mc_X3_init (l : Launch) (G : pG) (F n : Nat) {h : pH} {l0 : Nat} {res : pH} (hx : x_X3_init F n h l0 = some res) : MC l yX3_init cX3_init 1 none (rmD 1 1 8) G [.ref l0] n h (none) (n + 1) res := by
  unfold x_X3_init at hx
  refine jj_entry RX3 rfl (by decide) (Nat.le_of_ble_eq_true rfl) (fun X _ hin C => ?_)
  show J X G (1, 8, none, n + 1, res) (0, 0, n) h 0 [(0, .ref l0)] []
  refine jj_aload_n C 0 0 dX3_init_0 rfl rfl ?_
  refine jj_objInit C ml_X3_3 (Nat.le_of_ble_eq_true rfl) (Nat.le_of_ble_eq_true rfl) dX3_init_1 ?_
  refine jj_aload_n C 0 0 dX3_init_4 rfl rfl ?_
  refine jj_bipush (v := 8) C dX3_init_5 (by decide) ?_
  obtain ⟨v1, ev1, hx⟩ := ob hx
  refine jj_newa (atype := .int) (ty := .int) C 0 rfl ac_int rfl (fun _ _ q => q) (8, .inl (fun _ => 0)) (fun _ => rfl) rfl (by decide) (show _ = 8 by decide) (Nat.le_of_ble_eq_true rfl) rfl (Nat.le_of_ble_eq_true rfl) (Nat.le_of_ble_eq_true rfl) dX3_init_7 (show _ = (1, 8, n + 1) from rfl) (show _ = n from rfl) (Option.some.inj ev1) ?_
  obtain ⟨v2, ev2, hx⟩ := ob hx
  refine jj_putF C fd_X3_9 rfl hin rfl rfl dX3_init_9 ev2 ?_
  obtain rfl := Option.some.inj hx
  exact jj_vret C dX3_init_12 rfl
def x_X4_init (F n : Nat) (h : pH) (l0 : Nat) : Option pH :=
  (some (va_up h n (.inl (0, (60, .inl (fun _ => 0)))))).bind fun v1 =>
  (putV 4 v1 l0 0 (.ref n)).bind fun v2 =>
  some v2
set_option maxRecDepth 20000 in
theorem mc_X4_init (l : Launch) (G : pG) (F n : Nat) {h : pH} {l0 : Nat} {res : pH} (hx : x_X4_init F n h l0 = some res) : MC l yX4_init cX4_init 1 none (rmD 1 1 60) G [.ref l0] n h (none) (n + 1) res := by
  unfold x_X4_init at hx
  refine jj_entry RX4 rfl (by decide) (Nat.le_of_ble_eq_true rfl) (fun X _ hin C => ?_)
  show J X G (1, 60, none, n + 1, res) (0, 0, n) h 0 [(0, .ref l0)] []
  refine jj_aload_n C 0 0 dX4_init_0 rfl rfl ?_
  refine jj_objInit C ml_X4_3 (Nat.le_of_ble_eq_true rfl) (Nat.le_of_ble_eq_true rfl) dX4_init_1 ?_
  refine jj_aload_n C 0 0 dX4_init_4 rfl rfl ?_
  refine jj_bipush (v := 60) C dX4_init_5 (by decide) ?_
  obtain ⟨v1, ev1, hx⟩ := ob hx
  refine jj_newa (atype := .int) (ty := .int) C 0 rfl ac_int rfl (fun _ _ q => q) (60, .inl (fun _ => 0)) (fun _ => rfl) rfl (by decide) (show _ = 60 by decide) (Nat.le_of_ble_eq_true rfl) rfl (Nat.le_of_ble_eq_true rfl) (Nat.le_of_ble_eq_true rfl) dX4_init_7 (show _ = (1, 60, n + 1) from rfl) (show _ = n from rfl) (Option.some.inj ev1) ?_
  obtain ⟨v2, ev2, hx⟩ := ob hx
  refine jj_putF C fd_X4_9 rfl hin rfl rfl dX4_init_9 ev2 ?_
  obtain rfl := Option.some.inj hx
  exact jj_vret C dX4_init_12 rfl
def x_X6_init (F n : Nat) (h : pH) (l0 : Nat) : Option pH :=
  (some (va_up h n (.inl (0, (4, .inl (fun _ => 0)))))).bind fun v1 =>
  (putV 6 v1 l0 0 (.ref n)).bind fun v2 =>
  some v2
set_option maxRecDepth 20000 in
theorem mc_X6_init (l : Launch) (G : pG) (F n : Nat) {h : pH} {l0 : Nat} {res : pH} (hx : x_X6_init F n h l0 = some res) : MC l yX6_init cX6_init 1 none (rmD 1 1 4) G [.ref l0] n h (none) (n + 1) res := by
  unfold x_X6_init at hx
  refine jj_entry RX6 rfl (by decide) (Nat.le_of_ble_eq_true rfl) (fun X _ hin C => ?_)
  show J X G (1, 4, none, n + 1, res) (0, 0, n) h 0 [(0, .ref l0)] []
  refine jj_aload_n C 0 0 dX6_init_0 rfl rfl ?_
  refine jj_objInit C ml_X6_3 (Nat.le_of_ble_eq_true rfl) (Nat.le_of_ble_eq_true rfl) dX6_init_1 ?_
  refine jj_aload_n C 0 0 dX6_init_4 rfl rfl ?_
  refine jj_iconst (v := 4) C dX6_init_5 (by decide) ?_
  obtain ⟨v1, ev1, hx⟩ := ob hx
  refine jj_newa (atype := .int) (ty := .int) C 0 rfl ac_int rfl (fun _ _ q => q) (4, .inl (fun _ => 0)) (fun _ => rfl) rfl (by decide) (show _ = 4 by decide) (Nat.le_of_ble_eq_true rfl) rfl (Nat.le_of_ble_eq_true rfl) (Nat.le_of_ble_eq_true rfl) dX6_init_6 (show _ = (1, 4, n + 1) from rfl) (show _ = n from rfl) (Option.some.inj ev1) ?_
  obtain ⟨v2, ev2, hx⟩ := ob hx
  refine jj_putF C fd_X6_9 rfl hin rfl rfl dX6_init_8 ev2 ?_
  obtain rfl := Option.some.inj hx
  exact jj_vret C dX6_init_11 rfl
def x_X7_newWords (F n : Nat) (h : pH)  : Option (Nat × pH) :=
  (some (va_up h n (.inl (4, 4, .inr (.inr (.inr (.inr (fun _ => none)))))))).bind fun v1 =>
  (some (va_up v1 (n + 1) (.inr (6, [.null, .int 0, .int 0])))).bind fun v2 =>
  (x_X6_init F (n + 2) v2 (n + 1)).bind fun v3 =>
  (astR 4 6 v3 n 0 (n + 1)).bind fun v4 =>
  (some (va_up v4 (n + 3) (.inr (6, [.null, .int 0, .int 0])))).bind fun v5 =>
  (x_X6_init F (n + 4) v5 (n + 3)).bind fun v6 =>
  (astR 4 6 v6 n 1 (n + 3)).bind fun v7 =>
  (some (va_up v7 (n + 5) (.inr (6, [.null, .int 0, .int 0])))).bind fun v8 =>
  (x_X6_init F (n + 6) v8 (n + 5)).bind fun v9 =>
  (astR 4 6 v9 n 2 (n + 5)).bind fun v10 =>
  (some (va_up v10 (n + 7) (.inr (6, [.null, .int 0, .int 0])))).bind fun v11 =>
  (x_X6_init F (n + 8) v11 (n + 7)).bind fun v12 =>
  (astR 4 6 v12 n 3 (n + 7)).bind fun v13 =>
  some (n, v13)
set_option maxRecDepth 20000 in
theorem mc_X7_newWords (l : Launch) (G : pG) (F n : Nat) {h : pH}  {res : (Nat × pH)} (hx : x_X7_newWords F n h  = some res) : MC l yX7_newWords cX7_newWords 2 (some ((FieldType.array (FieldType.object "OneLongRow$Word")))) (rmD 2 9 32) G [] n h (some (.ref res.1)) (n + 9) res.2 := by
  unfold x_X7_newWords at hx
  refine jj_entry RX7 rfl (by decide) (Nat.le_of_ble_eq_true rfl) (fun X _ hin C => ?_)
  show J X G (9, 32, some (.ref res.1), n + 9, res.2) (0, 0, n) h 0 [] []
  refine jj_iconst (v := 4) C dX7_newWords_0 (by decide) ?_
  obtain ⟨v1, ev1, hx⟩ := ob hx
  refine jj_anew C 4 cl_X7_45 ao_X6 rfl (by decide) (show _ = 4 by decide) (Nat.le_of_ble_eq_true rfl) rfl (Nat.le_of_ble_eq_true rfl) (Nat.le_of_ble_eq_true rfl) dX7_newWords_1 (show _ = (1, 4, n + 1) from rfl) (show _ = n from rfl) (Option.some.inj ev1) ?_
  refine jj_astore_n C 0 dX7_newWords_4 rfl rfl (by decide) ?_
  refine jj_iconst (v := 0) C dX7_newWords_5 (by decide) ?_
  refine jj_istore_n C 1 dX7_newWords_6 rfl rfl (by decide) ?_
  refine jj_iload_n C 1 0 dX7_newWords_7 rfl rfl ?_
  refine jj_iconst (v := 4) C dX7_newWords_8 (by decide) ?_
  refine jj_icmp_ge (tgt := 28) C dX7_newWords_9 (by decide) (fun q => absurd q (by decide)) (fun q => ?_)
  refine jj_aload_n C 0 1 dX7_newWords_12 rfl rfl ?_
  refine jj_iload_n C 1 0 dX7_newWords_13 rfl rfl ?_
  obtain ⟨v2, ev2, hx⟩ := ob hx
  refine jj_new (ci := 6) C rfl wu_X6 tyX6_ok cl_X7_45 ins_X6 ini_X6 [.null, .int 0, .int 0] (by decide +kernel) rfl rfl (Nat.le_of_ble_eq_true rfl) (Nat.le_of_ble_eq_true rfl) dX7_newWords_14 (show _ = (2, 7, n + 2) from rfl) (show _ = n + 1 from rfl) (Option.some.inj ev2) ?_
  refine jj_dup C dX7_newWords_17 rfl ?_
  obtain ⟨v3, ev3, hx⟩ := ob hx
  refine jj_callIN C [] lk_X7_47 (mc_X6_init X.2.1 G F (n + 2) ev3) rfl rfl (Nat.le_of_ble_eq_true rfl) ⟨Nat.le_of_ble_eq_true rfl, Nat.le_of_ble_eq_true rfl⟩ ⟨Nat.le_of_ble_eq_true rfl, Nat.le_of_ble_eq_true rfl⟩ rfl dX7_newWords_18 (show _ = (3, 11, n + 3) from rfl) rfl ?_
  obtain ⟨v4, ev4, hx⟩ := ob hx
  refine jj_aast C 4 6 rfl rfl dX7_newWords_21 ev4 ?_
  refine jj_iinc (v := 1) C 1 0 dX7_newWords_22 rfl (by decide) rfl (by decide) ?_
  refine jj_goto (tgt := 7) C dX7_newWords_25 (by decide) ?_
  refine jj_iload_n C 1 0 dX7_newWords_7 rfl rfl ?_
  refine jj_iconst (v := 4) C dX7_newWords_8 (by decide) ?_
  refine jj_icmp_ge (tgt := 28) C dX7_newWords_9 (by decide) (fun q => absurd q (by decide)) (fun q => ?_)
  refine jj_aload_n C 0 1 dX7_newWords_12 rfl rfl ?_
  refine jj_iload_n C 1 0 dX7_newWords_13 rfl rfl ?_
  obtain ⟨v5, ev5, hx⟩ := ob hx
  refine jj_new (ci := 6) C rfl wu_X6 tyX6_ok cl_X7_45 ins_X6 ini_X6 [.null, .int 0, .int 0] (by decide +kernel) rfl rfl (Nat.le_of_ble_eq_true rfl) (Nat.le_of_ble_eq_true rfl) dX7_newWords_14 (show _ = (4, 14, n + 4) from rfl) (show _ = n + 3 from rfl) (Option.some.inj ev5) ?_
  refine jj_dup C dX7_newWords_17 rfl ?_
  obtain ⟨v6, ev6, hx⟩ := ob hx
  refine jj_callIN C [] lk_X7_47 (mc_X6_init X.2.1 G F (n + 4) ev6) rfl rfl (Nat.le_of_ble_eq_true rfl) ⟨Nat.le_of_ble_eq_true rfl, Nat.le_of_ble_eq_true rfl⟩ ⟨Nat.le_of_ble_eq_true rfl, Nat.le_of_ble_eq_true rfl⟩ rfl dX7_newWords_18 (show _ = (5, 18, n + 5) from rfl) rfl ?_
  obtain ⟨v7, ev7, hx⟩ := ob hx
  refine jj_aast C 4 6 rfl rfl dX7_newWords_21 ev7 ?_
  refine jj_iinc (v := 2) C 1 0 dX7_newWords_22 rfl (by decide) rfl (by decide) ?_
  refine jj_goto (tgt := 7) C dX7_newWords_25 (by decide) ?_
  refine jj_iload_n C 1 0 dX7_newWords_7 rfl rfl ?_
  refine jj_iconst (v := 4) C dX7_newWords_8 (by decide) ?_
  refine jj_icmp_ge (tgt := 28) C dX7_newWords_9 (by decide) (fun q => absurd q (by decide)) (fun q => ?_)
  refine jj_aload_n C 0 1 dX7_newWords_12 rfl rfl ?_
  refine jj_iload_n C 1 0 dX7_newWords_13 rfl rfl ?_
  obtain ⟨v8, ev8, hx⟩ := ob hx
  refine jj_new (ci := 6) C rfl wu_X6 tyX6_ok cl_X7_45 ins_X6 ini_X6 [.null, .int 0, .int 0] (by decide +kernel) rfl rfl (Nat.le_of_ble_eq_true rfl) (Nat.le_of_ble_eq_true rfl) dX7_newWords_14 (show _ = (6, 21, n + 6) from rfl) (show _ = n + 5 from rfl) (Option.some.inj ev8) ?_
  refine jj_dup C dX7_newWords_17 rfl ?_
  obtain ⟨v9, ev9, hx⟩ := ob hx
  refine jj_callIN C [] lk_X7_47 (mc_X6_init X.2.1 G F (n + 6) ev9) rfl rfl (Nat.le_of_ble_eq_true rfl) ⟨Nat.le_of_ble_eq_true rfl, Nat.le_of_ble_eq_true rfl⟩ ⟨Nat.le_of_ble_eq_true rfl, Nat.le_of_ble_eq_true rfl⟩ rfl dX7_newWords_18 (show _ = (7, 25, n + 7) from rfl) rfl ?_
  obtain ⟨v10, ev10, hx⟩ := ob hx
  refine jj_aast C 4 6 rfl rfl dX7_newWords_21 ev10 ?_
  refine jj_iinc (v := 3) C 1 0 dX7_newWords_22 rfl (by decide) rfl (by decide) ?_
  refine jj_goto (tgt := 7) C dX7_newWords_25 (by decide) ?_
  refine jj_iload_n C 1 0 dX7_newWords_7 rfl rfl ?_
  refine jj_iconst (v := 4) C dX7_newWords_8 (by decide) ?_
  refine jj_icmp_ge (tgt := 28) C dX7_newWords_9 (by decide) (fun q => absurd q (by decide)) (fun q => ?_)
  refine jj_aload_n C 0 1 dX7_newWords_12 rfl rfl ?_
  refine jj_iload_n C 1 0 dX7_newWords_13 rfl rfl ?_
  obtain ⟨v11, ev11, hx⟩ := ob hx
  refine jj_new (ci := 6) C rfl wu_X6 tyX6_ok cl_X7_45 ins_X6 ini_X6 [.null, .int 0, .int 0] (by decide +kernel) rfl rfl (Nat.le_of_ble_eq_true rfl) (Nat.le_of_ble_eq_true rfl) dX7_newWords_14 (show _ = (8, 28, n + 8) from rfl) (show _ = n + 7 from rfl) (Option.some.inj ev11) ?_
  refine jj_dup C dX7_newWords_17 rfl ?_
  obtain ⟨v12, ev12, hx⟩ := ob hx
  refine jj_callIN C [] lk_X7_47 (mc_X6_init X.2.1 G F (n + 8) ev12) rfl rfl (Nat.le_of_ble_eq_true rfl) ⟨Nat.le_of_ble_eq_true rfl, Nat.le_of_ble_eq_true rfl⟩ ⟨Nat.le_of_ble_eq_true rfl, Nat.le_of_ble_eq_true rfl⟩ rfl dX7_newWords_18 (show _ = (9, 32, n + 9) from rfl) rfl ?_
  obtain ⟨v13, ev13, hx⟩ := ob hx
  refine jj_aast C 4 6 rfl rfl dX7_newWords_21 ev13 ?_
  refine jj_iinc (v := 4) C 1 0 dX7_newWords_22 rfl (by decide) rfl (by decide) ?_
  refine jj_goto (tgt := 7) C dX7_newWords_25 (by decide) ?_
  refine jj_iload_n C 1 0 dX7_newWords_7 rfl rfl ?_
  refine jj_iconst (v := 4) C dX7_newWords_8 (by decide) ?_
  refine jj_icmp_ge (tgt := 28) C dX7_newWords_9 (by decide) (fun q => ?_) (fun q => absurd q (by decide))
  refine jj_aload_n C 0 1 dX7_newWords_28 rfl rfl ?_
  obtain rfl := Option.some.inj hx
  exact jj_aret C (Or.inr ⟨_, rfl⟩) dX7_newWords_29 rfl
def x_X5_init (F n : Nat) (h : pH) (l0 : Nat) : Option pH :=
  (x_X7_newWords F n h).bind fun v1 =>
  (putV 5 v1.2 l0 0 (.ref v1.1)).bind fun v2 =>
  some v2
set_option maxRecDepth 20000 in
theorem mc_X5_init (l : Launch) (G : pG) (F n : Nat) {h : pH} {l0 : Nat} {res : pH} (hx : x_X5_init F n h l0 = some res) : MC l yX5_init cX5_init 1 none (rmD 3 9 32) G [.ref l0] n h (none) (n + 9) res := by
  unfold x_X5_init at hx
  refine jj_entry RX5 rfl (by decide) (Nat.le_of_ble_eq_true rfl) (fun X _ hin C => ?_)
  show J X G (9, 32, none, n + 9, res) (0, 0, n) h 0 [(0, .ref l0)] []
  refine jj_aload_n C 0 0 dX5_init_0 rfl rfl ?_
  refine jj_objInit C ml_X5_3 (Nat.le_of_ble_eq_true rfl) (Nat.le_of_ble_eq_true rfl) dX5_init_1 ?_
  refine jj_aload_n C 0 0 dX5_init_4 rfl rfl ?_
  obtain ⟨v1, ev1, hx⟩ := ob hx
  refine jj_callSN C [] lk_X5_9 (mc_X7_newWords X.2.1 G F n ev1) rfl rfl (Nat.le_of_ble_eq_true rfl) ⟨Nat.le_of_ble_eq_true rfl, Nat.le_of_ble_eq_true rfl⟩ ⟨Nat.le_of_ble_eq_true rfl, Nat.le_of_ble_eq_true rfl⟩ rfl dX5_init_5 (show _ = (9, 32, n + 9) from rfl) rfl ?_
  obtain ⟨v2, ev2, hx⟩ := ob hx
  refine jj_put C fd_X5_13 rfl rfl dX5_init_8 ev2 ?_
  obtain rfl := Option.some.inj hx
  exact jj_vret C dX5_init_11 rfl
def x_X7_init (F n : Nat) (h : pH) (l0 : Nat) : Option pH :=
  (some (va_up h n (.inl (3, 4, .inr (.inr (.inr (.inr (fun _ => none)))))))).bind fun v1 =>
  (putV 7 v1 l0 0 (.ref n)).bind fun v2 =>
  (some (va_up v2 (n + 1) (.inr (5, [.null, .int 0])))).bind fun v3 =>
  (x_X5_init F (n + 2) v3 (n + 1)).bind fun v4 =>
  (putV 7 v4 l0 1 (.ref (n + 1))).bind fun v5 =>
  (x_X7_newWords F (n + 11) v5).bind fun v6 =>
  (putV 7 v6.2 l0 2 (.ref v6.1)).bind fun v7 =>
  (some (va_up v7 (n + 20) (.inl (0, (60, .inl (fun _ => 0)))))).bind fun v8 =>
  (putV 7 v8 l0 4 (.ref (n + 20))).bind fun v9 =>
  (some (va_up v9 (n + 21) (.inl (0, (40, .inl (fun _ => 0)))))).bind fun v10 =>
  (putV 7 v10 l0 6 (.ref (n + 21))).bind fun v11 =>
  (some (va_up v11 (n + 22) (.inl (5, 8, .inr (.inr (.inr (.inr (fun _ => none)))))))).bind fun v12 =>
  (putV 7 v12 l0 7 (.ref (n + 22))).bind fun v13 =>
  (some (va_up v13 (n + 23) (.inr (6, [.null, .int 0, .int 0])))).bind fun v14 =>
  (x_X6_init F (n + 24) v14 (n + 23)).bind fun v15 =>
  (putV 7 v15 l0 9 (.ref (n + 23))).bind fun v16 =>
  (some (va_up v16 (n + 25) (.inl (0, (4, .inl (fun _ => 0)))))).bind fun v17 =>
  (putV 7 v17 l0 10 (.ref (n + 25))).bind fun v18 =>
  (some (va_up v18 (n + 26) (.inr (1, [.null, .null, .null, .null, .null, .int 0])))).bind fun v19 =>
  (x_X1_init F (n + 27) v19 (n + 26)).bind fun v20 =>
  (putV 7 v20 l0 11 (.ref (n + 26))).bind fun v21 =>
  (some (va_up v21 (n + 32) (.inr (2, [.null, .null, .null, .null, .null, .int 0, .int 0, .int 0])))).bind fun v22 =>
  (x_X2_init F (n + 33) v22 (n + 32)).bind fun v23 =>
  (putV 7 v23 l0 12 (.ref (n + 32))).bind fun v24 =>
  (some (va_up v24 (n + 38) (.inr (0, [.null, .null, .null, .null, .int 0])))).bind fun v25 =>
  (x_X0_init F (n + 39) v25 (n + 38)).bind fun v26 =>
  (putV 7 v26 l0 13 (.ref (n + 38))).bind fun v27 =>
  (putZ 7 v27 l0 14 (1 : Int32)).bind fun v28 =>
  (getR 7 v28 l0 0).bind fun v29 =>
  (some (va_up v28 (n + 43) (.inr (4, [.null, .int 0, .int 0, .int 0])))).bind fun v30 =>
  (x_X4_init F (n + 44) v30 (n + 43)).bind fun v31 =>
  (astR 3 4 v31 v29 0 (n + 43)).bind fun v32 =>
  (getR 7 v32 l0 0).bind fun v33 =>
  (some (va_up v32 (n + 45) (.inr (4, [.null, .int 0, .int 0, .int 0])))).bind fun v34 =>
  (x_X4_init F (n + 46) v34 (n + 45)).bind fun v35 =>
  (astR 3 4 v35 v33 1 (n + 45)).bind fun v36 =>
  (getR 7 v36 l0 0).bind fun v37 =>
  (some (va_up v36 (n + 47) (.inr (4, [.null, .int 0, .int 0, .int 0])))).bind fun v38 =>
  (x_X4_init F (n + 48) v38 (n + 47)).bind fun v39 =>
  (astR 3 4 v39 v37 2 (n + 47)).bind fun v40 =>
  (getR 7 v40 l0 0).bind fun v41 =>
  (some (va_up v40 (n + 49) (.inr (4, [.null, .int 0, .int 0, .int 0])))).bind fun v42 =>
  (x_X4_init F (n + 50) v42 (n + 49)).bind fun v43 =>
  (astR 3 4 v43 v41 3 (n + 49)).bind fun v44 =>
  (getR 7 v44 l0 7).bind fun v45 =>
  (some (va_up v44 (n + 51) (.inr (3, [.null, .int 0, .int 0, .int 0])))).bind fun v46 =>
  (x_X3_init F (n + 52) v46 (n + 51)).bind fun v47 =>
  (astR 5 3 v47 v45 0 (n + 51)).bind fun v48 =>
  (getR 7 v48 l0 7).bind fun v49 =>
  (some (va_up v48 (n + 53) (.inr (3, [.null, .int 0, .int 0, .int 0])))).bind fun v50 =>
  (x_X3_init F (n + 54) v50 (n + 53)).bind fun v51 =>
  (astR 5 3 v51 v49 1 (n + 53)).bind fun v52 =>
  (getR 7 v52 l0 7).bind fun v53 =>
  (some (va_up v52 (n + 55) (.inr (3, [.null, .int 0, .int 0, .int 0])))).bind fun v54 =>
  (x_X3_init F (n + 56) v54 (n + 55)).bind fun v55 =>
  (astR 5 3 v55 v53 2 (n + 55)).bind fun v56 =>
  (getR 7 v56 l0 7).bind fun v57 =>
  (some (va_up v56 (n + 57) (.inr (3, [.null, .int 0, .int 0, .int 0])))).bind fun v58 =>
  (x_X3_init F (n + 58) v58 (n + 57)).bind fun v59 =>
  (astR 5 3 v59 v57 3 (n + 57)).bind fun v60 =>
  (getR 7 v60 l0 7).bind fun v61 =>
  (some (va_up v60 (n + 59) (.inr (3, [.null, .int 0, .int 0, .int 0])))).bind fun v62 =>
  (x_X3_init F (n + 60) v62 (n + 59)).bind fun v63 =>
  (astR 5 3 v63 v61 4 (n + 59)).bind fun v64 =>
  (getR 7 v64 l0 7).bind fun v65 =>
  (some (va_up v64 (n + 61) (.inr (3, [.null, .int 0, .int 0, .int 0])))).bind fun v66 =>
  (x_X3_init F (n + 62) v66 (n + 61)).bind fun v67 =>
  (astR 5 3 v67 v65 5 (n + 61)).bind fun v68 =>
  (getR 7 v68 l0 7).bind fun v69 =>
  (some (va_up v68 (n + 63) (.inr (3, [.null, .int 0, .int 0, .int 0])))).bind fun v70 =>
  (x_X3_init F (n + 64) v70 (n + 63)).bind fun v71 =>
  (astR 5 3 v71 v69 6 (n + 63)).bind fun v72 =>
  (getR 7 v72 l0 7).bind fun v73 =>
  (some (va_up v72 (n + 65) (.inr (3, [.null, .int 0, .int 0, .int 0])))).bind fun v74 =>
  (x_X3_init F (n + 66) v74 (n + 65)).bind fun v75 =>
  (astR 5 3 v75 v73 7 (n + 65)).bind fun v76 =>
  some v76
set_option maxRecDepth 20000 in
theorem mc_X7_init (l : Launch) (G : pG) (F n : Nat) {h : pH} {l0 : Nat} {res : pH} (hx : x_X7_init F n h l0 = some res) : MC l yX7_init cX7_init 2 none (rmD 4 67 3925) G [.ref l0] n h (none) (n + 67) res := by
  unfold x_X7_init at hx
  refine jj_entry RX7 rfl (by decide) (Nat.le_of_ble_eq_true rfl) (fun X _ hin C => ?_)
  show J X G (67, 3925, none, n + 67, res) (0, 0, n) h 0 [(0, .ref l0)] []
  refine jj_aload_n C 0 0 dX7_init_0 rfl rfl ?_
  refine jj_objInit C ml_X7_5 (Nat.le_of_ble_eq_true rfl) (Nat.le_of_ble_eq_true rfl) dX7_init_1 ?_
  refine jj_aload_n C 0 0 dX7_init_4 rfl rfl ?_
  refine jj_iconst (v := 4) C dX7_init_5 (by decide) ?_
  obtain ⟨v1, ev1, hx⟩ := ob hx
  refine jj_anew C 3 cl_X7_11 ao_X4 rfl (by decide) (show _ = 4 by decide) (Nat.le_of_ble_eq_true rfl) rfl (Nat.le_of_ble_eq_true rfl) (Nat.le_of_ble_eq_true rfl) dX7_init_6 (show _ = (1, 4, n + 1) from rfl) (show _ = n from rfl) (Option.some.inj ev1) ?_
  obtain ⟨v2, ev2, hx⟩ := ob hx
  refine jj_putF C fd_X7_13 rfl hin rfl rfl dX7_init_9 ev2 ?_
  refine jj_aload_n C 0 0 dX7_init_12 rfl rfl ?_
  obtain ⟨v3, ev3, hx⟩ := ob hx
  refine jj_new (ci := 5) C rfl wu_X5 tyX5_ok cl_X7_17 ins_X5 ini_X5 [.null, .int 0] (by decide +kernel) rfl rfl (Nat.le_of_ble_eq_true rfl) (Nat.le_of_ble_eq_true rfl) dX7_init_13 (show _ = (2, 6, n + 2) from rfl) (show _ = n + 1 from rfl) (Option.some.inj ev3) ?_
  refine jj_dup C dX7_init_16 rfl ?_
  obtain ⟨v4, ev4, hx⟩ := ob hx
  refine jj_callIN C [] lk_X7_19 (mc_X5_init X.2.1 G F (n + 2) ev4) rfl rfl (Nat.le_of_ble_eq_true rfl) ⟨Nat.le_of_ble_eq_true rfl, Nat.le_of_ble_eq_true rfl⟩ ⟨Nat.le_of_ble_eq_true rfl, Nat.le_of_ble_eq_true rfl⟩ rfl dX7_init_17 (show _ = (11, 38, n + 11) from rfl) rfl ?_
  obtain ⟨v5, ev5, hx⟩ := ob hx
  refine jj_putF C fd_X7_20 rfl hin rfl rfl dX7_init_20 ev5 ?_
  refine jj_aload_n C 0 0 dX7_init_23 rfl rfl ?_
  obtain ⟨v6, ev6, hx⟩ := ob hx
  refine jj_callS C [] lk_X7_24 (mc_X7_newWords X.2.1 G F (n + 11) ev6) rfl rfl (Nat.le_of_ble_eq_true rfl) ⟨Nat.le_of_ble_eq_true rfl, Nat.le_of_ble_eq_true rfl⟩ ⟨Nat.le_of_ble_eq_true rfl, Nat.le_of_ble_eq_true rfl⟩ rfl dX7_init_24 (show _ = (20, 70, n + 20) from rfl) rfl ?_
  obtain ⟨v7, ev7, hx⟩ := ob hx
  refine jj_put C fd_X7_28 rfl rfl dX7_init_27 ev7 ?_
  refine jj_aload_n C 0 0 dX7_init_30 rfl rfl ?_
  refine jj_bipush (v := 60) C dX7_init_31 (by decide) ?_
  obtain ⟨v8, ev8, hx⟩ := ob hx
  refine jj_newa (atype := .int) (ty := .int) C 0 rfl ac_int rfl (fun _ _ q => q) (60, .inl (fun _ => 0)) (fun _ => rfl) rfl (by decide) (show _ = 60 by decide) (Nat.le_of_ble_eq_true rfl) rfl (Nat.le_of_ble_eq_true rfl) (Nat.le_of_ble_eq_true rfl) dX7_init_33 (show _ = (21, 130, n + 21) from rfl) (show _ = n + 20 from rfl) (Option.some.inj ev8) ?_
  obtain ⟨v9, ev9, hx⟩ := ob hx
  refine jj_putF C fd_X7_32 rfl hin rfl rfl dX7_init_35 ev9 ?_
  refine jj_aload_n C 0 0 dX7_init_38 rfl rfl ?_
  refine jj_bipush (v := 40) C dX7_init_39 (by decide) ?_
  obtain ⟨v10, ev10, hx⟩ := ob hx
  refine jj_newa (atype := .int) (ty := .int) C 0 rfl ac_int rfl (fun _ _ q => q) (40, .inl (fun _ => 0)) (fun _ => rfl) rfl (by decide) (show _ = 40 by decide) (Nat.le_of_ble_eq_true rfl) rfl (Nat.le_of_ble_eq_true rfl) (Nat.le_of_ble_eq_true rfl) dX7_init_41 (show _ = (22, 170, n + 22) from rfl) (show _ = n + 21 from rfl) (Option.some.inj ev10) ?_
  obtain ⟨v11, ev11, hx⟩ := ob hx
  refine jj_putF C fd_X7_36 rfl hin rfl rfl dX7_init_43 ev11 ?_
  refine jj_aload_n C 0 0 dX7_init_46 rfl rfl ?_
  refine jj_bipush (v := 8) C dX7_init_47 (by decide) ?_
  obtain ⟨v12, ev12, hx⟩ := ob hx
  refine jj_anew C 5 cl_X7_39 ao_X3 rfl (by decide) (show _ = 8 by decide) (Nat.le_of_ble_eq_true rfl) rfl (Nat.le_of_ble_eq_true rfl) (Nat.le_of_ble_eq_true rfl) dX7_init_49 (show _ = (23, 178, n + 23) from rfl) (show _ = n + 22 from rfl) (Option.some.inj ev12) ?_
  obtain ⟨v13, ev13, hx⟩ := ob hx
  refine jj_putF C fd_X7_41 rfl hin rfl rfl dX7_init_52 ev13 ?_
  refine jj_aload_n C 0 0 dX7_init_55 rfl rfl ?_
  obtain ⟨v14, ev14, hx⟩ := ob hx
  refine jj_new (ci := 6) C rfl wu_X6 tyX6_ok cl_X7_45 ins_X6 ini_X6 [.null, .int 0, .int 0] (by decide +kernel) rfl rfl (Nat.le_of_ble_eq_true rfl) (Nat.le_of_ble_eq_true rfl) dX7_init_56 (show _ = (24, 181, n + 24) from rfl) (show _ = n + 23 from rfl) (Option.some.inj ev14) ?_
  refine jj_dup C dX7_init_59 rfl ?_
  obtain ⟨v15, ev15, hx⟩ := ob hx
  refine jj_callIN C [] lk_X7_47 (mc_X6_init X.2.1 G F (n + 24) ev15) rfl rfl (Nat.le_of_ble_eq_true rfl) ⟨Nat.le_of_ble_eq_true rfl, Nat.le_of_ble_eq_true rfl⟩ ⟨Nat.le_of_ble_eq_true rfl, Nat.le_of_ble_eq_true rfl⟩ rfl dX7_init_60 (show _ = (25, 185, n + 25) from rfl) rfl ?_
  obtain ⟨v16, ev16, hx⟩ := ob hx
  refine jj_putF C fd_X7_48 rfl hin rfl rfl dX7_init_63 ev16 ?_
  refine jj_aload_n C 0 0 dX7_init_66 rfl rfl ?_
  refine jj_iconst (v := 4) C dX7_init_67 (by decide) ?_
  obtain ⟨v17, ev17, hx⟩ := ob hx
  refine jj_newa (atype := .int) (ty := .int) C 0 rfl ac_int rfl (fun _ _ q => q) (4, .inl (fun _ => 0)) (fun _ => rfl) rfl (by decide) (show _ = 4 by decide) (Nat.le_of_ble_eq_true rfl) rfl (Nat.le_of_ble_eq_true rfl) (Nat.le_of_ble_eq_true rfl) dX7_init_68 (show _ = (26, 189, n + 26) from rfl) (show _ = n + 25 from rfl) (Option.some.inj ev17) ?_
  obtain ⟨v18, ev18, hx⟩ := ob hx
  refine jj_putF C fd_X7_52 rfl hin rfl rfl dX7_init_70 ev18 ?_
  refine jj_aload_n C 0 0 dX7_init_73 rfl rfl ?_
  obtain ⟨v19, ev19, hx⟩ := ob hx
  refine jj_new (ci := 1) C rfl wu_X1 tyX1_ok cl_X7_55 ins_X1 ini_X1 [.null, .null, .null, .null, .null, .int 0] (by decide +kernel) rfl rfl (Nat.le_of_ble_eq_true rfl) (Nat.le_of_ble_eq_true rfl) dX7_init_74 (show _ = (27, 195, n + 27) from rfl) (show _ = n + 26 from rfl) (Option.some.inj ev19) ?_
  refine jj_dup C dX7_init_77 rfl ?_
  obtain ⟨v20, ev20, hx⟩ := ob hx
  refine jj_callI C [] lk_X7_57 (mc_X1_init X.2.1 G F (n + 27) ev20) rfl rfl (Nat.le_of_ble_eq_true rfl) ⟨Nat.le_of_ble_eq_true rfl, Nat.le_of_ble_eq_true rfl⟩ ⟨Nat.le_of_ble_eq_true rfl, Nat.le_of_ble_eq_true rfl⟩ rfl dX7_init_78 (show _ = (32, 602, n + 32) from rfl) rfl ?_
  obtain ⟨v21, ev21, hx⟩ := ob hx
  refine jj_putF C fd_X7_58 rfl hin rfl rfl dX7_init_81 ev21 ?_
  refine jj_aload_n C 0 0 dX7_init_84 rfl rfl ?_
  obtain ⟨v22, ev22, hx⟩ := ob hx
  refine jj_new (ci := 2) C rfl wu_X2 tyX2_ok cl_X7_62 ins_X2 ini_X2 [.null, .null, .null, .null, .null, .int 0, .int 0, .int 0] (by decide +kernel) rfl rfl (Nat.le_of_ble_eq_true rfl) (Nat.le_of_ble_eq_true rfl) dX7_init_85 (show _ = (33, 610, n + 33) from rfl) (show _ = n + 32 from rfl) (Option.some.inj ev22) ?_
  refine jj_dup C dX7_init_88 rfl ?_
  obtain ⟨v23, ev23, hx⟩ := ob hx
  refine jj_callIN C [] lk_X7_64 (mc_X2_init X.2.1 G F (n + 33) ev23) rfl rfl (Nat.le_of_ble_eq_true rfl) ⟨Nat.le_of_ble_eq_true rfl, Nat.le_of_ble_eq_true rfl⟩ ⟨Nat.le_of_ble_eq_true rfl, Nat.le_of_ble_eq_true rfl⟩ rfl dX7_init_89 (show _ = (38, 2866, n + 38) from rfl) rfl ?_
  obtain ⟨v24, ev24, hx⟩ := ob hx
  refine jj_putF C fd_X7_65 rfl hin rfl rfl dX7_init_92 ev24 ?_
  refine jj_aload_n C 0 0 dX7_init_95 rfl rfl ?_
  obtain ⟨v25, ev25, hx⟩ := ob hx
  refine jj_new (ci := 0) C rfl wu_X0 tyX0_ok cl_X7_69 ins_X0 ini_X0 [.null, .null, .null, .null, .int 0] (by decide +kernel) rfl rfl (Nat.le_of_ble_eq_true rfl) (Nat.le_of_ble_eq_true rfl) dX7_init_96 (show _ = (39, 2871, n + 39) from rfl) (show _ = n + 38 from rfl) (Option.some.inj ev25) ?_
  refine jj_dup C dX7_init_99 rfl ?_
  obtain ⟨v26, ev26, hx⟩ := ob hx
  refine jj_callIN C [] lk_X7_71 (mc_X0_init X.2.1 G F (n + 39) ev26) rfl rfl (Nat.le_of_ble_eq_true rfl) ⟨Nat.le_of_ble_eq_true rfl, Nat.le_of_ble_eq_true rfl⟩ ⟨Nat.le_of_ble_eq_true rfl, Nat.le_of_ble_eq_true rfl⟩ rfl dX7_init_100 (show _ = (43, 3573, n + 43) from rfl) rfl ?_
  obtain ⟨v27, ev27, hx⟩ := ob hx
  refine jj_putF C fd_X7_72 rfl hin rfl rfl dX7_init_103 ev27 ?_
  refine jj_aload_n C 0 0 dX7_init_106 rfl rfl ?_
  refine jj_iconst (v := 1) C dX7_init_107 (by decide) ?_
  obtain ⟨v28, ev28, hx⟩ := ob hx
  obtain ⟨zv28, ev28⟩ := putZ_inv ev28
  refine jj_put C fd_X7_76 (nz zv28) (fz zv28) dX7_init_108 ev28 ?_
  refine jj_iconst (v := 0) C dX7_init_111 (by decide) ?_
  refine jj_istore_n C 1 dX7_init_112 rfl rfl (by decide) ?_
  refine jj_iload_n C 1 0 dX7_init_113 rfl rfl ?_
  refine jj_iconst (v := 4) C dX7_init_114 (by decide) ?_
  refine jj_icmp_ge (tgt := 137) C dX7_init_115 (by decide) (fun q => absurd q (by decide)) (fun q => ?_)
  refine jj_aload_n C 0 1 dX7_init_118 rfl rfl ?_
  obtain ⟨v29, ev29, hx⟩ := ob hx
  refine jj_getR C fd_X7_13 dX7_init_119 ev29 ?_
  refine jj_iload_n C 1 0 dX7_init_122 rfl rfl ?_
  obtain ⟨v30, ev30, hx⟩ := ob hx
  refine jj_new (ci := 4) C rfl wu_X4 tyX4_ok cl_X7_11 ins_X4 ini_X4 [.null, .int 0, .int 0, .int 0] (by decide +kernel) rfl rfl (Nat.le_of_ble_eq_true rfl) (Nat.le_of_ble_eq_true rfl) dX7_init_123 (show _ = (44, 3577, n + 44) from rfl) (show _ = n + 43 from rfl) (Option.some.inj ev30) ?_
  refine jj_dup C dX7_init_126 rfl ?_
  obtain ⟨v31, ev31, hx⟩ := ob hx
  refine jj_callIN C [] lk_X7_80 (mc_X4_init X.2.1 G F (n + 44) ev31) rfl rfl (Nat.le_of_ble_eq_true rfl) ⟨Nat.le_of_ble_eq_true rfl, Nat.le_of_ble_eq_true rfl⟩ ⟨Nat.le_of_ble_eq_true rfl, Nat.le_of_ble_eq_true rfl⟩ rfl dX7_init_127 (show _ = (45, 3637, n + 45) from rfl) rfl ?_
  obtain ⟨v32, ev32, hx⟩ := ob hx
  refine jj_aast C 3 4 rfl rfl dX7_init_130 ev32 ?_
  refine jj_iinc (v := 1) C 1 0 dX7_init_131 rfl (by decide) rfl (by decide) ?_
  refine jj_goto (tgt := 113) C dX7_init_134 (by decide) ?_
  refine jj_iload_n C 1 0 dX7_init_113 rfl rfl ?_
  refine jj_iconst (v := 4) C dX7_init_114 (by decide) ?_
  refine jj_icmp_ge (tgt := 137) C dX7_init_115 (by decide) (fun q => absurd q (by decide)) (fun q => ?_)
  refine jj_aload_n C 0 1 dX7_init_118 rfl rfl ?_
  obtain ⟨v33, ev33, hx⟩ := ob hx
  refine jj_getR C fd_X7_13 dX7_init_119 ev33 ?_
  refine jj_iload_n C 1 0 dX7_init_122 rfl rfl ?_
  obtain ⟨v34, ev34, hx⟩ := ob hx
  refine jj_new (ci := 4) C rfl wu_X4 tyX4_ok cl_X7_11 ins_X4 ini_X4 [.null, .int 0, .int 0, .int 0] (by decide +kernel) rfl rfl (Nat.le_of_ble_eq_true rfl) (Nat.le_of_ble_eq_true rfl) dX7_init_123 (show _ = (46, 3641, n + 46) from rfl) (show _ = n + 45 from rfl) (Option.some.inj ev34) ?_
  refine jj_dup C dX7_init_126 rfl ?_
  obtain ⟨v35, ev35, hx⟩ := ob hx
  refine jj_callIN C [] lk_X7_80 (mc_X4_init X.2.1 G F (n + 46) ev35) rfl rfl (Nat.le_of_ble_eq_true rfl) ⟨Nat.le_of_ble_eq_true rfl, Nat.le_of_ble_eq_true rfl⟩ ⟨Nat.le_of_ble_eq_true rfl, Nat.le_of_ble_eq_true rfl⟩ rfl dX7_init_127 (show _ = (47, 3701, n + 47) from rfl) rfl ?_
  obtain ⟨v36, ev36, hx⟩ := ob hx
  refine jj_aast C 3 4 rfl rfl dX7_init_130 ev36 ?_
  refine jj_iinc (v := 2) C 1 0 dX7_init_131 rfl (by decide) rfl (by decide) ?_
  refine jj_goto (tgt := 113) C dX7_init_134 (by decide) ?_
  refine jj_iload_n C 1 0 dX7_init_113 rfl rfl ?_
  refine jj_iconst (v := 4) C dX7_init_114 (by decide) ?_
  refine jj_icmp_ge (tgt := 137) C dX7_init_115 (by decide) (fun q => absurd q (by decide)) (fun q => ?_)
  refine jj_aload_n C 0 1 dX7_init_118 rfl rfl ?_
  obtain ⟨v37, ev37, hx⟩ := ob hx
  refine jj_getR C fd_X7_13 dX7_init_119 ev37 ?_
  refine jj_iload_n C 1 0 dX7_init_122 rfl rfl ?_
  obtain ⟨v38, ev38, hx⟩ := ob hx
  refine jj_new (ci := 4) C rfl wu_X4 tyX4_ok cl_X7_11 ins_X4 ini_X4 [.null, .int 0, .int 0, .int 0] (by decide +kernel) rfl rfl (Nat.le_of_ble_eq_true rfl) (Nat.le_of_ble_eq_true rfl) dX7_init_123 (show _ = (48, 3705, n + 48) from rfl) (show _ = n + 47 from rfl) (Option.some.inj ev38) ?_
  refine jj_dup C dX7_init_126 rfl ?_
  obtain ⟨v39, ev39, hx⟩ := ob hx
  refine jj_callIN C [] lk_X7_80 (mc_X4_init X.2.1 G F (n + 48) ev39) rfl rfl (Nat.le_of_ble_eq_true rfl) ⟨Nat.le_of_ble_eq_true rfl, Nat.le_of_ble_eq_true rfl⟩ ⟨Nat.le_of_ble_eq_true rfl, Nat.le_of_ble_eq_true rfl⟩ rfl dX7_init_127 (show _ = (49, 3765, n + 49) from rfl) rfl ?_
  obtain ⟨v40, ev40, hx⟩ := ob hx
  refine jj_aast C 3 4 rfl rfl dX7_init_130 ev40 ?_
  refine jj_iinc (v := 3) C 1 0 dX7_init_131 rfl (by decide) rfl (by decide) ?_
  refine jj_goto (tgt := 113) C dX7_init_134 (by decide) ?_
  refine jj_iload_n C 1 0 dX7_init_113 rfl rfl ?_
  refine jj_iconst (v := 4) C dX7_init_114 (by decide) ?_
  refine jj_icmp_ge (tgt := 137) C dX7_init_115 (by decide) (fun q => absurd q (by decide)) (fun q => ?_)
  refine jj_aload_n C 0 1 dX7_init_118 rfl rfl ?_
  obtain ⟨v41, ev41, hx⟩ := ob hx
  refine jj_getR C fd_X7_13 dX7_init_119 ev41 ?_
  refine jj_iload_n C 1 0 dX7_init_122 rfl rfl ?_
  obtain ⟨v42, ev42, hx⟩ := ob hx
  refine jj_new (ci := 4) C rfl wu_X4 tyX4_ok cl_X7_11 ins_X4 ini_X4 [.null, .int 0, .int 0, .int 0] (by decide +kernel) rfl rfl (Nat.le_of_ble_eq_true rfl) (Nat.le_of_ble_eq_true rfl) dX7_init_123 (show _ = (50, 3769, n + 50) from rfl) (show _ = n + 49 from rfl) (Option.some.inj ev42) ?_
  refine jj_dup C dX7_init_126 rfl ?_
  obtain ⟨v43, ev43, hx⟩ := ob hx
  refine jj_callIN C [] lk_X7_80 (mc_X4_init X.2.1 G F (n + 50) ev43) rfl rfl (Nat.le_of_ble_eq_true rfl) ⟨Nat.le_of_ble_eq_true rfl, Nat.le_of_ble_eq_true rfl⟩ ⟨Nat.le_of_ble_eq_true rfl, Nat.le_of_ble_eq_true rfl⟩ rfl dX7_init_127 (show _ = (51, 3829, n + 51) from rfl) rfl ?_
  obtain ⟨v44, ev44, hx⟩ := ob hx
  refine jj_aast C 3 4 rfl rfl dX7_init_130 ev44 ?_
  refine jj_iinc (v := 4) C 1 0 dX7_init_131 rfl (by decide) rfl (by decide) ?_
  refine jj_goto (tgt := 113) C dX7_init_134 (by decide) ?_
  refine jj_iload_n C 1 0 dX7_init_113 rfl rfl ?_
  refine jj_iconst (v := 4) C dX7_init_114 (by decide) ?_
  refine jj_icmp_ge (tgt := 137) C dX7_init_115 (by decide) (fun q => ?_) (fun q => absurd q (by decide))
  refine jj_iconst (v := 0) C dX7_init_137 (by decide) ?_
  refine jj_istore_n C 1 dX7_init_138 rfl rfl (by decide) ?_
  refine jj_iload_n C 1 0 dX7_init_139 rfl rfl ?_
  refine jj_bipush (v := 8) C dX7_init_140 (by decide) ?_
  refine jj_icmp_ge (tgt := 164) C dX7_init_142 (by decide) (fun q => absurd q (by decide)) (fun q => ?_)
  refine jj_aload_n C 0 1 dX7_init_145 rfl rfl ?_
  obtain ⟨v45, ev45, hx⟩ := ob hx
  refine jj_getR C fd_X7_41 dX7_init_146 ev45 ?_
  refine jj_iload_n C 1 0 dX7_init_149 rfl rfl ?_
  obtain ⟨v46, ev46, hx⟩ := ob hx
  refine jj_new (ci := 3) C rfl wu_X3 tyX3_ok cl_X7_39 ins_X3 ini_X3 [.null, .int 0, .int 0, .int 0] (by decide +kernel) rfl rfl (Nat.le_of_ble_eq_true rfl) (Nat.le_of_ble_eq_true rfl) dX7_init_150 (show _ = (52, 3833, n + 52) from rfl) (show _ = n + 51 from rfl) (Option.some.inj ev46) ?_
  refine jj_dup C dX7_init_153 rfl ?_
  obtain ⟨v47, ev47, hx⟩ := ob hx
  refine jj_callIN C [] lk_X7_81 (mc_X3_init X.2.1 G F (n + 52) ev47) rfl rfl (Nat.le_of_ble_eq_true rfl) ⟨Nat.le_of_ble_eq_true rfl, Nat.le_of_ble_eq_true rfl⟩ ⟨Nat.le_of_ble_eq_true rfl, Nat.le_of_ble_eq_true rfl⟩ rfl dX7_init_154 (show _ = (53, 3841, n + 53) from rfl) rfl ?_
  obtain ⟨v48, ev48, hx⟩ := ob hx
  refine jj_aast C 5 3 rfl rfl dX7_init_157 ev48 ?_
  refine jj_iinc (v := 1) C 1 0 dX7_init_158 rfl (by decide) rfl (by decide) ?_
  refine jj_goto (tgt := 139) C dX7_init_161 (by decide) ?_
  refine jj_iload_n C 1 0 dX7_init_139 rfl rfl ?_
  refine jj_bipush (v := 8) C dX7_init_140 (by decide) ?_
  refine jj_icmp_ge (tgt := 164) C dX7_init_142 (by decide) (fun q => absurd q (by decide)) (fun q => ?_)
  refine jj_aload_n C 0 1 dX7_init_145 rfl rfl ?_
  obtain ⟨v49, ev49, hx⟩ := ob hx
  refine jj_getR C fd_X7_41 dX7_init_146 ev49 ?_
  refine jj_iload_n C 1 0 dX7_init_149 rfl rfl ?_
  obtain ⟨v50, ev50, hx⟩ := ob hx
  refine jj_new (ci := 3) C rfl wu_X3 tyX3_ok cl_X7_39 ins_X3 ini_X3 [.null, .int 0, .int 0, .int 0] (by decide +kernel) rfl rfl (Nat.le_of_ble_eq_true rfl) (Nat.le_of_ble_eq_true rfl) dX7_init_150 (show _ = (54, 3845, n + 54) from rfl) (show _ = n + 53 from rfl) (Option.some.inj ev50) ?_
  refine jj_dup C dX7_init_153 rfl ?_
  obtain ⟨v51, ev51, hx⟩ := ob hx
  refine jj_callIN C [] lk_X7_81 (mc_X3_init X.2.1 G F (n + 54) ev51) rfl rfl (Nat.le_of_ble_eq_true rfl) ⟨Nat.le_of_ble_eq_true rfl, Nat.le_of_ble_eq_true rfl⟩ ⟨Nat.le_of_ble_eq_true rfl, Nat.le_of_ble_eq_true rfl⟩ rfl dX7_init_154 (show _ = (55, 3853, n + 55) from rfl) rfl ?_
  obtain ⟨v52, ev52, hx⟩ := ob hx
  refine jj_aast C 5 3 rfl rfl dX7_init_157 ev52 ?_
  refine jj_iinc (v := 2) C 1 0 dX7_init_158 rfl (by decide) rfl (by decide) ?_
  refine jj_goto (tgt := 139) C dX7_init_161 (by decide) ?_
  refine jj_iload_n C 1 0 dX7_init_139 rfl rfl ?_
  refine jj_bipush (v := 8) C dX7_init_140 (by decide) ?_
  refine jj_icmp_ge (tgt := 164) C dX7_init_142 (by decide) (fun q => absurd q (by decide)) (fun q => ?_)
  refine jj_aload_n C 0 1 dX7_init_145 rfl rfl ?_
  obtain ⟨v53, ev53, hx⟩ := ob hx
  refine jj_getR C fd_X7_41 dX7_init_146 ev53 ?_
  refine jj_iload_n C 1 0 dX7_init_149 rfl rfl ?_
  obtain ⟨v54, ev54, hx⟩ := ob hx
  refine jj_new (ci := 3) C rfl wu_X3 tyX3_ok cl_X7_39 ins_X3 ini_X3 [.null, .int 0, .int 0, .int 0] (by decide +kernel) rfl rfl (Nat.le_of_ble_eq_true rfl) (Nat.le_of_ble_eq_true rfl) dX7_init_150 (show _ = (56, 3857, n + 56) from rfl) (show _ = n + 55 from rfl) (Option.some.inj ev54) ?_
  refine jj_dup C dX7_init_153 rfl ?_
  obtain ⟨v55, ev55, hx⟩ := ob hx
  refine jj_callIN C [] lk_X7_81 (mc_X3_init X.2.1 G F (n + 56) ev55) rfl rfl (Nat.le_of_ble_eq_true rfl) ⟨Nat.le_of_ble_eq_true rfl, Nat.le_of_ble_eq_true rfl⟩ ⟨Nat.le_of_ble_eq_true rfl, Nat.le_of_ble_eq_true rfl⟩ rfl dX7_init_154 (show _ = (57, 3865, n + 57) from rfl) rfl ?_
  obtain ⟨v56, ev56, hx⟩ := ob hx
  refine jj_aast C 5 3 rfl rfl dX7_init_157 ev56 ?_
  refine jj_iinc (v := 3) C 1 0 dX7_init_158 rfl (by decide) rfl (by decide) ?_
  refine jj_goto (tgt := 139) C dX7_init_161 (by decide) ?_
  refine jj_iload_n C 1 0 dX7_init_139 rfl rfl ?_
  refine jj_bipush (v := 8) C dX7_init_140 (by decide) ?_
  refine jj_icmp_ge (tgt := 164) C dX7_init_142 (by decide) (fun q => absurd q (by decide)) (fun q => ?_)
  refine jj_aload_n C 0 1 dX7_init_145 rfl rfl ?_
  obtain ⟨v57, ev57, hx⟩ := ob hx
  refine jj_getR C fd_X7_41 dX7_init_146 ev57 ?_
  refine jj_iload_n C 1 0 dX7_init_149 rfl rfl ?_
  obtain ⟨v58, ev58, hx⟩ := ob hx
  refine jj_new (ci := 3) C rfl wu_X3 tyX3_ok cl_X7_39 ins_X3 ini_X3 [.null, .int 0, .int 0, .int 0] (by decide +kernel) rfl rfl (Nat.le_of_ble_eq_true rfl) (Nat.le_of_ble_eq_true rfl) dX7_init_150 (show _ = (58, 3869, n + 58) from rfl) (show _ = n + 57 from rfl) (Option.some.inj ev58) ?_
  refine jj_dup C dX7_init_153 rfl ?_
  obtain ⟨v59, ev59, hx⟩ := ob hx
  refine jj_callIN C [] lk_X7_81 (mc_X3_init X.2.1 G F (n + 58) ev59) rfl rfl (Nat.le_of_ble_eq_true rfl) ⟨Nat.le_of_ble_eq_true rfl, Nat.le_of_ble_eq_true rfl⟩ ⟨Nat.le_of_ble_eq_true rfl, Nat.le_of_ble_eq_true rfl⟩ rfl dX7_init_154 (show _ = (59, 3877, n + 59) from rfl) rfl ?_
  obtain ⟨v60, ev60, hx⟩ := ob hx
  refine jj_aast C 5 3 rfl rfl dX7_init_157 ev60 ?_
  refine jj_iinc (v := 4) C 1 0 dX7_init_158 rfl (by decide) rfl (by decide) ?_
  refine jj_goto (tgt := 139) C dX7_init_161 (by decide) ?_
  refine jj_iload_n C 1 0 dX7_init_139 rfl rfl ?_
  refine jj_bipush (v := 8) C dX7_init_140 (by decide) ?_
  refine jj_icmp_ge (tgt := 164) C dX7_init_142 (by decide) (fun q => absurd q (by decide)) (fun q => ?_)
  refine jj_aload_n C 0 1 dX7_init_145 rfl rfl ?_
  obtain ⟨v61, ev61, hx⟩ := ob hx
  refine jj_getR C fd_X7_41 dX7_init_146 ev61 ?_
  refine jj_iload_n C 1 0 dX7_init_149 rfl rfl ?_
  obtain ⟨v62, ev62, hx⟩ := ob hx
  refine jj_new (ci := 3) C rfl wu_X3 tyX3_ok cl_X7_39 ins_X3 ini_X3 [.null, .int 0, .int 0, .int 0] (by decide +kernel) rfl rfl (Nat.le_of_ble_eq_true rfl) (Nat.le_of_ble_eq_true rfl) dX7_init_150 (show _ = (60, 3881, n + 60) from rfl) (show _ = n + 59 from rfl) (Option.some.inj ev62) ?_
  refine jj_dup C dX7_init_153 rfl ?_
  obtain ⟨v63, ev63, hx⟩ := ob hx
  refine jj_callIN C [] lk_X7_81 (mc_X3_init X.2.1 G F (n + 60) ev63) rfl rfl (Nat.le_of_ble_eq_true rfl) ⟨Nat.le_of_ble_eq_true rfl, Nat.le_of_ble_eq_true rfl⟩ ⟨Nat.le_of_ble_eq_true rfl, Nat.le_of_ble_eq_true rfl⟩ rfl dX7_init_154 (show _ = (61, 3889, n + 61) from rfl) rfl ?_
  obtain ⟨v64, ev64, hx⟩ := ob hx
  refine jj_aast C 5 3 rfl rfl dX7_init_157 ev64 ?_
  refine jj_iinc (v := 5) C 1 0 dX7_init_158 rfl (by decide) rfl (by decide) ?_
  refine jj_goto (tgt := 139) C dX7_init_161 (by decide) ?_
  refine jj_iload_n C 1 0 dX7_init_139 rfl rfl ?_
  refine jj_bipush (v := 8) C dX7_init_140 (by decide) ?_
  refine jj_icmp_ge (tgt := 164) C dX7_init_142 (by decide) (fun q => absurd q (by decide)) (fun q => ?_)
  refine jj_aload_n C 0 1 dX7_init_145 rfl rfl ?_
  obtain ⟨v65, ev65, hx⟩ := ob hx
  refine jj_getR C fd_X7_41 dX7_init_146 ev65 ?_
  refine jj_iload_n C 1 0 dX7_init_149 rfl rfl ?_
  obtain ⟨v66, ev66, hx⟩ := ob hx
  refine jj_new (ci := 3) C rfl wu_X3 tyX3_ok cl_X7_39 ins_X3 ini_X3 [.null, .int 0, .int 0, .int 0] (by decide +kernel) rfl rfl (Nat.le_of_ble_eq_true rfl) (Nat.le_of_ble_eq_true rfl) dX7_init_150 (show _ = (62, 3893, n + 62) from rfl) (show _ = n + 61 from rfl) (Option.some.inj ev66) ?_
  refine jj_dup C dX7_init_153 rfl ?_
  obtain ⟨v67, ev67, hx⟩ := ob hx
  refine jj_callIN C [] lk_X7_81 (mc_X3_init X.2.1 G F (n + 62) ev67) rfl rfl (Nat.le_of_ble_eq_true rfl) ⟨Nat.le_of_ble_eq_true rfl, Nat.le_of_ble_eq_true rfl⟩ ⟨Nat.le_of_ble_eq_true rfl, Nat.le_of_ble_eq_true rfl⟩ rfl dX7_init_154 (show _ = (63, 3901, n + 63) from rfl) rfl ?_
  obtain ⟨v68, ev68, hx⟩ := ob hx
  refine jj_aast C 5 3 rfl rfl dX7_init_157 ev68 ?_
  refine jj_iinc (v := 6) C 1 0 dX7_init_158 rfl (by decide) rfl (by decide) ?_
  refine jj_goto (tgt := 139) C dX7_init_161 (by decide) ?_
  refine jj_iload_n C 1 0 dX7_init_139 rfl rfl ?_
  refine jj_bipush (v := 8) C dX7_init_140 (by decide) ?_
  refine jj_icmp_ge (tgt := 164) C dX7_init_142 (by decide) (fun q => absurd q (by decide)) (fun q => ?_)
  refine jj_aload_n C 0 1 dX7_init_145 rfl rfl ?_
  obtain ⟨v69, ev69, hx⟩ := ob hx
  refine jj_getR C fd_X7_41 dX7_init_146 ev69 ?_
  refine jj_iload_n C 1 0 dX7_init_149 rfl rfl ?_
  obtain ⟨v70, ev70, hx⟩ := ob hx
  refine jj_new (ci := 3) C rfl wu_X3 tyX3_ok cl_X7_39 ins_X3 ini_X3 [.null, .int 0, .int 0, .int 0] (by decide +kernel) rfl rfl (Nat.le_of_ble_eq_true rfl) (Nat.le_of_ble_eq_true rfl) dX7_init_150 (show _ = (64, 3905, n + 64) from rfl) (show _ = n + 63 from rfl) (Option.some.inj ev70) ?_
  refine jj_dup C dX7_init_153 rfl ?_
  obtain ⟨v71, ev71, hx⟩ := ob hx
  refine jj_callIN C [] lk_X7_81 (mc_X3_init X.2.1 G F (n + 64) ev71) rfl rfl (Nat.le_of_ble_eq_true rfl) ⟨Nat.le_of_ble_eq_true rfl, Nat.le_of_ble_eq_true rfl⟩ ⟨Nat.le_of_ble_eq_true rfl, Nat.le_of_ble_eq_true rfl⟩ rfl dX7_init_154 (show _ = (65, 3913, n + 65) from rfl) rfl ?_
  obtain ⟨v72, ev72, hx⟩ := ob hx
  refine jj_aast C 5 3 rfl rfl dX7_init_157 ev72 ?_
  refine jj_iinc (v := 7) C 1 0 dX7_init_158 rfl (by decide) rfl (by decide) ?_
  refine jj_goto (tgt := 139) C dX7_init_161 (by decide) ?_
  refine jj_iload_n C 1 0 dX7_init_139 rfl rfl ?_
  refine jj_bipush (v := 8) C dX7_init_140 (by decide) ?_
  refine jj_icmp_ge (tgt := 164) C dX7_init_142 (by decide) (fun q => absurd q (by decide)) (fun q => ?_)
  refine jj_aload_n C 0 1 dX7_init_145 rfl rfl ?_
  obtain ⟨v73, ev73, hx⟩ := ob hx
  refine jj_getR C fd_X7_41 dX7_init_146 ev73 ?_
  refine jj_iload_n C 1 0 dX7_init_149 rfl rfl ?_
  obtain ⟨v74, ev74, hx⟩ := ob hx
  refine jj_new (ci := 3) C rfl wu_X3 tyX3_ok cl_X7_39 ins_X3 ini_X3 [.null, .int 0, .int 0, .int 0] (by decide +kernel) rfl rfl (Nat.le_of_ble_eq_true rfl) (Nat.le_of_ble_eq_true rfl) dX7_init_150 (show _ = (66, 3917, n + 66) from rfl) (show _ = n + 65 from rfl) (Option.some.inj ev74) ?_
  refine jj_dup C dX7_init_153 rfl ?_
  obtain ⟨v75, ev75, hx⟩ := ob hx
  refine jj_callIN C [] lk_X7_81 (mc_X3_init X.2.1 G F (n + 66) ev75) rfl rfl (Nat.le_of_ble_eq_true rfl) ⟨Nat.le_of_ble_eq_true rfl, Nat.le_of_ble_eq_true rfl⟩ ⟨Nat.le_of_ble_eq_true rfl, Nat.le_of_ble_eq_true rfl⟩ rfl dX7_init_154 (show _ = (67, 3925, n + 67) from rfl) rfl ?_
  obtain ⟨v76, ev76, hx⟩ := ob hx
  refine jj_aast C 5 3 rfl rfl dX7_init_157 ev76 ?_
  refine jj_iinc (v := 8) C 1 0 dX7_init_158 rfl (by decide) rfl (by decide) ?_
  refine jj_goto (tgt := 139) C dX7_init_161 (by decide) ?_
  refine jj_iload_n C 1 0 dX7_init_139 rfl rfl ?_
  refine jj_bipush (v := 8) C dX7_init_140 (by decide) ?_
  refine jj_icmp_ge (tgt := 164) C dX7_init_142 (by decide) (fun q => ?_) (fun q => absurd q (by decide))
  obtain rfl := Option.some.inj hx
  exact jj_vret C dX7_init_164 rfl
def x_X8_init (F n : Nat) (h : pH) (l0 : Nat) : Option pH :=
  (some (va_up h n (.inl (0, (4, .inl (fun _ => 0)))))).bind fun v1 =>
  (astI 0 v1 n 0 ((-9))).bind fun v2 =>
  (astI 0 v2 n 1 ((-9))).bind fun v3 =>
  (astI 0 v3 n 2 ((-9))).bind fun v4 =>
  (astI 0 v4 n 3 ((-9))).bind fun v5 =>
  (putV 8 v5 l0 2 (.ref n)).bind fun v6 =>
  (some (va_up v6 (n + 1) (.inl (0, (4, .inl (fun _ => 0)))))).bind fun v7 =>
  (putV 8 v7 l0 3 (.ref (n + 1))).bind fun v8 =>
  (some (va_up v8 (n + 2) (.inl (0, (240, .inl (fun _ => 0)))))).bind fun v9 =>
  (putV 8 v9 l0 4 (.ref (n + 2))).bind fun v10 =>
  (some (va_up v10 (n + 3) (.inl (0, (4, .inl (fun _ => 0)))))).bind fun v11 =>
  (putV 8 v11 l0 7 (.ref (n + 3))).bind fun v12 =>
  (some (va_up v12 (n + 4) (.inl (0, (4, .inl (fun _ => 0)))))).bind fun v13 =>
  (putV 8 v13 l0 8 (.ref (n + 4))).bind fun v14 =>
  (some (va_up v14 (n + 5) (.inl (0, (16, .inl (fun _ => 0)))))).bind fun v15 =>
  (putV 8 v15 l0 9 (.ref (n + 5))).bind fun v16 =>
  (some (va_up v16 (n + 6) (.inl (0, (60, .inl (fun _ => 0)))))).bind fun v17 =>
  (putV 8 v17 l0 10 (.ref (n + 6))).bind fun v18 =>
  (some (va_up v18 (n + 7) (.inl (0, (4, .inl (fun _ => 0)))))).bind fun v19 =>
  (putV 8 v19 l0 13 (.ref (n + 7))).bind fun v20 =>
  (some (va_up v20 (n + 8) (.inl (0, (4, .inl (fun _ => 0)))))).bind fun v21 =>
  (putV 8 v21 l0 14 (.ref (n + 8))).bind fun v22 =>
  (some (va_up v22 (n + 9) (.inl (0, (16, .inl (fun _ => 0)))))).bind fun v23 =>
  (putV 8 v23 l0 15 (.ref (n + 9))).bind fun v24 =>
  (some (va_up v24 (n + 10) (.inl (0, (60, .inl (fun _ => 0)))))).bind fun v25 =>
  (putV 8 v25 l0 16 (.ref (n + 10))).bind fun v26 =>
  (some (va_up v26 (n + 11) (.inl (0, (120, .inl (fun _ => 0)))))).bind fun v27 =>
  (putV 8 v27 l0 18 (.ref (n + 11))).bind fun v28 =>
  (some (va_up v28 (n + 12) (.inl (0, (120, .inl (fun _ => 0)))))).bind fun v29 =>
  (putV 8 v29 l0 19 (.ref (n + 12))).bind fun v30 =>
  (some (va_up v30 (n + 13) (.inl (0, (640, .inl (fun _ => 0)))))).bind fun v31 =>
  (putV 8 v31 l0 20 (.ref (n + 13))).bind fun v32 =>
  (some (va_up v32 (n + 14) (.inl (1, (640, .inr (.inl (fun _ => 0))))))).bind fun v33 =>
  (putV 8 v33 l0 21 (.ref (n + 14))).bind fun v34 =>
  (some (va_up v34 (n + 15) (.inl (1, (640, .inr (.inl (fun _ => 0))))))).bind fun v35 =>
  (putV 8 v35 l0 22 (.ref (n + 15))).bind fun v36 =>
  (some (va_up v36 (n + 16) (.inl (0, (40, .inl (fun _ => 0)))))).bind fun v37 =>
  (putV 8 v37 l0 23 (.ref (n + 16))).bind fun v38 =>
  (some (va_up v38 (n + 17) (.inl (0, (40, .inl (fun _ => 0)))))).bind fun v39 =>
  (putV 8 v39 l0 24 (.ref (n + 17))).bind fun v40 =>
  (some (va_up v40 (n + 18) (.inl (0, (8, .inl (fun _ => 0)))))).bind fun v41 =>
  (putV 8 v41 l0 26 (.ref (n + 18))).bind fun v42 =>
  (some (va_up v42 (n + 19) (.inl (0, (8, .inl (fun _ => 0)))))).bind fun v43 =>
  (putV 8 v43 l0 27 (.ref (n + 19))).bind fun v44 =>
  (some (va_up v44 (n + 20) (.inl (0, (8, .inl (fun _ => 0)))))).bind fun v45 =>
  (putV 8 v45 l0 28 (.ref (n + 20))).bind fun v46 =>
  (some (va_up v46 (n + 21) (.inl (0, (64, .inl (fun _ => 0)))))).bind fun v47 =>
  (putV 8 v47 l0 29 (.ref (n + 21))).bind fun v48 =>
  some v48
set_option maxRecDepth 20000 in
theorem mc_X8_init (l : Launch) (G : pG) (F n : Nat) {h : pH} {l0 : Nat} {res : pH} (hx : x_X8_init F n h l0 = some res) : MC l yX8_init cX8_init 1 none (rmD 1 22 2744) G [.ref l0] n h (none) (n + 22) res := by
  unfold x_X8_init at hx
  refine jj_entry RX8 rfl (by decide) (Nat.le_of_ble_eq_true rfl) (fun X _ hin C => ?_)
  show J X G (22, 2744, none, n + 22, res) (0, 0, n) h 0 [(0, .ref l0)] []
  refine jj_aload_n C 0 0 dX8_init_0 rfl rfl ?_
  refine jj_objInit C ml_X8_1 (Nat.le_of_ble_eq_true rfl) (Nat.le_of_ble_eq_true rfl) dX8_init_1 ?_
  refine jj_aload_n C 0 0 dX8_init_4 rfl rfl ?_
  refine jj_iconst (v := 4) C dX8_init_5 (by decide) ?_
  obtain ⟨v1, ev1, hx⟩ := ob hx
  refine jj_newa (atype := .int) (ty := .int) C 0 rfl ac_int rfl (fun _ _ q => q) (4, .inl (fun _ => 0)) (fun _ => rfl) rfl (by decide) (show _ = 4 by decide) (Nat.le_of_ble_eq_true rfl) rfl (Nat.le_of_ble_eq_true rfl) (Nat.le_of_ble_eq_true rfl) dX8_init_6 (show _ = (1, 4, n + 1) from rfl) (show _ = n from rfl) (Option.some.inj ev1) ?_
  refine jj_dup C dX8_init_8 rfl ?_
  refine jj_iconst (v := 0) C dX8_init_9 (by decide) ?_
  refine jj_bipush (v := (-9)) C dX8_init_10 (by decide) ?_
  obtain ⟨v2, ev2, hx⟩ := ob hx
  refine jj_iast C dX8_init_12 ev2 ?_
  refine jj_dup C dX8_init_13 rfl ?_
  refine jj_iconst (v := 1) C dX8_init_14 (by decide) ?_
  refine jj_bipush (v := (-9)) C dX8_init_15 (by decide) ?_
  obtain ⟨v3, ev3, hx⟩ := ob hx
  refine jj_iast C dX8_init_17 ev3 ?_
  refine jj_dup C dX8_init_18 rfl ?_
  refine jj_iconst (v := 2) C dX8_init_19 (by decide) ?_
  refine jj_bipush (v := (-9)) C dX8_init_20 (by decide) ?_
  obtain ⟨v4, ev4, hx⟩ := ob hx
  refine jj_iast C dX8_init_22 ev4 ?_
  refine jj_dup C dX8_init_23 rfl ?_
  refine jj_iconst (v := 3) C dX8_init_24 (by decide) ?_
  refine jj_bipush (v := (-9)) C dX8_init_25 (by decide) ?_
  obtain ⟨v5, ev5, hx⟩ := ob hx
  refine jj_iast C dX8_init_27 ev5 ?_
  obtain ⟨v6, ev6, hx⟩ := ob hx
  refine jj_putF C fd_X8_9 rfl hin rfl rfl dX8_init_28 ev6 ?_
  refine jj_aload_n C 0 0 dX8_init_31 rfl rfl ?_
  refine jj_iconst (v := 4) C dX8_init_32 (by decide) ?_
  obtain ⟨v7, ev7, hx⟩ := ob hx
  refine jj_newa (atype := .int) (ty := .int) C 0 rfl ac_int rfl (fun _ _ q => q) (4, .inl (fun _ => 0)) (fun _ => rfl) rfl (by decide) (show _ = 4 by decide) (Nat.le_of_ble_eq_true rfl) rfl (Nat.le_of_ble_eq_true rfl) (Nat.le_of_ble_eq_true rfl) dX8_init_33 (show _ = (2, 8, n + 2) from rfl) (show _ = n + 1 from rfl) (Option.some.inj ev7) ?_
  obtain ⟨v8, ev8, hx⟩ := ob hx
  refine jj_putF C fd_X8_13 rfl hin rfl rfl dX8_init_35 ev8 ?_
  refine jj_aload_n C 0 0 dX8_init_38 rfl rfl ?_
  refine jj_sipush (v := 240) C dX8_init_39 (by decide) ?_
  obtain ⟨v9, ev9, hx⟩ := ob hx
  refine jj_newa (atype := .int) (ty := .int) C 0 rfl ac_int rfl (fun _ _ q => q) (240, .inl (fun _ => 0)) (fun _ => rfl) rfl (by decide) (show _ = 240 by decide) (Nat.le_of_ble_eq_true rfl) rfl (Nat.le_of_ble_eq_true rfl) (Nat.le_of_ble_eq_true rfl) dX8_init_42 (show _ = (3, 248, n + 3) from rfl) (show _ = n + 2 from rfl) (Option.some.inj ev9) ?_
  obtain ⟨v10, ev10, hx⟩ := ob hx
  refine jj_putF C fd_X8_16 rfl hin rfl rfl dX8_init_44 ev10 ?_
  refine jj_aload_n C 0 0 dX8_init_47 rfl rfl ?_
  refine jj_iconst (v := 4) C dX8_init_48 (by decide) ?_
  obtain ⟨v11, ev11, hx⟩ := ob hx
  refine jj_newa (atype := .int) (ty := .int) C 0 rfl ac_int rfl (fun _ _ q => q) (4, .inl (fun _ => 0)) (fun _ => rfl) rfl (by decide) (show _ = 4 by decide) (Nat.le_of_ble_eq_true rfl) rfl (Nat.le_of_ble_eq_true rfl) (Nat.le_of_ble_eq_true rfl) dX8_init_49 (show _ = (4, 252, n + 4) from rfl) (show _ = n + 3 from rfl) (Option.some.inj ev11) ?_
  obtain ⟨v12, ev12, hx⟩ := ob hx
  refine jj_putF C fd_X8_19 rfl hin rfl rfl dX8_init_51 ev12 ?_
  refine jj_aload_n C 0 0 dX8_init_54 rfl rfl ?_
  refine jj_iconst (v := 4) C dX8_init_55 (by decide) ?_
  obtain ⟨v13, ev13, hx⟩ := ob hx
  refine jj_newa (atype := .int) (ty := .int) C 0 rfl ac_int rfl (fun _ _ q => q) (4, .inl (fun _ => 0)) (fun _ => rfl) rfl (by decide) (show _ = 4 by decide) (Nat.le_of_ble_eq_true rfl) rfl (Nat.le_of_ble_eq_true rfl) (Nat.le_of_ble_eq_true rfl) dX8_init_56 (show _ = (5, 256, n + 5) from rfl) (show _ = n + 4 from rfl) (Option.some.inj ev13) ?_
  obtain ⟨v14, ev14, hx⟩ := ob hx
  refine jj_putF C fd_X8_22 rfl hin rfl rfl dX8_init_58 ev14 ?_
  refine jj_aload_n C 0 0 dX8_init_61 rfl rfl ?_
  refine jj_bipush (v := 16) C dX8_init_62 (by decide) ?_
  obtain ⟨v15, ev15, hx⟩ := ob hx
  refine jj_newa (atype := .int) (ty := .int) C 0 rfl ac_int rfl (fun _ _ q => q) (16, .inl (fun _ => 0)) (fun _ => rfl) rfl (by decide) (show _ = 16 by decide) (Nat.le_of_ble_eq_true rfl) rfl (Nat.le_of_ble_eq_true rfl) (Nat.le_of_ble_eq_true rfl) dX8_init_64 (show _ = (6, 272, n + 6) from rfl) (show _ = n + 5 from rfl) (Option.some.inj ev15) ?_
  obtain ⟨v16, ev16, hx⟩ := ob hx
  refine jj_putF C fd_X8_25 rfl hin rfl rfl dX8_init_66 ev16 ?_
  refine jj_aload_n C 0 0 dX8_init_69 rfl rfl ?_
  refine jj_bipush (v := 60) C dX8_init_70 (by decide) ?_
  obtain ⟨v17, ev17, hx⟩ := ob hx
  refine jj_newa (atype := .int) (ty := .int) C 0 rfl ac_int rfl (fun _ _ q => q) (60, .inl (fun _ => 0)) (fun _ => rfl) rfl (by decide) (show _ = 60 by decide) (Nat.le_of_ble_eq_true rfl) rfl (Nat.le_of_ble_eq_true rfl) (Nat.le_of_ble_eq_true rfl) dX8_init_72 (show _ = (7, 332, n + 7) from rfl) (show _ = n + 6 from rfl) (Option.some.inj ev17) ?_
  obtain ⟨v18, ev18, hx⟩ := ob hx
  refine jj_putF C fd_X8_28 rfl hin rfl rfl dX8_init_74 ev18 ?_
  refine jj_aload_n C 0 0 dX8_init_77 rfl rfl ?_
  refine jj_iconst (v := 4) C dX8_init_78 (by decide) ?_
  obtain ⟨v19, ev19, hx⟩ := ob hx
  refine jj_newa (atype := .int) (ty := .int) C 0 rfl ac_int rfl (fun _ _ q => q) (4, .inl (fun _ => 0)) (fun _ => rfl) rfl (by decide) (show _ = 4 by decide) (Nat.le_of_ble_eq_true rfl) rfl (Nat.le_of_ble_eq_true rfl) (Nat.le_of_ble_eq_true rfl) dX8_init_79 (show _ = (8, 336, n + 8) from rfl) (show _ = n + 7 from rfl) (Option.some.inj ev19) ?_
  obtain ⟨v20, ev20, hx⟩ := ob hx
  refine jj_putF C fd_X8_31 rfl hin rfl rfl dX8_init_81 ev20 ?_
  refine jj_aload_n C 0 0 dX8_init_84 rfl rfl ?_
  refine jj_iconst (v := 4) C dX8_init_85 (by decide) ?_
  obtain ⟨v21, ev21, hx⟩ := ob hx
  refine jj_newa (atype := .int) (ty := .int) C 0 rfl ac_int rfl (fun _ _ q => q) (4, .inl (fun _ => 0)) (fun _ => rfl) rfl (by decide) (show _ = 4 by decide) (Nat.le_of_ble_eq_true rfl) rfl (Nat.le_of_ble_eq_true rfl) (Nat.le_of_ble_eq_true rfl) dX8_init_86 (show _ = (9, 340, n + 9) from rfl) (show _ = n + 8 from rfl) (Option.some.inj ev21) ?_
  obtain ⟨v22, ev22, hx⟩ := ob hx
  refine jj_putF C fd_X8_34 rfl hin rfl rfl dX8_init_88 ev22 ?_
  refine jj_aload_n C 0 0 dX8_init_91 rfl rfl ?_
  refine jj_bipush (v := 16) C dX8_init_92 (by decide) ?_
  obtain ⟨v23, ev23, hx⟩ := ob hx
  refine jj_newa (atype := .int) (ty := .int) C 0 rfl ac_int rfl (fun _ _ q => q) (16, .inl (fun _ => 0)) (fun _ => rfl) rfl (by decide) (show _ = 16 by decide) (Nat.le_of_ble_eq_true rfl) rfl (Nat.le_of_ble_eq_true rfl) (Nat.le_of_ble_eq_true rfl) dX8_init_94 (show _ = (10, 356, n + 10) from rfl) (show _ = n + 9 from rfl) (Option.some.inj ev23) ?_
  obtain ⟨v24, ev24, hx⟩ := ob hx
  refine jj_putF C fd_X8_37 rfl hin rfl rfl dX8_init_96 ev24 ?_
  refine jj_aload_n C 0 0 dX8_init_99 rfl rfl ?_
  refine jj_bipush (v := 60) C dX8_init_100 (by decide) ?_
  obtain ⟨v25, ev25, hx⟩ := ob hx
  refine jj_newa (atype := .int) (ty := .int) C 0 rfl ac_int rfl (fun _ _ q => q) (60, .inl (fun _ => 0)) (fun _ => rfl) rfl (by decide) (show _ = 60 by decide) (Nat.le_of_ble_eq_true rfl) rfl (Nat.le_of_ble_eq_true rfl) (Nat.le_of_ble_eq_true rfl) dX8_init_102 (show _ = (11, 416, n + 11) from rfl) (show _ = n + 10 from rfl) (Option.some.inj ev25) ?_
  obtain ⟨v26, ev26, hx⟩ := ob hx
  refine jj_putF C fd_X8_40 rfl hin rfl rfl dX8_init_104 ev26 ?_
  refine jj_aload_n C 0 0 dX8_init_107 rfl rfl ?_
  refine jj_bipush (v := 120) C dX8_init_108 (by decide) ?_
  obtain ⟨v27, ev27, hx⟩ := ob hx
  refine jj_newa (atype := .int) (ty := .int) C 0 rfl ac_int rfl (fun _ _ q => q) (120, .inl (fun _ => 0)) (fun _ => rfl) rfl (by decide) (show _ = 120 by decide) (Nat.le_of_ble_eq_true rfl) rfl (Nat.le_of_ble_eq_true rfl) (Nat.le_of_ble_eq_true rfl) dX8_init_110 (show _ = (12, 536, n + 12) from rfl) (show _ = n + 11 from rfl) (Option.some.inj ev27) ?_
  obtain ⟨v28, ev28, hx⟩ := ob hx
  refine jj_putF C fd_X8_43 rfl hin rfl rfl dX8_init_112 ev28 ?_
  refine jj_aload_n C 0 0 dX8_init_115 rfl rfl ?_
  refine jj_bipush (v := 120) C dX8_init_116 (by decide) ?_
  obtain ⟨v29, ev29, hx⟩ := ob hx
  refine jj_newa (atype := .int) (ty := .int) C 0 rfl ac_int rfl (fun _ _ q => q) (120, .inl (fun _ => 0)) (fun _ => rfl) rfl (by decide) (show _ = 120 by decide) (Nat.le_of_ble_eq_true rfl) rfl (Nat.le_of_ble_eq_true rfl) (Nat.le_of_ble_eq_true rfl) dX8_init_118 (show _ = (13, 656, n + 13) from rfl) (show _ = n + 12 from rfl) (Option.some.inj ev29) ?_
  obtain ⟨v30, ev30, hx⟩ := ob hx
  refine jj_putF C fd_X8_46 rfl hin rfl rfl dX8_init_120 ev30 ?_
  refine jj_aload_n C 0 0 dX8_init_123 rfl rfl ?_
  refine jj_sipush (v := 640) C dX8_init_124 (by decide) ?_
  obtain ⟨v31, ev31, hx⟩ := ob hx
  refine jj_newa (atype := .int) (ty := .int) C 0 rfl ac_int rfl (fun _ _ q => q) (640, .inl (fun _ => 0)) (fun _ => rfl) rfl (by decide) (show _ = 640 by decide) (Nat.le_of_ble_eq_true rfl) rfl (Nat.le_of_ble_eq_true rfl) (Nat.le_of_ble_eq_true rfl) dX8_init_127 (show _ = (14, 1296, n + 14) from rfl) (show _ = n + 13 from rfl) (Option.some.inj ev31) ?_
  obtain ⟨v32, ev32, hx⟩ := ob hx
  refine jj_putF C fd_X8_49 rfl hin rfl rfl dX8_init_129 ev32 ?_
  refine jj_aload_n C 0 0 dX8_init_132 rfl rfl ?_
  refine jj_sipush (v := 640) C dX8_init_133 (by decide) ?_
  obtain ⟨v33, ev33, hx⟩ := ob hx
  refine jj_newa (atype := .long) (ty := .long) C 1 rfl ac_long rfl (fun _ _ q => q) (640, .inr (.inl (fun _ => 0))) (fun _ => rfl) rfl (by decide) (show _ = 640 by decide) (Nat.le_of_ble_eq_true rfl) rfl (Nat.le_of_ble_eq_true rfl) (Nat.le_of_ble_eq_true rfl) dX8_init_136 (show _ = (15, 1936, n + 15) from rfl) (show _ = n + 14 from rfl) (Option.some.inj ev33) ?_
  obtain ⟨v34, ev34, hx⟩ := ob hx
  refine jj_putF C fd_X8_52 rfl hin rfl rfl dX8_init_138 ev34 ?_
  refine jj_aload_n C 0 0 dX8_init_141 rfl rfl ?_
  refine jj_sipush (v := 640) C dX8_init_142 (by decide) ?_
  obtain ⟨v35, ev35, hx⟩ := ob hx
  refine jj_newa (atype := .long) (ty := .long) C 1 rfl ac_long rfl (fun _ _ q => q) (640, .inr (.inl (fun _ => 0))) (fun _ => rfl) rfl (by decide) (show _ = 640 by decide) (Nat.le_of_ble_eq_true rfl) rfl (Nat.le_of_ble_eq_true rfl) (Nat.le_of_ble_eq_true rfl) dX8_init_145 (show _ = (16, 2576, n + 16) from rfl) (show _ = n + 15 from rfl) (Option.some.inj ev35) ?_
  obtain ⟨v36, ev36, hx⟩ := ob hx
  refine jj_putF C fd_X8_56 rfl hin rfl rfl dX8_init_147 ev36 ?_
  refine jj_aload_n C 0 0 dX8_init_150 rfl rfl ?_
  refine jj_bipush (v := 40) C dX8_init_151 (by decide) ?_
  obtain ⟨v37, ev37, hx⟩ := ob hx
  refine jj_newa (atype := .int) (ty := .int) C 0 rfl ac_int rfl (fun _ _ q => q) (40, .inl (fun _ => 0)) (fun _ => rfl) rfl (by decide) (show _ = 40 by decide) (Nat.le_of_ble_eq_true rfl) rfl (Nat.le_of_ble_eq_true rfl) (Nat.le_of_ble_eq_true rfl) dX8_init_153 (show _ = (17, 2616, n + 17) from rfl) (show _ = n + 16 from rfl) (Option.some.inj ev37) ?_
  obtain ⟨v38, ev38, hx⟩ := ob hx
  refine jj_putF C fd_X8_59 rfl hin rfl rfl dX8_init_155 ev38 ?_
  refine jj_aload_n C 0 0 dX8_init_158 rfl rfl ?_
  refine jj_bipush (v := 40) C dX8_init_159 (by decide) ?_
  obtain ⟨v39, ev39, hx⟩ := ob hx
  refine jj_newa (atype := .int) (ty := .int) C 0 rfl ac_int rfl (fun _ _ q => q) (40, .inl (fun _ => 0)) (fun _ => rfl) rfl (by decide) (show _ = 40 by decide) (Nat.le_of_ble_eq_true rfl) rfl (Nat.le_of_ble_eq_true rfl) (Nat.le_of_ble_eq_true rfl) dX8_init_161 (show _ = (18, 2656, n + 18) from rfl) (show _ = n + 17 from rfl) (Option.some.inj ev39) ?_
  obtain ⟨v40, ev40, hx⟩ := ob hx
  refine jj_putF C fd_X8_62 rfl hin rfl rfl dX8_init_163 ev40 ?_
  refine jj_aload_n C 0 0 dX8_init_166 rfl rfl ?_
  refine jj_bipush (v := 8) C dX8_init_167 (by decide) ?_
  obtain ⟨v41, ev41, hx⟩ := ob hx
  refine jj_newa (atype := .int) (ty := .int) C 0 rfl ac_int rfl (fun _ _ q => q) (8, .inl (fun _ => 0)) (fun _ => rfl) rfl (by decide) (show _ = 8 by decide) (Nat.le_of_ble_eq_true rfl) rfl (Nat.le_of_ble_eq_true rfl) (Nat.le_of_ble_eq_true rfl) dX8_init_169 (show _ = (19, 2664, n + 19) from rfl) (show _ = n + 18 from rfl) (Option.some.inj ev41) ?_
  obtain ⟨v42, ev42, hx⟩ := ob hx
  refine jj_putF C fd_X8_65 rfl hin rfl rfl dX8_init_171 ev42 ?_
  refine jj_aload_n C 0 0 dX8_init_174 rfl rfl ?_
  refine jj_bipush (v := 8) C dX8_init_175 (by decide) ?_
  obtain ⟨v43, ev43, hx⟩ := ob hx
  refine jj_newa (atype := .int) (ty := .int) C 0 rfl ac_int rfl (fun _ _ q => q) (8, .inl (fun _ => 0)) (fun _ => rfl) rfl (by decide) (show _ = 8 by decide) (Nat.le_of_ble_eq_true rfl) rfl (Nat.le_of_ble_eq_true rfl) (Nat.le_of_ble_eq_true rfl) dX8_init_177 (show _ = (20, 2672, n + 20) from rfl) (show _ = n + 19 from rfl) (Option.some.inj ev43) ?_
  obtain ⟨v44, ev44, hx⟩ := ob hx
  refine jj_putF C fd_X8_68 rfl hin rfl rfl dX8_init_179 ev44 ?_
  refine jj_aload_n C 0 0 dX8_init_182 rfl rfl ?_
  refine jj_bipush (v := 8) C dX8_init_183 (by decide) ?_
  obtain ⟨v45, ev45, hx⟩ := ob hx
  refine jj_newa (atype := .int) (ty := .int) C 0 rfl ac_int rfl (fun _ _ q => q) (8, .inl (fun _ => 0)) (fun _ => rfl) rfl (by decide) (show _ = 8 by decide) (Nat.le_of_ble_eq_true rfl) rfl (Nat.le_of_ble_eq_true rfl) (Nat.le_of_ble_eq_true rfl) dX8_init_185 (show _ = (21, 2680, n + 21) from rfl) (show _ = n + 20 from rfl) (Option.some.inj ev45) ?_
  obtain ⟨v46, ev46, hx⟩ := ob hx
  refine jj_putF C fd_X8_71 rfl hin rfl rfl dX8_init_187 ev46 ?_
  refine jj_aload_n C 0 0 dX8_init_190 rfl rfl ?_
  refine jj_bipush (v := 64) C dX8_init_191 (by decide) ?_
  obtain ⟨v47, ev47, hx⟩ := ob hx
  refine jj_newa (atype := .int) (ty := .int) C 0 rfl ac_int rfl (fun _ _ q => q) (64, .inl (fun _ => 0)) (fun _ => rfl) rfl (by decide) (show _ = 64 by decide) (Nat.le_of_ble_eq_true rfl) rfl (Nat.le_of_ble_eq_true rfl) (Nat.le_of_ble_eq_true rfl) dX8_init_193 (show _ = (22, 2744, n + 22) from rfl) (show _ = n + 21 from rfl) (Option.some.inj ev47) ?_
  obtain ⟨v48, ev48, hx⟩ := ob hx
  refine jj_putF C fd_X8_74 rfl hin rfl rfl dX8_init_195 ev48 ?_
  obtain rfl := Option.some.inj hx
  exact jj_vret C dX8_init_198 rfl
