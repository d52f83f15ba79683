def x_X8_goesFree_66 (F : Nat) (k25 : pH → Int32 → Int32 → Option (Int32 × pH)) (h : pH) (l0 : Nat) (l1 : Int32) (l2 : Int32) : Option (Int32 × pH) :=
  k25 h l1 (l2 + 1)
theorem t_X8_goesFree_66 {X : pX} {G : pG} {n : Nat} {res : (Int32 × pH)} (C : Cx X G RX8 cX8_goesFree 3 (rmD 0 0 0) n (some (FieldType.boolean))) (F : Nat) {h : pH} {l0 : Nat} {l1 : Int32} {l2 : Int32} {k25 : pH → Int32 → Int32 → Option (Int32 × pH)} (hk25 : ∀ (h : pH) (l1 : Int32) (l2 : Int32), k25 h l1 l2 = some res → J X G (0, 0, some (.int res.1), n, res.2) (0, 0, n) h 25 [(0, .ref l0), (1, .int l1), (2, .int l2)] []) (hx : x_X8_goesFree_66 F k25 h l0 l1 l2 = some res) : J X G (0, 0, some (.int res.1), n, res.2) (0, 0, n) h 66 [(0, .ref l0), (1, .int l1), (2, .int l2)] [] := by
  unfold x_X8_goesFree_66 at hx
  refine jj_iinc (v := l2 + 1) C 2 2 dX8_goesFree_66 rfl rfl rfl (by decide) ?_
  refine jj_goto (tgt := 25) C dX8_goesFree_69 (by decide) ?_
  refine jj_sub [1, 2, 0] rfl ?_
  exact hk25 _ _ _ hx
def s_X8_goesFree_74 (F : Nat)  (l0 : Nat) (l1 : Int32) (k74 : pH → Int32 → Option (Int32 × pH)) (h : pH) (l2 : Int32) : Option (Int32 × pH) :=
  if 40 ≤ l2 then
    (retZ l1).bind fun v1 => some (v1, h)
  else
    (getR 8 h l0 23).bind fun v2 =>
    (getR 8 h l0 24).bind fun v3 =>
    (aldI 0 h v3 l2).bind fun v4 =>
    (astI 0 h v2 l2 v4).bind fun v5 =>
    k74 v5 (l2 + 1)
def x_X8_goesFree_74 (F : Nat)  (l0 : Nat) (l1 : Int32) : Nat → pH → Int32 → Option (Int32 × pH)
  | 0, _, _ => none
  | m + 1, h, l2 => s_X8_goesFree_74 F l0 l1 (x_X8_goesFree_74 F l0 l1 m) h l2
theorem ts_X8_goesFree_74 {X : pX} {G : pG} {n : Nat} {res : (Int32 × pH)} (C : Cx X G RX8 cX8_goesFree 3 (rmD 0 0 0) n (some (FieldType.boolean))) (F : Nat) {l0 : Nat} {l1 : Int32} {k74 : pH → Int32 → Option (Int32 × pH)} (hk74 : ∀ (h : pH) (l2 : Int32), k74 h l2 = some res → J X G (0, 0, some (.int res.1), n, res.2) (0, 0, n) h 74 [(0, .ref l0), (1, .int l1), (2, .int l2)] []) {h : pH} {l2 : Int32} (hx : s_X8_goesFree_74 F l0 l1 k74 h l2 = some res) : J X G (0, 0, some (.int res.1), n, res.2) (0, 0, n) h 74 [(0, .ref l0), (1, .int l1), (2, .int l2)] [] := by
  unfold s_X8_goesFree_74 at hx
  refine jj_iload_n C 2 2 dX8_goesFree_74 rfl rfl ?_
  refine jj_bipush (v := 40) C dX8_goesFree_75 (by decide) ?_
  refine jj_icmp_ge (tgt := 98) C dX8_goesFree_77 (by decide) (fun q77 => ?_) (fun q77 => ?_)
  · rw [if_pos q77] at hx
    refine jj_iload_n C 1 1 dX8_goesFree_98 rfl rfl ?_
    obtain ⟨v1, ev1, hx⟩ := ob hx
    obtain ⟨zr, rfl⟩ := retZ_inv ev1
    obtain rfl := Option.some.inj hx
    exact jj_zret C zr dX8_goesFree_99 rfl
  · rw [if_neg q77] at hx
    refine jj_aload_n C 0 0 dX8_goesFree_80 rfl rfl ?_
    obtain ⟨v2, ev2, hx⟩ := ob hx
    refine jj_getR C fd_X8_59 dX8_goesFree_81 ev2 ?_
    refine jj_iload_n C 2 2 dX8_goesFree_84 rfl rfl ?_
    refine jj_aload_n C 0 0 dX8_goesFree_85 rfl rfl ?_
    obtain ⟨v3, ev3, hx⟩ := ob hx
    refine jj_getR C fd_X8_62 dX8_goesFree_86 ev3 ?_
    refine jj_iload_n C 2 2 dX8_goesFree_89 rfl rfl ?_
    obtain ⟨v4, ev4, hx⟩ := ob hx
    refine jj_iald C dX8_goesFree_90 ev4 ?_
    obtain ⟨v5, ev5, hx⟩ := ob hx
    refine jj_iast C dX8_goesFree_91 ev5 ?_
    refine jj_iinc (v := l2 + 1) C 2 2 dX8_goesFree_92 rfl rfl rfl (by decide) ?_
    refine jj_goto (tgt := 74) C dX8_goesFree_95 (by decide) ?_
    refine jj_sub [1, 2, 0] rfl ?_
    exact hk74 _ _ hx
theorem t_X8_goesFree_74 {X : pX} {G : pG} {n : Nat} {res : (Int32 × pH)} (C : Cx X G RX8 cX8_goesFree 3 (rmD 0 0 0) n (some (FieldType.boolean))) (F : Nat) {l0 : Nat} {l1 : Int32} : ∀ (m : Nat) (h : pH) (l2 : Int32), x_X8_goesFree_74 F l0 l1 m h l2 = some res → J X G (0, 0, some (.int res.1), n, res.2) (0, 0, n) h 74 [(0, .ref l0), (1, .int l1), (2, .int l2)] [] := by
  intro m
  induction m with
  | zero => intro h l2 hx; exact nomatch (show (none : Option (Int32 × pH)) = some res from hx)
  | succ m ih => intro h l2 hx; exact ts_X8_goesFree_74 C F  ih hx
def s_X8_goesFree_25 (F : Nat)  (l0 : Nat) (k25 : pH → Int32 → Int32 → Option (Int32 × pH)) (h : pH) (l1 : Int32) (l2 : Int32) : Option (Int32 × pH) :=
  if 120 ≤ l2 then
    x_X8_goesFree_74 F l0 l1 F h 0
  else
    (getR 8 h l0 23).bind fun v1 =>
    (aldI 0 h v1 (l2 / (3 : Int32))).bind fun v2 =>
    if v2 = 1 then
      (getR 8 h l0 19).bind fun v3 =>
      (aldI 0 h v3 l2).bind fun v4 =>
      if v4 = 0 then
        (getR 8 h l0 24).bind fun v5 =>
        (getR 8 h l0 18).bind fun v6 =>
        (aldI 0 h v6 l2).bind fun v7 =>
        (astI 0 h v5 v7 1).bind fun v8 =>
        x_X8_goesFree_66 F k25 v8 l0 1 l2
      else
        x_X8_goesFree_66 F k25 h l0 l1 l2
    else
      x_X8_goesFree_66 F k25 h l0 l1 l2
def x_X8_goesFree_25 (F : Nat)  (l0 : Nat) : Nat → pH → Int32 → Int32 → Option (Int32 × pH)
  | 0, _, _, _ => none
  | m + 1, h, l1, l2 => s_X8_goesFree_25 F l0 (x_X8_goesFree_25 F l0 m) h l1 l2
theorem ts_X8_goesFree_25 {X : pX} {G : pG} {n : Nat} {res : (Int32 × pH)} (C : Cx X G RX8 cX8_goesFree 3 (rmD 0 0 0) n (some (FieldType.boolean))) (F : Nat) {l0 : Nat} {k25 : pH → Int32 → Int32 → Option (Int32 × pH)} (hk25 : ∀ (h : pH) (l1 : Int32) (l2 : Int32), k25 h l1 l2 = some res → J X G (0, 0, some (.int res.1), n, res.2) (0, 0, n) h 25 [(0, .ref l0), (1, .int l1), (2, .int l2)] []) {h : pH} {l1 : Int32} {l2 : Int32} (hx : s_X8_goesFree_25 F l0 k25 h l1 l2 = some res) : J X G (0, 0, some (.int res.1), n, res.2) (0, 0, n) h 25 [(0, .ref l0), (1, .int l1), (2, .int l2)] [] := by
  unfold s_X8_goesFree_25 at hx
  refine jj_iload_n C 2 2 dX8_goesFree_25 rfl rfl ?_
  refine jj_bipush (v := 120) C dX8_goesFree_26 (by decide) ?_
  refine jj_icmp_ge (tgt := 72) C dX8_goesFree_28 (by decide) (fun q28 => ?_) (fun q28 => ?_)
  · rw [if_pos q28] at hx
    refine jj_iconst (v := 0) C dX8_goesFree_72 (by decide) ?_
    refine jj_istore_n C 2 dX8_goesFree_73 rfl rfl (by decide) ?_
    refine jj_sub [1, 2, 0] rfl ?_
    exact t_X8_goesFree_74 C F F _ _ hx
  · rw [if_neg q28] at hx
    refine jj_aload_n C 0 0 dX8_goesFree_31 rfl rfl ?_
    obtain ⟨v1, ev1, hx⟩ := ob hx
    refine jj_getR C fd_X8_59 dX8_goesFree_32 ev1 ?_
    refine jj_iload_n C 2 2 dX8_goesFree_35 rfl rfl ?_
    refine jj_iconst (v := 3) C dX8_goesFree_36 (by decide) ?_
    refine jj_idiv C dX8_goesFree_37 (by decide) ?_
    obtain ⟨v2, ev2, hx⟩ := ob hx
    refine jj_iald C dX8_goesFree_38 ev2 ?_
    refine jj_iconst (v := 1) C dX8_goesFree_39 (by decide) ?_
    refine jj_icmp_ne (tgt := 66) C dX8_goesFree_40 (by decide) (fun q40 => ?_) (fun q40 => ?_)
    · rw [if_neg q40] at hx
      exact t_X8_goesFree_66 C F hk25 hx
    · rw [if_pos q40] at hx
      refine jj_aload_n C 0 0 dX8_goesFree_43 rfl rfl ?_
      obtain ⟨v3, ev3, hx⟩ := ob hx
      refine jj_getR C fd_X8_46 dX8_goesFree_44 ev3 ?_
      refine jj_iload_n C 2 2 dX8_goesFree_47 rfl rfl ?_
      obtain ⟨v4, ev4, hx⟩ := ob hx
      refine jj_iald C dX8_goesFree_48 ev4 ?_
      refine jj_if_ne (tgt := 66) C dX8_goesFree_49 (by decide) (fun q49 => ?_) (fun q49 => ?_)
      · rw [if_neg q49] at hx
        exact t_X8_goesFree_66 C F hk25 hx
      · rw [if_pos q49] at hx
        refine jj_aload_n C 0 0 dX8_goesFree_52 rfl rfl ?_
        obtain ⟨v5, ev5, hx⟩ := ob hx
        refine jj_getR C fd_X8_62 dX8_goesFree_53 ev5 ?_
        refine jj_aload_n C 0 0 dX8_goesFree_56 rfl rfl ?_
        obtain ⟨v6, ev6, hx⟩ := ob hx
        refine jj_getR C fd_X8_43 dX8_goesFree_57 ev6 ?_
        refine jj_iload_n C 2 2 dX8_goesFree_60 rfl rfl ?_
        obtain ⟨v7, ev7, hx⟩ := ob hx
        refine jj_iald C dX8_goesFree_61 ev7 ?_
        refine jj_iconst (v := 1) C dX8_goesFree_62 (by decide) ?_
        obtain ⟨v8, ev8, hx⟩ := ob hx
        refine jj_iast C dX8_goesFree_63 ev8 ?_
        refine jj_iconst (v := 1) C dX8_goesFree_64 (by decide) ?_
        refine jj_istore_n C 1 dX8_goesFree_65 rfl rfl (by decide) ?_
        refine jj_sub [1, 0, 2] rfl ?_
        exact t_X8_goesFree_66 C F hk25 hx
theorem t_X8_goesFree_25 {X : pX} {G : pG} {n : Nat} {res : (Int32 × pH)} (C : Cx X G RX8 cX8_goesFree 3 (rmD 0 0 0) n (some (FieldType.boolean))) (F : Nat) {l0 : Nat} : ∀ (m : Nat) (h : pH) (l1 : Int32) (l2 : Int32), x_X8_goesFree_25 F l0 m h l1 l2 = some res → J X G (0, 0, some (.int res.1), n, res.2) (0, 0, n) h 25 [(0, .ref l0), (1, .int l1), (2, .int l2)] [] := by
  intro m
  induction m with
  | zero => intro h l1 l2 hx; exact nomatch (show (none : Option (Int32 × pH)) = some res from hx)
  | succ m ih => intro h l1 l2 hx; exact ts_X8_goesFree_25 C F  ih hx
def s_X8_goesFree_2 (F : Nat)  (l0 : Nat) (k2 : pH → Int32 → Option (Int32 × pH)) (h : pH) (l1 : Int32) : Option (Int32 × pH) :=
  if 40 ≤ l1 then
    x_X8_goesFree_25 F l0 F h 0 0
  else
    (getR 8 h l0 24).bind fun v1 =>
    (astI 0 h v1 l1 0).bind fun v2 =>
    k2 v2 (l1 + 1)
def x_X8_goesFree_2 (F : Nat)  (l0 : Nat) : Nat → pH → Int32 → Option (Int32 × pH)
  | 0, _, _ => none
  | m + 1, h, l1 => s_X8_goesFree_2 F l0 (x_X8_goesFree_2 F l0 m) h l1
theorem ts_X8_goesFree_2 {X : pX} {G : pG} {n : Nat} {res : (Int32 × pH)} (C : Cx X G RX8 cX8_goesFree 3 (rmD 0 0 0) n (some (FieldType.boolean))) (F : Nat) {l0 : Nat} {k2 : pH → Int32 → Option (Int32 × pH)} (hk2 : ∀ (h : pH) (l1 : Int32), k2 h l1 = some res → J X G (0, 0, some (.int res.1), n, res.2) (0, 0, n) h 2 [(0, .ref l0), (1, .int l1)] []) {h : pH} {l1 : Int32} (hx : s_X8_goesFree_2 F l0 k2 h l1 = some res) : J X G (0, 0, some (.int res.1), n, res.2) (0, 0, n) h 2 [(0, .ref l0), (1, .int l1)] [] := by
  unfold s_X8_goesFree_2 at hx
  refine jj_iload_n C 1 1 dX8_goesFree_2 rfl rfl ?_
  refine jj_bipush (v := 40) C dX8_goesFree_3 (by decide) ?_
  refine jj_icmp_ge (tgt := 21) C dX8_goesFree_5 (by decide) (fun q5 => ?_) (fun q5 => ?_)
  · rw [if_pos q5] at hx
    refine jj_iconst (v := 0) C dX8_goesFree_21 (by decide) ?_
    refine jj_istore_n C 1 dX8_goesFree_22 rfl rfl (by decide) ?_
    refine jj_iconst (v := 0) C dX8_goesFree_23 (by decide) ?_
    refine jj_istore_n C 2 dX8_goesFree_24 rfl rfl (by decide) ?_
    refine jj_sub [2, 1, 0] rfl ?_
    exact t_X8_goesFree_25 C F F _ _ _ hx
  · rw [if_neg q5] at hx
    refine jj_aload_n C 0 0 dX8_goesFree_8 rfl rfl ?_
    obtain ⟨v1, ev1, hx⟩ := ob hx
    refine jj_getR C fd_X8_62 dX8_goesFree_9 ev1 ?_
    refine jj_iload_n C 1 1 dX8_goesFree_12 rfl rfl ?_
    refine jj_iconst (v := 0) C dX8_goesFree_13 (by decide) ?_
    obtain ⟨v2, ev2, hx⟩ := ob hx
    refine jj_iast C dX8_goesFree_14 ev2 ?_
    refine jj_iinc (v := l1 + 1) C 1 1 dX8_goesFree_15 rfl rfl rfl (by decide) ?_
    refine jj_goto (tgt := 2) C dX8_goesFree_18 (by decide) ?_
    refine jj_sub [1, 0] rfl ?_
    exact hk2 _ _ hx
theorem t_X8_goesFree_2 {X : pX} {G : pG} {n : Nat} {res : (Int32 × pH)} (C : Cx X G RX8 cX8_goesFree 3 (rmD 0 0 0) n (some (FieldType.boolean))) (F : Nat) {l0 : Nat} : ∀ (m : Nat) (h : pH) (l1 : Int32), x_X8_goesFree_2 F l0 m h l1 = some res → J X G (0, 0, some (.int res.1), n, res.2) (0, 0, n) h 2 [(0, .ref l0), (1, .int l1)] [] := by
  intro m
  induction m with
  | zero => intro h l1 hx; exact nomatch (show (none : Option (Int32 × pH)) = some res from hx)
  | succ m ih => intro h l1 hx; exact ts_X8_goesFree_2 C F  ih hx
def x_X8_goesFree (F : Nat) (h : pH) (l0 : Nat) : Option (Int32 × pH) :=
  (chk 8 h l0).bind fun _ =>
  x_X8_goesFree_2 F l0 F h 0
theorem o_X8_goesFree {F : Nat} {h : pH} {l0 : Nat} {res : (Int32 × pH)} (hx : x_X8_goesFree F h l0 = some res) : chk 8 h l0 = some () := by
  unfold x_X8_goesFree at hx
  obtain ⟨_, e, _⟩ := ob hx
  exact e
theorem mc_X8_goesFree (l : Launch) (G : pG) (F n : Nat) {h : pH} {l0 : Nat} {res : (Int32 × pH)} (hx : x_X8_goesFree F h l0 = some res) : MC l yX8_goesFree cX8_goesFree 3 (some (FieldType.boolean)) (rmD 0 0 0) G [.ref l0] n h (some (.int res.1)) n res.2 := by
  unfold x_X8_goesFree at hx
  obtain ⟨_, _, hx⟩ := ob hx
  refine jj_entry RX8 rfl (by decide) (Nat.le_of_ble_eq_true rfl) (fun X _ _ C => ?_)
  show J X G (0, 0, some (.int res.1), n, res.2) (0, 0, n) h 0 [(0, .ref l0)] []
  refine jj_iconst (v := 0) C dX8_goesFree_0 (by decide) ?_
  refine jj_istore_n C 1 dX8_goesFree_1 rfl rfl (by decide) ?_
  refine jj_sub [1, 0] rfl ?_
  exact t_X8_goesFree_2 C F F _ _ hx
def x_X8_have (F : Nat) (h : pH) (l0 : Nat) (l1 : Int32) : Option (Int64 × pH) :=
  (chk 8 h l0).bind fun _ =>
  (x_X8_within F h l1 0 30).bind fun v1 =>
  if v1 = 0 then
    some ((-9223372036854775808 : Int64), h)
  else
    (getI 8 h l0 5).bind fun v2 =>
    if v2 = 0 then
      some ((-9223372036854775808 : Int64), h)
    else
      (x_X8_findWays F h l0 l1).bind fun v3 =>
      (x_X8_allWords F v3 l0).bind fun v4 =>
      (x_X8_waysWith F v3 l0 v4).bind fun v5 =>
      some (v5, v3)
theorem o_X8_have {F : Nat} {h : pH} {l0 : Nat} {l1 : Int32} {res : (Int64 × pH)} (hx : x_X8_have F h l0 l1 = some res) : chk 8 h l0 = some () := by
  unfold x_X8_have at hx
  obtain ⟨_, e, _⟩ := ob hx
  exact e
theorem mc_X8_have (l : Launch) (G : pG) (F n : Nat) {h : pH} {l0 : Nat} {l1 : Int32} {res : (Int64 × pH)} (hx : x_X8_have F h l0 l1 = some res) : MC l yX8_have cX8_have 2 (some (FieldType.long)) (rmD 5 0 0) G [.ref l0, .int l1] n h (some (.long res.1)) n res.2 := by
  unfold x_X8_have at hx
  obtain ⟨_, _, hx⟩ := ob hx
  refine jj_entry RX8 rfl (by decide) (Nat.le_of_ble_eq_true rfl) (fun X _ _ C => ?_)
  show J X G (0, 0, some (.long res.1), n, res.2) (0, 0, n) h 0 [(0, .ref l0), (1, .int l1)] []
  refine jj_iload_n C 1 1 dX8_have_0 rfl rfl ?_
  refine jj_iconst (v := 0) C dX8_have_1 (by decide) ?_
  refine jj_bipush (v := 30) C dX8_have_2 (by decide) ?_
  obtain ⟨v1, ev1, hx⟩ := ob hx
  refine jj_callS C [.int l1, .int 0, .int 30] lk_X8_83 (mc_X8_within X.2.1 G F n ev1) rfl rfl (Nat.le_of_ble_eq_true rfl) ⟨Nat.le_of_ble_eq_true rfl, Nat.le_of_ble_eq_true rfl⟩ ⟨Nat.zero_le _, Nat.zero_le _⟩ rfl dX8_have_4 rfl rfl ?_
  refine jj_if_eq (tgt := 17) C dX8_have_7 (by decide) (fun q7 => ?_) (fun q7 => ?_)
  · rw [if_pos q7] at hx
    refine jj_ldc2 C dX8_have_17 ct_X8_81 ?_
    obtain rfl := Option.some.inj hx
    exact jj_lret C dX8_have_20 rfl
  · rw [if_neg q7] at hx
    refine jj_aload_n C 0 0 dX8_have_10 rfl rfl ?_
    obtain ⟨v2, ev2, hx⟩ := ob hx
    refine jj_getI C fd_X8_87 dX8_have_11 ev2 ?_
    refine jj_if_ne (tgt := 21) C dX8_have_14 (by decide) (fun q14 => ?_) (fun q14 => ?_)
    · rw [if_neg q14] at hx
      refine jj_aload_n C 0 0 dX8_have_21 rfl rfl ?_
      refine jj_iload_n C 1 1 dX8_have_22 rfl rfl ?_
      obtain ⟨v3, ev3, hx⟩ := ob hx
      refine jj_callV C [.int l1] lk_X8_185 (mc_X8_findWays X.2.1 G F n ev3) (o_X8_findWays ev3) rfl rfl (Nat.le_of_ble_eq_true rfl) ⟨Nat.le_of_ble_eq_true rfl, Nat.le_of_ble_eq_true rfl⟩ ⟨Nat.zero_le _, Nat.zero_le _⟩ rfl dX8_have_23 rfl rfl ?_
      refine jj_aload_n C 0 0 dX8_have_26 rfl rfl ?_
      refine jj_aload_n C 0 0 dX8_have_27 rfl rfl ?_
      obtain ⟨v4, ev4, hx⟩ := ob hx
      refine jj_callV C [] lk_X8_175 (mc_X8_allWords X.2.1 G F n ev4) (o_X8_allWords ev4) rfl rfl (Nat.le_of_ble_eq_true rfl) ⟨Nat.le_of_ble_eq_true rfl, Nat.le_of_ble_eq_true rfl⟩ ⟨Nat.zero_le _, Nat.zero_le _⟩ rfl dX8_have_28 rfl rfl ?_
      obtain ⟨v5, ev5, hx⟩ := ob hx
      refine jj_callV C [.int v4] lk_X8_189 (mc_X8_waysWith X.2.1 G F n ev5) (o_X8_waysWith ev5) rfl rfl (Nat.le_of_ble_eq_true rfl) ⟨Nat.le_of_ble_eq_true rfl, Nat.le_of_ble_eq_true rfl⟩ ⟨Nat.zero_le _, Nat.zero_le _⟩ rfl dX8_have_31 rfl rfl ?_
      obtain rfl := Option.some.inj hx
      exact jj_lret C dX8_have_34 rfl
    · rw [if_pos q14] at hx
      refine jj_ldc2 C dX8_have_17 ct_X8_81 ?_
      obtain rfl := Option.some.inj hx
      exact jj_lret C dX8_have_20 rfl
def x_X8_heardBy_28 (F : Nat) (k4 : Int32 → Int32 → Option Int32) (h : pH) (l0 : Nat) (l1 : Int32) (l2 : Int32) (l3 : Int32) : Option Int32 :=
  (getI 8 h l0 5).bind fun v1 =>
  if l2 = (((1 : Int32) <<< (v1 &&& 31)) - (1 : Int32)) then
    some l3
  else
    k4 l2 (l3 + 1)
theorem t_X8_heardBy_28 {X : pX} {G : pG} {n : Nat} {res : Int32} (C : Cx X G RX8 cX8_heardBy 4 (rmD 3 0 0) n (some (FieldType.int))) (F : Nat) {h : pH} {l0 : Nat} {l1 : Int32} {l2 : Int32} {l3 : Int32} {k4 : Int32 → Int32 → Option Int32} (hk4 : ∀ (l2 : Int32) (l3 : Int32), k4 l2 l3 = some res → J X G (0, 0, some (.int res), n, h) (0, 0, n) h 4 [(0, .ref l0), (1, .int l1), (2, .int l2), (3, .int l3)] []) (hx : x_X8_heardBy_28 F k4 h l0 l1 l2 l3 = some res) : J X G (0, 0, some (.int res), n, h) (0, 0, n) h 28 [(0, .ref l0), (1, .int l1), (2, .int l2), (3, .int l3)] [] := by
  unfold x_X8_heardBy_28 at hx
  refine jj_iload_n C 2 2 dX8_heardBy_28 rfl rfl ?_
  refine jj_iconst (v := 1) C dX8_heardBy_29 (by decide) ?_
  refine jj_aload_n C 0 0 dX8_heardBy_30 rfl rfl ?_
  obtain ⟨v1, ev1, hx⟩ := ob hx
  refine jj_getI C fd_X8_87 dX8_heardBy_31 ev1 ?_
  refine jj_ishl C dX8_heardBy_34 ?_
  refine jj_iconst (v := 1) C dX8_heardBy_35 (by decide) ?_
  refine jj_isub C dX8_heardBy_36 ?_
  refine jj_icmp_ne (tgt := 42) C dX8_heardBy_37 (by decide) (fun q37 => ?_) (fun q37 => ?_)
  · rw [if_neg q37] at hx
    refine jj_iinc (v := l3 + 1) C 3 3 dX8_heardBy_42 rfl rfl rfl (by decide) ?_
    refine jj_goto (tgt := 4) C dX8_heardBy_45 (by decide) ?_
    refine jj_sub [1, 2, 3, 0] rfl ?_
    exact hk4 _ _ hx
  · rw [if_pos q37] at hx
    refine jj_iload_n C 3 3 dX8_heardBy_40 rfl rfl ?_
    obtain rfl := Option.some.inj hx
    exact jj_iret C dX8_heardBy_41 rfl
def s_X8_heardBy_4 (F : Nat)  (h : pH) (l0 : Nat) (l1 : Int32) (k4 : Int32 → Int32 → Option Int32) (l2 : Int32) (l3 : Int32) : Option Int32 :=
  (getI 8 h l0 17).bind fun v1 =>
  if v1 < l3 then
    some (-9 : Int32)
  else
    (x_X8_heardBehind F h l0 l3).bind fun v2 =>
    if l1 = 0 then
      x_X8_heardBy_28 F k4 h l0 l1 (l2 ||| v2) l3
    else
      if (l2 ||| v2) = 0 then
        x_X8_heardBy_28 F k4 h l0 l1 (l2 ||| v2) l3
      else
        some l3
def x_X8_heardBy_4 (F : Nat)  (h : pH) (l0 : Nat) (l1 : Int32) : Nat → Int32 → Int32 → Option Int32
  | 0, _, _ => none
  | m + 1, l2, l3 => s_X8_heardBy_4 F h l0 l1 (x_X8_heardBy_4 F h l0 l1 m) l2 l3
theorem ts_X8_heardBy_4 {X : pX} {G : pG} {n : Nat} {res : Int32} (C : Cx X G RX8 cX8_heardBy 4 (rmD 3 0 0) n (some (FieldType.int))) (F : Nat) {h : pH} {l0 : Nat} {l1 : Int32} {k4 : Int32 → Int32 → Option Int32} (hk4 : ∀ (l2 : Int32) (l3 : Int32), k4 l2 l3 = some res → J X G (0, 0, some (.int res), n, h) (0, 0, n) h 4 [(0, .ref l0), (1, .int l1), (2, .int l2), (3, .int l3)] []) {l2 : Int32} {l3 : Int32} (hx : s_X8_heardBy_4 F h l0 l1 k4 l2 l3 = some res) : J X G (0, 0, some (.int res), n, h) (0, 0, n) h 4 [(0, .ref l0), (1, .int l1), (2, .int l2), (3, .int l3)] [] := by
  unfold s_X8_heardBy_4 at hx
  refine jj_iload_n C 3 3 dX8_heardBy_4 rfl rfl ?_
  refine jj_aload_n C 0 0 dX8_heardBy_5 rfl rfl ?_
  obtain ⟨v1, ev1, hx⟩ := ob hx
  refine jj_getI C fd_X8_133 dX8_heardBy_6 ev1 ?_
  refine jj_icmp_gt (tgt := 48) C dX8_heardBy_9 (by decide) (fun q9 => ?_) (fun q9 => ?_)
  · rw [if_pos q9] at hx
    refine jj_bipush (v := (-9)) C dX8_heardBy_48 (by decide) ?_
    obtain rfl := Option.some.inj hx
    exact jj_iret C dX8_heardBy_50 rfl
  · rw [if_neg q9] at hx
    refine jj_iload_n C 2 2 dX8_heardBy_12 rfl rfl ?_
    refine jj_aload_n C 0 0 dX8_heardBy_13 rfl rfl ?_
    refine jj_iload_n C 3 3 dX8_heardBy_14 rfl rfl ?_
    obtain ⟨v2, ev2, hx⟩ := ob hx
    refine jj_callV C [.int l3] lk_X8_148 (mc_X8_heardBehind X.2.1 G F n ev2) (o_X8_heardBehind ev2) rfl rfl (Nat.le_of_ble_eq_true rfl) ⟨Nat.le_of_ble_eq_true rfl, Nat.le_of_ble_eq_true rfl⟩ ⟨Nat.zero_le _, Nat.zero_le _⟩ rfl dX8_heardBy_15 rfl rfl ?_
    refine jj_ior C dX8_heardBy_18 ?_
    refine jj_istore_n C 2 dX8_heardBy_19 rfl rfl (by decide) ?_
    refine jj_iload_n C 1 2 dX8_heardBy_20 rfl rfl ?_
    refine jj_if_eq (tgt := 28) C dX8_heardBy_21 (by decide) (fun q21 => ?_) (fun q21 => ?_)
    · rw [if_pos q21] at hx
      refine jj_sub [1, 2, 0, 3] rfl ?_
      exact t_X8_heardBy_28 C F hk4 hx
    · rw [if_neg q21] at hx
      refine jj_iload_n C 2 0 dX8_heardBy_24 rfl rfl ?_
      refine jj_if_ne (tgt := 40) C dX8_heardBy_25 (by decide) (fun q25 => ?_) (fun q25 => ?_)
      · rw [if_neg q25] at hx
        refine jj_iload_n C 3 3 dX8_heardBy_40 rfl rfl ?_
        obtain rfl := Option.some.inj hx
        exact jj_iret C dX8_heardBy_41 rfl
      · rw [if_pos q25] at hx
        refine jj_sub [1, 2, 0, 3] rfl ?_
        exact t_X8_heardBy_28 C F hk4 hx
theorem t_X8_heardBy_4 {X : pX} {G : pG} {n : Nat} {res : Int32} (C : Cx X G RX8 cX8_heardBy 4 (rmD 3 0 0) n (some (FieldType.int))) (F : Nat) {h : pH} {l0 : Nat} {l1 : Int32} : ∀ (m : Nat) (l2 : Int32) (l3 : Int32), x_X8_heardBy_4 F h l0 l1 m l2 l3 = some res → J X G (0, 0, some (.int res), n, h) (0, 0, n) h 4 [(0, .ref l0), (1, .int l1), (2, .int l2), (3, .int l3)] [] := by
  intro m
  induction m with
  | zero => intro l2 l3 hx; exact nomatch (show (none : Option Int32) = some res from hx)
  | succ m ih => intro l2 l3 hx; exact ts_X8_heardBy_4 C F  ih hx
def x_X8_heardBy (F : Nat) (h : pH) (l0 : Nat) (l1 : Int32) : Option Int32 :=
  (chk 8 h l0).bind fun _ =>
  x_X8_heardBy_4 F h l0 l1 F 0 1
theorem o_X8_heardBy {F : Nat} {h : pH} {l0 : Nat} {l1 : Int32} {res : Int32} (hx : x_X8_heardBy F h l0 l1 = some res) : chk 8 h l0 = some () := by
  unfold x_X8_heardBy at hx
  obtain ⟨_, e, _⟩ := ob hx
  exact e
theorem mc_X8_heardBy (l : Launch) (G : pG) (F n : Nat) {h : pH} {l0 : Nat} {l1 : Int32} {res : Int32} (hx : x_X8_heardBy F h l0 l1 = some res) : MC l yX8_heardBy cX8_heardBy 4 (some (FieldType.int)) (rmD 3 0 0) G [.ref l0, .int l1] n h (some (.int res)) n h := by
  unfold x_X8_heardBy at hx
  obtain ⟨_, _, hx⟩ := ob hx
  refine jj_entry RX8 rfl (by decide) (Nat.le_of_ble_eq_true rfl) (fun X _ _ C => ?_)
  show J X G (0, 0, some (.int res), n, h) (0, 0, n) h 0 [(0, .ref l0), (1, .int l1)] []
  refine jj_iconst (v := 0) C dX8_heardBy_0 (by decide) ?_
  refine jj_istore_n C 2 dX8_heardBy_1 rfl rfl (by decide) ?_
  refine jj_iconst (v := 1) C dX8_heardBy_2 (by decide) ?_
  refine jj_istore_n C 3 dX8_heardBy_3 rfl rfl (by decide) ?_
  refine jj_sub [2, 3, 1, 0] rfl ?_
  exact t_X8_heardBy_4 C F F _ _ hx
def x_X8_hush (F : Nat) (h : pH) (l0 : Nat) : Option (Int32 × pH) :=
  (chk 8 h l0).bind fun _ =>
  (getI 8 h l0 5).bind fun v1 =>
  if v1 = 0 then
    some ((-3 : Int32), h)
  else
    (getI 8 h l0 6).bind fun v2 =>
    (putV 8 h l0 6 (.int 0)).bind fun v3 =>
    some (v2, v3)
theorem o_X8_hush {F : Nat} {h : pH} {l0 : Nat} {res : (Int32 × pH)} (hx : x_X8_hush F h l0 = some res) : chk 8 h l0 = some () := by
  unfold x_X8_hush at hx
  obtain ⟨_, e, _⟩ := ob hx
  exact e
theorem mc_X8_hush (l : Launch) (G : pG) (F n : Nat) {h : pH} {l0 : Nat} {res : (Int32 × pH)} (hx : x_X8_hush F h l0 = some res) : MC l yX8_hush cX8_hush 2 (some (FieldType.int)) (rmD 0 0 0) G [.ref l0] n h (some (.int res.1)) n res.2 := by
  unfold x_X8_hush at hx
  obtain ⟨_, _, hx⟩ := ob hx
  refine jj_entry RX8 rfl (by decide) (Nat.le_of_ble_eq_true rfl) (fun X _ _ C => ?_)
  show J X G (0, 0, some (.int res.1), n, res.2) (0, 0, n) h 0 [(0, .ref l0)] []
  refine jj_aload_n C 0 0 dX8_hush_0 rfl rfl ?_
  obtain ⟨v1, ev1, hx⟩ := ob hx
  refine jj_getI C fd_X8_87 dX8_hush_1 ev1 ?_
  refine jj_if_ne (tgt := 10) C dX8_hush_4 (by decide) (fun q4 => ?_) (fun q4 => ?_)
  · rw [if_neg q4] at hx
    refine jj_aload_n C 0 0 dX8_hush_10 rfl rfl ?_
    obtain ⟨v2, ev2, hx⟩ := ob hx
    refine jj_getI C fd_X8_114 dX8_hush_11 ev2 ?_
    refine jj_istore_n C 1 dX8_hush_14 rfl rfl (by decide) ?_
    refine jj_aload_n C 0 1 dX8_hush_15 rfl rfl ?_
    refine jj_iconst (v := 0) C dX8_hush_16 (by decide) ?_
    obtain ⟨v3, ev3, hx⟩ := ob hx
    refine jj_put C fd_X8_114 rfl rfl dX8_hush_17 ev3 ?_
    refine jj_iload_n C 1 0 dX8_hush_20 rfl rfl ?_
    obtain rfl := Option.some.inj hx
    exact jj_iret C dX8_hush_21 rfl
  · rw [if_pos q4] at hx
    refine jj_bipush (v := (-3)) C dX8_hush_7 (by decide) ?_
    obtain rfl := Option.some.inj hx
    exact jj_iret C dX8_hush_9 rfl
def s_X8_inLeastTerms_6 (F : Nat)  (h : pH) (l0 : Int64) (l2 : Int64) (l4 : Int32) (k6 : Int64 → Int64 → Option Int64) (l5 : Int64) (l7 : Int64) : Option Int64 :=
  if (lg_cmp l7 0) = 0 then
    if l4 = 0 then
      if l5 = 0 then none else
      some (l0 / l5)
    else
      if l5 = 0 then none else
      some (l2 / l5)
  else
    if l7 = 0 then none else
    k6 l7 (l5 - l5 / l7 * l7)
def x_X8_inLeastTerms_6 (F : Nat)  (h : pH) (l0 : Int64) (l2 : Int64) (l4 : Int32) : Nat → Int64 → Int64 → Option Int64
  | 0, _, _ => none
  | m + 1, l5, l7 => s_X8_inLeastTerms_6 F h l0 l2 l4 (x_X8_inLeastTerms_6 F h l0 l2 l4 m) l5 l7
theorem ts_X8_inLeastTerms_6 {X : pX} {G : pG} {n : Nat} {res : Int64} (C : Cx X G RX8 cX8_inLeastTerms 11 (rmD 0 0 0) n (some (FieldType.long))) (F : Nat) {h : pH} {l0 : Int64} {l2 : Int64} {l4 : Int32} {k6 : Int64 → Int64 → Option Int64} (hk6 : ∀ (l5 : Int64) (l7 : Int64), k6 l5 l7 = some res → J X G (0, 0, some (.long res), n, h) (0, 0, n) h 6 [(0, .long l0), (2, .long l2), (4, .int l4), (5, .long l5), (7, .long l7)] []) {l5 : Int64} {l7 : Int64} (hx : s_X8_inLeastTerms_6 F h l0 l2 l4 k6 l5 l7 = some res) : J X G (0, 0, some (.long res), n, h) (0, 0, n) h 6 [(0, .long l0), (2, .long l2), (4, .int l4), (5, .long l5), (7, .long l7)] [] := by
  unfold s_X8_inLeastTerms_6 at hx
  refine jj_lload C 7 4 dX8_inLeastTerms_6 rfl ?_
  refine jj_lconst (v := 0) C dX8_inLeastTerms_8 (by decide) ?_
  refine jj_lcmp C dX8_inLeastTerms_9 ?_
  refine jj_if_eq (tgt := 31) C dX8_inLeastTerms_10 (by decide) (fun q10 => ?_) (fun q10 => ?_)
  · rw [if_pos q10] at hx
    refine jj_iload C 4 2 dX8_inLeastTerms_31 rfl ?_
    refine jj_if_ne (tgt := 43) C dX8_inLeastTerms_33 (by decide) (fun q33 => ?_) (fun q33 => ?_)
    · rw [if_neg q33] at hx
      refine jj_lload_n C 2 1 dX8_inLeastTerms_43 rfl rfl ?_
      refine jj_lload C 5 3 dX8_inLeastTerms_44 rfl ?_
      obtain ⟨z46, hx⟩ := oe hx
      refine jj_ldiv C dX8_inLeastTerms_46 z46 ?_
      obtain rfl := Option.some.inj hx
      exact jj_lret C dX8_inLeastTerms_47 rfl
    · rw [if_pos q33] at hx
      refine jj_lload_n C 0 0 dX8_inLeastTerms_36 rfl rfl ?_
      refine jj_lload C 5 3 dX8_inLeastTerms_37 rfl ?_
      obtain ⟨z39, hx⟩ := oe hx
      refine jj_ldiv C dX8_inLeastTerms_39 z39 ?_
      refine jj_goto (tgt := 47) C dX8_inLeastTerms_40 (by decide) ?_
      obtain rfl := Option.some.inj hx
      exact jj_lret C dX8_inLeastTerms_47 rfl
  · rw [if_neg q10] at hx
    refine jj_lload C 5 3 dX8_inLeastTerms_13 rfl ?_
    refine jj_lload C 7 4 dX8_inLeastTerms_15 rfl ?_
    obtain ⟨z17, hx⟩ := oe hx
    refine jj_lrem C dX8_inLeastTerms_17 z17 ?_
    refine jj_lstore C 9 dX8_inLeastTerms_18 rfl (by decide) ?_
    refine jj_lload C 7 5 dX8_inLeastTerms_20 rfl ?_
    refine jj_lstore C 5 dX8_inLeastTerms_22 rfl (by decide) ?_
    refine jj_lload C 9 1 dX8_inLeastTerms_24 rfl ?_
    refine jj_lstore C 7 dX8_inLeastTerms_26 rfl (by decide) ?_
    refine jj_goto (tgt := 6) C dX8_inLeastTerms_28 (by decide) ?_
    refine jj_sub [3, 4, 5, 1, 0] rfl ?_
    exact hk6 _ _ hx
theorem t_X8_inLeastTerms_6 {X : pX} {G : pG} {n : Nat} {res : Int64} (C : Cx X G RX8 cX8_inLeastTerms 11 (rmD 0 0 0) n (some (FieldType.long))) (F : Nat) {h : pH} {l0 : Int64} {l2 : Int64} {l4 : Int32} : ∀ (m : Nat) (l5 : Int64) (l7 : Int64), x_X8_inLeastTerms_6 F h l0 l2 l4 m l5 l7 = some res → J X G (0, 0, some (.long res), n, h) (0, 0, n) h 6 [(0, .long l0), (2, .long l2), (4, .int l4), (5, .long l5), (7, .long l7)] [] := by
  intro m
  induction m with
  | zero => intro l5 l7 hx; exact nomatch (show (none : Option Int64) = some res from hx)
  | succ m ih => intro l5 l7 hx; exact ts_X8_inLeastTerms_6 C F  ih hx
def x_X8_inLeastTerms (F : Nat) (h : pH) (l0 : Int64) (l2 : Int64) (l4 : Int32) : Option Int64 :=
  x_X8_inLeastTerms_6 F h l0 l2 l4 F l0 l2
theorem mc_X8_inLeastTerms (l : Launch) (G : pG) (F n : Nat) {h : pH} {l0 : Int64} {l2 : Int64} {l4 : Int32} {res : Int64} (hx : x_X8_inLeastTerms F h l0 l2 l4 = some res) : MC l yX8_inLeastTerms cX8_inLeastTerms 11 (some (FieldType.long)) (rmD 0 0 0) G [.long l0, .long l2, .int l4] n h (some (.long res)) n h := by
  unfold x_X8_inLeastTerms at hx
  refine jj_entry RX8 rfl (by decide) (Nat.le_of_ble_eq_true rfl) (fun X _ _ C => ?_)
  show J X G (0, 0, some (.long res), n, h) (0, 0, n) h 0 [(0, .long l0), (2, .long l2), (4, .int l4)] []
  refine jj_lload_n C 0 0 dX8_inLeastTerms_0 rfl rfl ?_
  refine jj_lstore C 5 dX8_inLeastTerms_1 rfl (by decide) ?_
  refine jj_lload_n C 2 2 dX8_inLeastTerms_3 rfl rfl ?_
  refine jj_lstore C 7 dX8_inLeastTerms_4 rfl (by decide) ?_
  refine jj_sub [2, 3, 4, 1, 0] rfl ?_
  exact t_X8_inLeastTerms_6 C F F _ _ hx
def s_X8_isIn_20 (F : Nat) (k2 : pH → Int32 → Option (Int32 × pH)) (l0 : Nat) (l1 : Int32) (l2 : Int32) (l3 : Int32) (k20 : pH → Int32 → Option (Int32 × pH)) (h : pH) (l4 : Int32) : Option (Int32 × pH) :=
  (getI 8 h l0 17).bind fun v1 =>
  if v1 ≤ l4 then
    (x_X8_timesHeard F h l0 l1).bind fun v2 =>
    if v2 = 0 then
      some ((0 : Int32), h)
    else
      k2 h (l3 + 1)
  else
    (getR 8 h l0 16).bind fun v3 =>
    (x_X8_letterOf F h l0 l2 l3 l4).bind fun v4 =>
    (astI 0 h v3 l4 v4).bind fun v5 =>
    k20 v5 (l4 + 1)
def x_X8_isIn_20 (F : Nat) (k2 : pH → Int32 → Option (Int32 × pH)) (l0 : Nat) (l1 : Int32) (l2 : Int32) (l3 : Int32) : Nat → pH → Int32 → Option (Int32 × pH)
  | 0, _, _ => none
  | m + 1, h, l4 => s_X8_isIn_20 F k2 l0 l1 l2 l3 (x_X8_isIn_20 F k2 l0 l1 l2 l3 m) h l4
theorem ts_X8_isIn_20 {X : pX} {G : pG} {n : Nat} {res : (Int32 × pH)} (C : Cx X G RX8 cX8_isIn 5 (rmD 3 0 0) n (some (FieldType.boolean))) (F : Nat) {l0 : Nat} {l1 : Int32} {l2 : Int32} {l3 : Int32} {k2 : pH → Int32 → Option (Int32 × pH)} (hk2 : ∀ (h : pH) (l3 : Int32), k2 h l3 = some res → J X G (0, 0, some (.int res.1), n, res.2) (0, 0, n) h 2 [(0, .ref l0), (1, .int l1), (2, .int l2), (3, .int l3)] []) {k20 : pH → Int32 → Option (Int32 × pH)} (hk20 : ∀ (h : pH) (l4 : Int32), k20 h l4 = some res → J X G (0, 0, some (.int res.1), n, res.2) (0, 0, n) h 20 [(0, .ref l0), (1, .int l1), (2, .int l2), (3, .int l3), (4, .int l4)] []) {h : pH} {l4 : Int32} (hx : s_X8_isIn_20 F k2 l0 l1 l2 l3 k20 h l4 = some res) : J X G (0, 0, some (.int res.1), n, res.2) (0, 0, n) h 20 [(0, .ref l0), (1, .int l1), (2, .int l2), (3, .int l3), (4, .int l4)] [] := by
  unfold s_X8_isIn_20 at hx
  refine jj_iload C 4 4 dX8_isIn_20 rfl ?_
  refine jj_aload_n C 0 0 dX8_isIn_22 rfl rfl ?_
  obtain ⟨v1, ev1, hx⟩ := ob hx
  refine jj_getI C fd_X8_133 dX8_isIn_23 ev1 ?_
  refine jj_icmp_ge (tgt := 50) C dX8_isIn_26 (by decide) (fun q26 => ?_) (fun q26 => ?_)
  · rw [if_pos q26] at hx
    refine jj_aload_n C 0 0 dX8_isIn_50 rfl rfl ?_
    refine jj_iload_n C 1 1 dX8_isIn_51 rfl rfl ?_
    obtain ⟨v2, ev2, hx⟩ := ob hx
    refine jj_callV C [.int l1] lk_X8_136 (mc_X8_timesHeard X.2.1 G F n ev2) (o_X8_timesHeard ev2) rfl rfl (Nat.le_of_ble_eq_true rfl) ⟨Nat.le_of_ble_eq_true rfl, Nat.le_of_ble_eq_true rfl⟩ ⟨Nat.zero_le _, Nat.zero_le _⟩ rfl dX8_isIn_52 rfl rfl ?_
    refine jj_if_ne (tgt := 60) C dX8_isIn_55 (by decide) (fun q55 => ?_) (fun q55 => ?_)
    · rw [if_neg q55] at hx
      refine jj_iinc (v := l3 + 1) C 3 3 dX8_isIn_60 rfl rfl rfl (by decide) ?_
      refine jj_goto (tgt := 2) C dX8_isIn_63 (by decide) ?_
      refine jj_sub [1, 2, 3, 0] rfl ?_
      exact hk2 _ _ hx
    · rw [if_pos q55] at hx
      refine jj_iconst (v := 0) C dX8_isIn_58 (by decide) ?_
      obtain rfl := Option.some.inj hx
      exact jj_zret C (Or.inl rfl) dX8_isIn_59 rfl
  · rw [if_neg q26] at hx
    refine jj_aload_n C 0 0 dX8_isIn_29 rfl rfl ?_
    obtain ⟨v3, ev3, hx⟩ := ob hx
    refine jj_getR C fd_X8_40 dX8_isIn_30 ev3 ?_
    refine jj_iload C 4 4 dX8_isIn_33 rfl ?_
    refine jj_aload_n C 0 0 dX8_isIn_35 rfl rfl ?_
    refine jj_iload_n C 2 2 dX8_isIn_36 rfl rfl ?_
    refine jj_iload_n C 3 3 dX8_isIn_37 rfl rfl ?_
    refine jj_iload C 4 4 dX8_isIn_38 rfl ?_
    obtain ⟨v4, ev4, hx⟩ := ob hx
    refine jj_callV C [.int l2, .int l3, .int l4] lk_X8_126 (mc_X8_letterOf X.2.1 G F n ev4) (o_X8_letterOf ev4) rfl rfl (Nat.le_of_ble_eq_true rfl) ⟨Nat.le_of_ble_eq_true rfl, Nat.le_of_ble_eq_true rfl⟩ ⟨Nat.zero_le _, Nat.zero_le _⟩ rfl dX8_isIn_40 rfl rfl ?_
    obtain ⟨v5, ev5, hx⟩ := ob hx
    refine jj_iast C dX8_isIn_43 ev5 ?_
    refine jj_iinc (v := l4 + 1) C 4 4 dX8_isIn_44 rfl rfl rfl (by decide) ?_
    refine jj_goto (tgt := 20) C dX8_isIn_47 (by decide) ?_
    refine jj_sub [1, 2, 3, 4, 0] rfl ?_
    exact hk20 _ _ hx
theorem t_X8_isIn_20 {X : pX} {G : pG} {n : Nat} {res : (Int32 × pH)} (C : Cx X G RX8 cX8_isIn 5 (rmD 3 0 0) n (some (FieldType.boolean))) (F : Nat) {l0 : Nat} {l1 : Int32} {l2 : Int32} {l3 : Int32} {k2 : pH → Int32 → Option (Int32 × pH)} (hk2 : ∀ (h : pH) (l3 : Int32), k2 h l3 = some res → J X G (0, 0, some (.int res.1), n, res.2) (0, 0, n) h 2 [(0, .ref l0), (1, .int l1), (2, .int l2), (3, .int l3)] []) : ∀ (m : Nat) (h : pH) (l4 : Int32), x_X8_isIn_20 F k2 l0 l1 l2 l3 m h l4 = some res → J X G (0, 0, some (.int res.1), n, res.2) (0, 0, n) h 20 [(0, .ref l0), (1, .int l1), (2, .int l2), (3, .int l3), (4, .int l4)] [] := by
  intro m
  induction m with
  | zero => intro h l4 hx; exact nomatch (show (none : Option (Int32 × pH)) = some res from hx)
  | succ m ih => intro h l4 hx; exact ts_X8_isIn_20 C F hk2 ih hx
def s_X8_isIn_2 (F : Nat)  (l0 : Nat) (l1 : Int32) (l2 : Int32) (k2 : pH → Int32 → Option (Int32 × pH)) (h : pH) (l3 : Int32) : Option (Int32 × pH) :=
  if 2 ≤ l3 then
    some ((1 : Int32), h)
  else
    (getR 8 h l0 8).bind fun v1 =>
    (aldI 0 h v1 l2).bind fun v2 =>
    (putV 8 h l0 17 (.int v2)).bind fun v3 =>
    x_X8_isIn_20 F k2 l0 l1 l2 l3 F v3 0
def x_X8_isIn_2 (F : Nat)  (l0 : Nat) (l1 : Int32) (l2 : Int32) : Nat → pH → Int32 → Option (Int32 × pH)
  | 0, _, _ => none
  | m + 1, h, l3 => s_X8_isIn_2 F l0 l1 l2 (x_X8_isIn_2 F l0 l1 l2 m) h l3
theorem ts_X8_isIn_2 {X : pX} {G : pG} {n : Nat} {res : (Int32 × pH)} (C : Cx X G RX8 cX8_isIn 5 (rmD 3 0 0) n (some (FieldType.boolean))) (F : Nat) {l0 : Nat} {l1 : Int32} {l2 : Int32} {k2 : pH → Int32 → Option (Int32 × pH)} (hk2 : ∀ (h : pH) (l3 : Int32), k2 h l3 = some res → J X G (0, 0, some (.int res.1), n, res.2) (0, 0, n) h 2 [(0, .ref l0), (1, .int l1), (2, .int l2), (3, .int l3)] []) {h : pH} {l3 : Int32} (hx : s_X8_isIn_2 F l0 l1 l2 k2 h l3 = some res) : J X G (0, 0, some (.int res.1), n, res.2) (0, 0, n) h 2 [(0, .ref l0), (1, .int l1), (2, .int l2), (3, .int l3)] [] := by
  unfold s_X8_isIn_2 at hx
  refine jj_iload_n C 3 3 dX8_isIn_2 rfl rfl ?_
  refine jj_iconst (v := 2) C dX8_isIn_3 (by decide) ?_
  refine jj_icmp_ge (tgt := 66) C dX8_isIn_4 (by decide) (fun q4 => ?_) (fun q4 => ?_)
  · rw [if_pos q4] at hx
    refine jj_iconst (v := 1) C dX8_isIn_66 (by decide) ?_
    obtain rfl := Option.some.inj hx
    exact jj_zret C (Or.inr rfl) dX8_isIn_67 rfl
  · rw [if_neg q4] at hx
    refine jj_aload_n C 0 0 dX8_isIn_7 rfl rfl ?_
    refine jj_aload_n C 0 0 dX8_isIn_8 rfl rfl ?_
    obtain ⟨v1, ev1, hx⟩ := ob hx
    refine jj_getR C fd_X8_22 dX8_isIn_9 ev1 ?_
    refine jj_iload_n C 2 2 dX8_isIn_12 rfl rfl ?_
    obtain ⟨v2, ev2, hx⟩ := ob hx
    refine jj_iald C dX8_isIn_13 ev2 ?_
    obtain ⟨v3, ev3, hx⟩ := ob hx
    refine jj_put C fd_X8_133 rfl rfl dX8_isIn_14 ev3 ?_
    refine jj_iconst (v := 0) C dX8_isIn_17 (by decide) ?_
    refine jj_istore C 4 dX8_isIn_18 rfl (by decide) ?_
    refine jj_sub [1, 2, 3, 4, 0] rfl ?_
    exact t_X8_isIn_20 C F hk2 F _ _ hx
theorem t_X8_isIn_2 {X : pX} {G : pG} {n : Nat} {res : (Int32 × pH)} (C : Cx X G RX8 cX8_isIn 5 (rmD 3 0 0) n (some (FieldType.boolean))) (F : Nat) {l0 : Nat} {l1 : Int32} {l2 : Int32} : ∀ (m : Nat) (h : pH) (l3 : Int32), x_X8_isIn_2 F l0 l1 l2 m h l3 = some res → J X G (0, 0, some (.int res.1), n, res.2) (0, 0, n) h 2 [(0, .ref l0), (1, .int l1), (2, .int l2), (3, .int l3)] [] := by
  intro m
  induction m with
  | zero => intro h l3 hx; exact nomatch (show (none : Option (Int32 × pH)) = some res from hx)
  | succ m ih => intro h l3 hx; exact ts_X8_isIn_2 C F  ih hx
def x_X8_isIn (F : Nat) (h : pH) (l0 : Nat) (l1 : Int32) (l2 : Int32) : Option (Int32 × pH) :=
  (chk 8 h l0).bind fun _ =>
  x_X8_isIn_2 F l0 l1 l2 F h 0
theorem o_X8_isIn {F : Nat} {h : pH} {l0 : Nat} {l1 : Int32} {l2 : Int32} {res : (Int32 × pH)} (hx : x_X8_isIn F h l0 l1 l2 = some res) : chk 8 h l0 = some () := by
  unfold x_X8_isIn at hx
  obtain ⟨_, e, _⟩ := ob hx
  exact e
theorem mc_X8_isIn (l : Launch) (G : pG) (F n : Nat) {h : pH} {l0 : Nat} {l1 : Int32} {l2 : Int32} {res : (Int32 × pH)} (hx : x_X8_isIn F h l0 l1 l2 = some res) : MC l yX8_isIn cX8_isIn 5 (some (FieldType.boolean)) (rmD 3 0 0) G [.ref l0, .int l1, .int l2] n h (some (.int res.1)) n res.2 := by
  unfold x_X8_isIn at hx
  obtain ⟨_, _, hx⟩ := ob hx
  refine jj_entry RX8 rfl (by decide) (Nat.le_of_ble_eq_true rfl) (fun X _ _ C => ?_)
  show J X G (0, 0, some (.int res.1), n, res.2) (0, 0, n) h 0 [(0, .ref l0), (1, .int l1), (2, .int l2)] []
  refine jj_iconst (v := 0) C dX8_isIn_0 (by decide) ?_
  refine jj_istore_n C 3 dX8_isIn_1 rfl rfl (by decide) ?_
  refine jj_sub [1, 2, 3, 0] rfl ?_
  exact t_X8_isIn_2 C F F _ _ hx
def x_X8_isSign (F : Nat) (h : pH) (l0 : Nat) (l1 : Int32) (l2 : Int32) : Option (Int32 × pH) :=
  (chk 8 h l0).bind fun _ =>
  (getI 8 h l0 11).bind fun v1 =>
  if l1 ≤ v1 then
    some ((0 : Int32), h)
  else
    (getR 8 h l0 4).bind fun v2 =>
    (getI 8 h l0 11).bind fun v3 =>
    (aldI 0 h v2 v3).bind fun v4 =>
    if v4 = l2 then
      (getI 8 h l0 11).bind fun v5 =>
      (putV 8 h l0 11 (.int (v5 + (1 : Int32)))).bind fun v6 =>
      some ((1 : Int32), v6)
    else
      some ((0 : Int32), h)
theorem o_X8_isSign {F : Nat} {h : pH} {l0 : Nat} {l1 : Int32} {l2 : Int32} {res : (Int32 × pH)} (hx : x_X8_isSign F h l0 l1 l2 = some res) : chk 8 h l0 = some () := by
  unfold x_X8_isSign at hx
  obtain ⟨_, e, _⟩ := ob hx
  exact e
theorem mc_X8_isSign (l : Launch) (G : pG) (F n : Nat) {h : pH} {l0 : Nat} {l1 : Int32} {l2 : Int32} {res : (Int32 × pH)} (hx : x_X8_isSign F h l0 l1 l2 = some res) : MC l yX8_isSign cX8_isSign 3 (some (FieldType.boolean)) (rmD 0 0 0) G [.ref l0, .int l1, .int l2] n h (some (.int res.1)) n res.2 := by
  unfold x_X8_isSign at hx
  obtain ⟨_, _, hx⟩ := ob hx
  refine jj_entry RX8 rfl (by decide) (Nat.le_of_ble_eq_true rfl) (fun X _ _ C => ?_)
  show J X G (0, 0, some (.int res.1), n, res.2) (0, 0, n) h 0 [(0, .ref l0), (1, .int l1), (2, .int l2)] []
  refine jj_aload_n C 0 0 dX8_isSign_0 rfl rfl ?_
  obtain ⟨v1, ev1, hx⟩ := ob hx
  refine jj_getI C fd_X8_90 dX8_isSign_1 ev1 ?_
  refine jj_iload_n C 1 1 dX8_isSign_4 rfl rfl ?_
  refine jj_icmp_ge (tgt := 21) C dX8_isSign_5 (by decide) (fun q5 => ?_) (fun q5 => ?_)
  · rw [if_pos q5] at hx
    refine jj_iconst (v := 0) C dX8_isSign_21 (by decide) ?_
    obtain rfl := Option.some.inj hx
    exact jj_zret C (Or.inl rfl) dX8_isSign_22 rfl
  · rw [if_neg q5] at hx
    refine jj_aload_n C 0 0 dX8_isSign_8 rfl rfl ?_
    obtain ⟨v2, ev2, hx⟩ := ob hx
    refine jj_getR C fd_X8_16 dX8_isSign_9 ev2 ?_
    refine jj_aload_n C 0 0 dX8_isSign_12 rfl rfl ?_
    obtain ⟨v3, ev3, hx⟩ := ob hx
    refine jj_getI C fd_X8_90 dX8_isSign_13 ev3 ?_
    obtain ⟨v4, ev4, hx⟩ := ob hx
    refine jj_iald C dX8_isSign_16 ev4 ?_
    refine jj_iload_n C 2 2 dX8_isSign_17 rfl rfl ?_
    refine jj_icmp_eq (tgt := 23) C dX8_isSign_18 (by decide) (fun q18 => ?_) (fun q18 => ?_)
    · rw [if_pos q18] at hx
      refine jj_aload_n C 0 0 dX8_isSign_23 rfl rfl ?_
      refine jj_dup C dX8_isSign_24 rfl ?_
      obtain ⟨v5, ev5, hx⟩ := ob hx
      refine jj_getI C fd_X8_90 dX8_isSign_25 ev5 ?_
      refine jj_iconst (v := 1) C dX8_isSign_28 (by decide) ?_
      refine jj_iadd C dX8_isSign_29 ?_
      obtain ⟨v6, ev6, hx⟩ := ob hx
      refine jj_put C fd_X8_90 rfl rfl dX8_isSign_30 ev6 ?_
      refine jj_iconst (v := 1) C dX8_isSign_33 (by decide) ?_
      obtain rfl := Option.some.inj hx
      exact jj_zret C (Or.inr rfl) dX8_isSign_34 rfl
    · rw [if_neg q18] at hx
      refine jj_iconst (v := 0) C dX8_isSign_21 (by decide) ?_
      obtain rfl := Option.some.inj hx
      exact jj_zret C (Or.inl rfl) dX8_isSign_22 rfl
def x_X8_kinds_52 (F : Nat) (k22 : pH → Int32 → Int32 → Option (Int32 × pH)) (h : pH) (l0 : Nat) (l1 : Int32) (l2 : Int32) (l4 : Int32) (s0 : Int32) (s1 : Int32) : Option (Int32 × pH) :=
  k22 h (s1 ||| s0) (l4 + 1)
theorem t_X8_kinds_52 {X : pX} {G : pG} {n : Nat} {res : (Int32 × pH)} (C : Cx X G RX8 cX8_kinds 5 (rmD 4 0 0) n (some (FieldType.int))) (F : Nat) {h : pH} {l0 : Nat} {l1 : Int32} {l2 : Int32} {l4 : Int32} {s0 : Int32} {s1 : Int32} {k22 : pH → Int32 → Int32 → Option (Int32 × pH)} (hk22 : ∀ (h : pH) (l3 : Int32) (l4 : Int32), k22 h l3 l4 = some res → J X G (0, 0, some (.int res.1), n, res.2) (0, 0, n) h 22 [(0, .ref l0), (1, .int l1), (2, .int l2), (3, .int l3), (4, .int l4)] []) (hx : x_X8_kinds_52 F k22 h l0 l1 l2 l4 s0 s1 = some res) : J X G (0, 0, some (.int res.1), n, res.2) (0, 0, n) h 52 [(0, .ref l0), (1, .int l1), (2, .int l2), (4, .int l4)] [.int s0, .int s1] := by
  unfold x_X8_kinds_52 at hx
  refine jj_ior C dX8_kinds_52 ?_
  refine jj_istore_n C 3 dX8_kinds_53 rfl rfl (by decide) ?_
  refine jj_iinc (v := l4 + 1) C 4 4 dX8_kinds_54 rfl rfl rfl (by decide) ?_
  refine jj_goto (tgt := 22) C dX8_kinds_57 (by decide) ?_
  refine jj_sub [2, 3, 4, 1, 0] rfl ?_
  exact hk22 _ _ _ hx
def s_X8_kinds_22 (F : Nat)  (l0 : Nat) (l1 : Int32) (l2 : Int32) (k22 : pH → Int32 → Int32 → Option (Int32 × pH)) (h : pH) (l3 : Int32) (l4 : Int32) : Option (Int32 × pH) :=
  if 3 ≤ l4 then
    (getR 8 h l0 7).bind fun v1 =>
    (astI 0 h v1 l1 l2).bind fun v2 =>
    some (l3, v2)
  else
    (getR 8 h l0 7).bind fun v3 =>
    (astI 0 h v3 l1 l4).bind fun v4 =>
    (x_X8_areSo F v4 l0).bind fun v5 =>
    if v5.1 = 0 then
      x_X8_kinds_52 F k22 v5.2 l0 l1 l2 l4 0 l3
    else
      x_X8_kinds_52 F k22 v5.2 l0 l1 l2 l4 ((1 : Int32) <<< (l4 &&& 31)) l3
def x_X8_kinds_22 (F : Nat)  (l0 : Nat) (l1 : Int32) (l2 : Int32) : Nat → pH → Int32 → Int32 → Option (Int32 × pH)
  | 0, _, _, _ => none
  | m + 1, h, l3, l4 => s_X8_kinds_22 F l0 l1 l2 (x_X8_kinds_22 F l0 l1 l2 m) h l3 l4
theorem ts_X8_kinds_22 {X : pX} {G : pG} {n : Nat} {res : (Int32 × pH)} (C : Cx X G RX8 cX8_kinds 5 (rmD 4 0 0) n (some (FieldType.int))) (F : Nat) {l0 : Nat} {l1 : Int32} {l2 : Int32} {k22 : pH → Int32 → Int32 → Option (Int32 × pH)} (hk22 : ∀ (h : pH) (l3 : Int32) (l4 : Int32), k22 h l3 l4 = some res → J X G (0, 0, some (.int res.1), n, res.2) (0, 0, n) h 22 [(0, .ref l0), (1, .int l1), (2, .int l2), (3, .int l3), (4, .int l4)] []) {h : pH} {l3 : Int32} {l4 : Int32} (hx : s_X8_kinds_22 F l0 l1 l2 k22 h l3 l4 = some res) : J X G (0, 0, some (.int res.1), n, res.2) (0, 0, n) h 22 [(0, .ref l0), (1, .int l1), (2, .int l2), (3, .int l3), (4, .int l4)] [] := by
  unfold s_X8_kinds_22 at hx
  refine jj_iload C 4 4 dX8_kinds_22 rfl ?_
  refine jj_iconst (v := 3) C dX8_kinds_24 (by decide) ?_
  refine jj_icmp_ge (tgt := 60) C dX8_kinds_25 (by decide) (fun q25 => ?_) (fun q25 => ?_)
  · rw [if_pos q25] at hx
    refine jj_aload_n C 0 0 dX8_kinds_60 rfl rfl ?_
    obtain ⟨v1, ev1, hx⟩ := ob hx
    refine jj_getR C fd_X8_19 dX8_kinds_61 ev1 ?_
    refine jj_iload_n C 1 1 dX8_kinds_64 rfl rfl ?_
    refine jj_iload_n C 2 2 dX8_kinds_65 rfl rfl ?_
    obtain ⟨v2, ev2, hx⟩ := ob hx
    refine jj_iast C dX8_kinds_66 ev2 ?_
    refine jj_iload_n C 3 3 dX8_kinds_67 rfl rfl ?_
    obtain rfl := Option.some.inj hx
    exact jj_iret C dX8_kinds_68 rfl
  · rw [if_neg q25] at hx
    refine jj_aload_n C 0 0 dX8_kinds_28 rfl rfl ?_
    obtain ⟨v3, ev3, hx⟩ := ob hx
    refine jj_getR C fd_X8_19 dX8_kinds_29 ev3 ?_
    refine jj_iload_n C 1 1 dX8_kinds_32 rfl rfl ?_
    refine jj_iload C 4 4 dX8_kinds_33 rfl ?_
    obtain ⟨v4, ev4, hx⟩ := ob hx
    refine jj_iast C dX8_kinds_35 ev4 ?_
    refine jj_iload_n C 3 3 dX8_kinds_36 rfl rfl ?_
    refine jj_aload_n C 0 0 dX8_kinds_37 rfl rfl ?_
    obtain ⟨v5, ev5, hx⟩ := ob hx
    refine jj_callV C [] lk_X8_200 (mc_X8_areSo X.2.1 G F n ev5) (o_X8_areSo ev5) rfl rfl (Nat.le_of_ble_eq_true rfl) ⟨Nat.le_of_ble_eq_true rfl, Nat.le_of_ble_eq_true rfl⟩ ⟨Nat.zero_le _, Nat.zero_le _⟩ rfl dX8_kinds_38 rfl rfl ?_
    refine jj_if_eq (tgt := 51) C dX8_kinds_41 (by decide) (fun q41 => ?_) (fun q41 => ?_)
    · rw [if_pos q41] at hx
      refine jj_iconst (v := 0) C dX8_kinds_51 (by decide) ?_
      refine jj_sub [0, 1, 2, 4] rfl ?_
      exact t_X8_kinds_52 C F hk22 hx
    · rw [if_neg q41] at hx
      refine jj_iconst (v := 1) C dX8_kinds_44 (by decide) ?_
      refine jj_iload C 4 4 dX8_kinds_45 rfl ?_
      refine jj_ishl C dX8_kinds_47 ?_
      refine jj_goto (tgt := 52) C dX8_kinds_48 (by decide) ?_
      refine jj_sub [0, 1, 2, 4] rfl ?_
      exact t_X8_kinds_52 C F hk22 hx
theorem t_X8_kinds_22 {X : pX} {G : pG} {n : Nat} {res : (Int32 × pH)} (C : Cx X G RX8 cX8_kinds 5 (rmD 4 0 0) n (some (FieldType.int))) (F : Nat) {l0 : Nat} {l1 : Int32} {l2 : Int32} : ∀ (m : Nat) (h : pH) (l3 : Int32) (l4 : Int32), x_X8_kinds_22 F l0 l1 l2 m h l3 l4 = some res → J X G (0, 0, some (.int res.1), n, res.2) (0, 0, n) h 22 [(0, .ref l0), (1, .int l1), (2, .int l2), (3, .int l3), (4, .int l4)] [] := by
  intro m
  induction m with
  | zero => intro h l3 l4 hx; exact nomatch (show (none : Option (Int32 × pH)) = some res from hx)
  | succ m ih => intro h l3 l4 hx; exact ts_X8_kinds_22 C F  ih hx
def x_X8_kinds (F : Nat) (h : pH) (l0 : Nat) (l1 : Int32) : Option (Int32 × pH) :=
  (chk 8 h l0).bind fun _ =>
  (x_X8_isWord F h l0 l1).bind fun v1 =>
  if v1 = 0 then
    some ((-1 : Int32), h)
  else
    (getR 8 h l0 7).bind fun v2 =>
    (aldI 0 h v2 l1).bind fun v3 =>
    x_X8_kinds_22 F l0 l1 v3 F h 0 0
theorem o_X8_kinds {F : Nat} {h : pH} {l0 : Nat} {l1 : Int32} {res : (Int32 × pH)} (hx : x_X8_kinds F h l0 l1 = some res) : chk 8 h l0 = some () := by
  unfold x_X8_kinds at hx
  obtain ⟨_, e, _⟩ := ob hx
  exact e
theorem mc_X8_kinds (l : Launch) (G : pG) (F n : Nat) {h : pH} {l0 : Nat} {l1 : Int32} {res : (Int32 × pH)} (hx : x_X8_kinds F h l0 l1 = some res) : MC l yX8_kinds cX8_kinds 5 (some (FieldType.int)) (rmD 4 0 0) G [.ref l0, .int l1] n h (some (.int res.1)) n res.2 := by
  unfold x_X8_kinds at hx
  obtain ⟨_, _, hx⟩ := ob hx
  refine jj_entry RX8 rfl (by decide) (Nat.le_of_ble_eq_true rfl) (fun X _ _ C => ?_)
  show J X G (0, 0, some (.int res.1), n, res.2) (0, 0, n) h 0 [(0, .ref l0), (1, .int l1)] []
  refine jj_aload_n C 0 0 dX8_kinds_0 rfl rfl ?_
  refine jj_iload_n C 1 1 dX8_kinds_1 rfl rfl ?_
  obtain ⟨v1, ev1, hx⟩ := ob hx
  refine jj_callV C [.int l1] lk_X8_139 (mc_X8_isWord X.2.1 G F n ev1) (o_X8_isWord ev1) rfl rfl (Nat.le_of_ble_eq_true rfl) ⟨Nat.le_of_ble_eq_true rfl, Nat.le_of_ble_eq_true rfl⟩ ⟨Nat.zero_le _, Nat.zero_le _⟩ rfl dX8_kinds_2 rfl rfl ?_
  refine jj_if_ne (tgt := 10) C dX8_kinds_5 (by decide) (fun q5 => ?_) (fun q5 => ?_)
  · rw [if_neg q5] at hx
    refine jj_aload_n C 0 0 dX8_kinds_10 rfl rfl ?_
    obtain ⟨v2, ev2, hx⟩ := ob hx
    refine jj_getR C fd_X8_19 dX8_kinds_11 ev2 ?_
    refine jj_iload_n C 1 1 dX8_kinds_14 rfl rfl ?_
    obtain ⟨v3, ev3, hx⟩ := ob hx
    refine jj_iald C dX8_kinds_15 ev3 ?_
    refine jj_istore_n C 2 dX8_kinds_16 rfl rfl (by decide) ?_
    refine jj_iconst (v := 0) C dX8_kinds_17 (by decide) ?_
    refine jj_istore_n C 3 dX8_kinds_18 rfl rfl (by decide) ?_
    refine jj_iconst (v := 0) C dX8_kinds_19 (by decide) ?_
    refine jj_istore C 4 dX8_kinds_20 rfl (by decide) ?_
    refine jj_sub [3, 4, 2, 1, 0] rfl ?_
    exact t_X8_kinds_22 C F F _ _ _ hx
  · rw [if_pos q5] at hx
    refine jj_iconst (v := (-1)) C dX8_kinds_8 (by decide) ?_
    obtain rfl := Option.some.inj hx
    exact jj_iret C dX8_kinds_9 rfl
def x_X8_lasts_67 (F : Nat) (k36 : pH → Int32 → Int32 → Option (Int32 × pH)) (h : pH) (l0 : Nat) (l2 : Int32) (l3 : Int32) (l5 : Int32) (s0 : Int32) (s1 : Int32) : Option (Int32 × pH) :=
  k36 h (s1 ||| s0) (l5 + 1)
theorem t_X8_lasts_67 {X : pX} {G : pG} {n : Nat} {res : (Int32 × pH)} (C : Cx X G RX8 cX8_lasts 6 (rmD 4 0 0) n (some (FieldType.int))) (F : Nat) {h : pH} {l0 : Nat} {l2 : Int32} {l3 : Int32} {l5 : Int32} {s0 : Int32} {s1 : Int32} {k36 : pH → Int32 → Int32 → Option (Int32 × pH)} (hk36 : ∀ (h : pH) (l4 : Int32) (l5 : Int32), k36 h l4 l5 = some res → J X G (0, 0, some (.int res.1), n, res.2) (0, 0, n) h 36 [(0, .ref l0), (2, .int l2), (3, .int l3), (4, .int l4), (5, .int l5)] []) (hx : x_X8_lasts_67 F k36 h l0 l2 l3 l5 s0 s1 = some res) : J X G (0, 0, some (.int res.1), n, res.2) (0, 0, n) h 67 [(0, .ref l0), (2, .int l2), (3, .int l3), (5, .int l5)] [.int s0, .int s1] := by
  unfold x_X8_lasts_67 at hx
  refine jj_ior C dX8_lasts_67 ?_
  refine jj_istore C 4 dX8_lasts_68 rfl (by decide) ?_
  refine jj_iinc (v := l5 + 1) C 5 4 dX8_lasts_70 rfl rfl rfl (by decide) ?_
  refine jj_goto (tgt := 36) C dX8_lasts_73 (by decide) ?_
  refine jj_sub [2, 3, 4, 1, 0] rfl ?_
  exact hk36 _ _ _ hx
def s_X8_lasts_36 (F : Nat)  (l0 : Nat) (l2 : Int32) (l3 : Int32) (k36 : pH → Int32 → Int32 → Option (Int32 × pH)) (h : pH) (l4 : Int32) (l5 : Int32) : Option (Int32 × pH) :=
  if 3 ≤ l5 then
    (getR 8 h l0 9).bind fun v1 =>
    (astI 0 h v1 l2 l3).bind fun v2 =>
    some (l4, v2)
  else
    (getR 8 h l0 9).bind fun v3 =>
    (astI 0 h v3 l2 l5).bind fun v4 =>
    (x_X8_areSo F v4 l0).bind fun v5 =>
    if v5.1 = 0 then
      x_X8_lasts_67 F k36 v5.2 l0 l2 l3 l5 0 l4
    else
      x_X8_lasts_67 F k36 v5.2 l0 l2 l3 l5 ((1 : Int32) <<< (l5 &&& 31)) l4
def x_X8_lasts_36 (F : Nat)  (l0 : Nat) (l2 : Int32) (l3 : Int32) : Nat → pH → Int32 → Int32 → Option (Int32 × pH)
  | 0, _, _, _ => none
  | m + 1, h, l4, l5 => s_X8_lasts_36 F l0 l2 l3 (x_X8_lasts_36 F l0 l2 l3 m) h l4 l5
theorem ts_X8_lasts_36 {X : pX} {G : pG} {n : Nat} {res : (Int32 × pH)} (C : Cx X G RX8 cX8_lasts 6 (rmD 4 0 0) n (some (FieldType.int))) (F : Nat) {l0 : Nat} {l2 : Int32} {l3 : Int32} {k36 : pH → Int32 → Int32 → Option (Int32 × pH)} (hk36 : ∀ (h : pH) (l4 : Int32) (l5 : Int32), k36 h l4 l5 = some res → J X G (0, 0, some (.int res.1), n, res.2) (0, 0, n) h 36 [(0, .ref l0), (2, .int l2), (3, .int l3), (4, .int l4), (5, .int l5)] []) {h : pH} {l4 : Int32} {l5 : Int32} (hx : s_X8_lasts_36 F l0 l2 l3 k36 h l4 l5 = some res) : J X G (0, 0, some (.int res.1), n, res.2) (0, 0, n) h 36 [(0, .ref l0), (2, .int l2), (3, .int l3), (4, .int l4), (5, .int l5)] [] := by
  unfold s_X8_lasts_36 at hx
  refine jj_iload C 5 4 dX8_lasts_36 rfl ?_
  refine jj_iconst (v := 3) C dX8_lasts_38 (by decide) ?_
  refine jj_icmp_ge (tgt := 76) C dX8_lasts_39 (by decide) (fun q39 => ?_) (fun q39 => ?_)
  · rw [if_pos q39] at hx
    refine jj_aload_n C 0 0 dX8_lasts_76 rfl rfl ?_
    obtain ⟨v1, ev1, hx⟩ := ob hx
    refine jj_getR C fd_X8_25 dX8_lasts_77 ev1 ?_
    refine jj_iload_n C 2 1 dX8_lasts_80 rfl rfl ?_
    refine jj_iload_n C 3 2 dX8_lasts_81 rfl rfl ?_
    obtain ⟨v2, ev2, hx⟩ := ob hx
    refine jj_iast C dX8_lasts_82 ev2 ?_
    refine jj_iload C 4 3 dX8_lasts_83 rfl ?_
    obtain rfl := Option.some.inj hx
    exact jj_iret C dX8_lasts_85 rfl
  · rw [if_neg q39] at hx
    refine jj_aload_n C 0 0 dX8_lasts_42 rfl rfl ?_
    obtain ⟨v3, ev3, hx⟩ := ob hx
    refine jj_getR C fd_X8_25 dX8_lasts_43 ev3 ?_
    refine jj_iload_n C 2 1 dX8_lasts_46 rfl rfl ?_
    refine jj_iload C 5 4 dX8_lasts_47 rfl ?_
    obtain ⟨v4, ev4, hx⟩ := ob hx
    refine jj_iast C dX8_lasts_49 ev4 ?_
    refine jj_iload C 4 3 dX8_lasts_50 rfl ?_
    refine jj_aload_n C 0 0 dX8_lasts_52 rfl rfl ?_
    obtain ⟨v5, ev5, hx⟩ := ob hx
    refine jj_callV C [] lk_X8_200 (mc_X8_areSo X.2.1 G F n ev5) (o_X8_areSo ev5) rfl rfl (Nat.le_of_ble_eq_true rfl) ⟨Nat.le_of_ble_eq_true rfl, Nat.le_of_ble_eq_true rfl⟩ ⟨Nat.zero_le _, Nat.zero_le _⟩ rfl dX8_lasts_53 rfl rfl ?_
    refine jj_if_eq (tgt := 66) C dX8_lasts_56 (by decide) (fun q56 => ?_) (fun q56 => ?_)
    · rw [if_pos q56] at hx
      refine jj_iconst (v := 0) C dX8_lasts_66 (by decide) ?_
      refine jj_sub [0, 1, 2, 4] rfl ?_
      exact t_X8_lasts_67 C F hk36 hx
    · rw [if_neg q56] at hx
      refine jj_iconst (v := 1) C dX8_lasts_59 (by decide) ?_
      refine jj_iload C 5 4 dX8_lasts_60 rfl ?_
      refine jj_ishl C dX8_lasts_62 ?_
      refine jj_goto (tgt := 67) C dX8_lasts_63 (by decide) ?_
      refine jj_sub [0, 1, 2, 4] rfl ?_
      exact t_X8_lasts_67 C F hk36 hx
theorem t_X8_lasts_36 {X : pX} {G : pG} {n : Nat} {res : (Int32 × pH)} (C : Cx X G RX8 cX8_lasts 6 (rmD 4 0 0) n (some (FieldType.int))) (F : Nat) {l0 : Nat} {l2 : Int32} {l3 : Int32} : ∀ (m : Nat) (h : pH) (l4 : Int32) (l5 : Int32), x_X8_lasts_36 F l0 l2 l3 m h l4 l5 = some res → J X G (0, 0, some (.int res.1), n, res.2) (0, 0, n) h 36 [(0, .ref l0), (2, .int l2), (3, .int l3), (4, .int l4), (5, .int l5)] [] := by
  intro m
  induction m with
  | zero => intro h l4 l5 hx; exact nomatch (show (none : Option (Int32 × pH)) = some res from hx)
  | succ m ih => intro h l4 l5 hx; exact ts_X8_lasts_36 C F  ih hx
def x_X8_lasts (F : Nat) (h : pH) (l0 : Nat) (l1 : Int32) : Option (Int32 × pH) :=
  (chk 8 h l0).bind fun _ =>
  (x_X8_isWord F h l0 l1).bind fun v1 =>
  if v1 = 0 then
    some ((-1 : Int32), h)
  else
    (getR 8 h l0 8).bind fun v2 =>
    (aldI 0 h v2 l1).bind fun v3 =>
    (getR 8 h l0 9).bind fun v4 =>
    (aldI 0 h v4 ((((4 : Int32) * l1) + v3) - (1 : Int32))).bind fun v5 =>
    x_X8_lasts_36 F l0 ((((4 : Int32) * l1) + v3) - (1 : Int32)) v5 F h 0 0
theorem o_X8_lasts {F : Nat} {h : pH} {l0 : Nat} {l1 : Int32} {res : (Int32 × pH)} (hx : x_X8_lasts F h l0 l1 = some res) : chk 8 h l0 = some () := by
  unfold x_X8_lasts at hx
  obtain ⟨_, e, _⟩ := ob hx
  exact e
theorem mc_X8_lasts (l : Launch) (G : pG) (F n : Nat) {h : pH} {l0 : Nat} {l1 : Int32} {res : (Int32 × pH)} (hx : x_X8_lasts F h l0 l1 = some res) : MC l yX8_lasts cX8_lasts 6 (some (FieldType.int)) (rmD 4 0 0) G [.ref l0, .int l1] n h (some (.int res.1)) n res.2 := by
  unfold x_X8_lasts at hx
  obtain ⟨_, _, hx⟩ := ob hx
  refine jj_entry RX8 rfl (by decide) (Nat.le_of_ble_eq_true rfl) (fun X _ _ C => ?_)
  show J X G (0, 0, some (.int res.1), n, res.2) (0, 0, n) h 0 [(0, .ref l0), (1, .int l1)] []
  refine jj_aload_n C 0 0 dX8_lasts_0 rfl rfl ?_
  refine jj_iload_n C 1 1 dX8_lasts_1 rfl rfl ?_
  obtain ⟨v1, ev1, hx⟩ := ob hx
  refine jj_callV C [.int l1] lk_X8_139 (mc_X8_isWord X.2.1 G F n ev1) (o_X8_isWord ev1) rfl rfl (Nat.le_of_ble_eq_true rfl) ⟨Nat.le_of_ble_eq_true rfl, Nat.le_of_ble_eq_true rfl⟩ ⟨Nat.zero_le _, Nat.zero_le _⟩ rfl dX8_lasts_2 rfl rfl ?_
  refine jj_if_ne (tgt := 10) C dX8_lasts_5 (by decide) (fun q5 => ?_) (fun q5 => ?_)
  · rw [if_neg q5] at hx
    refine jj_iconst (v := 4) C dX8_lasts_10 (by decide) ?_
    refine jj_iload_n C 1 1 dX8_lasts_11 rfl rfl ?_
    refine jj_imul C dX8_lasts_12 ?_
    refine jj_aload_n C 0 0 dX8_lasts_13 rfl rfl ?_
    obtain ⟨v2, ev2, hx⟩ := ob hx
    refine jj_getR C fd_X8_22 dX8_lasts_14 ev2 ?_
    refine jj_iload_n C 1 1 dX8_lasts_17 rfl rfl ?_
    obtain ⟨v3, ev3, hx⟩ := ob hx
    refine jj_iald C dX8_lasts_18 ev3 ?_
    refine jj_iadd C dX8_lasts_19 ?_
    refine jj_iconst (v := 1) C dX8_lasts_20 (by decide) ?_
    refine jj_isub C dX8_lasts_21 ?_
    refine jj_istore_n C 2 dX8_lasts_22 rfl rfl (by decide) ?_
    refine jj_aload_n C 0 1 dX8_lasts_23 rfl rfl ?_
    obtain ⟨v4, ev4, hx⟩ := ob hx
    refine jj_getR C fd_X8_25 dX8_lasts_24 ev4 ?_
    refine jj_iload_n C 2 0 dX8_lasts_27 rfl rfl ?_
    obtain ⟨v5, ev5, hx⟩ := ob hx
    refine jj_iald C dX8_lasts_28 ev5 ?_
    refine jj_istore_n C 3 dX8_lasts_29 rfl rfl (by decide) ?_
    refine jj_iconst (v := 0) C dX8_lasts_30 (by decide) ?_
    refine jj_istore C 4 dX8_lasts_31 rfl (by decide) ?_
    refine jj_iconst (v := 0) C dX8_lasts_33 (by decide) ?_
    refine jj_istore C 5 dX8_lasts_34 rfl (by decide) ?_
    refine jj_sub [4, 3, 2, 1, 0] rfl ?_
    exact t_X8_lasts_36 C F F _ _ _ hx
  · rw [if_pos q5] at hx
    refine jj_iconst (v := (-1)) C dX8_lasts_8 (by decide) ?_
    obtain rfl := Option.some.inj hx
    exact jj_iret C dX8_lasts_9 rfl
def x_X8_longest_36 (F : Nat) (k16 : pH → Int32 → Option (Int32 × pH)) (h : pH) (l0 : Nat) (l1 : Int32) (s0 : Int32) (s1 : Int32) (s2 : Nat) : Option (Int32 × pH) :=
  (astI 0 h s2 s1 s0).bind fun v1 =>
  k16 v1 (l1 + 1)
theorem t_X8_longest_36 {X : pX} {G : pG} {n : Nat} {res : (Int32 × pH)} (C : Cx X G RX8 cX8_longest 2 (rmD 4 0 0) n (some (FieldType.int))) (F : Nat) {h : pH} {l0 : Nat} {l1 : Int32} {s0 : Int32} {s1 : Int32} {s2 : Nat} {k16 : pH → Int32 → Option (Int32 × pH)} (hk16 : ∀ (h : pH) (l1 : Int32), k16 h l1 = some res → J X G (0, 0, some (.int res.1), n, res.2) (0, 0, n) h 16 [(0, .ref l0), (1, .int l1)] []) (hx : x_X8_longest_36 F k16 h l0 l1 s0 s1 s2 = some res) : J X G (0, 0, some (.int res.1), n, res.2) (0, 0, n) h 36 [(0, .ref l0), (1, .int l1)] [.int s0, .int s1, .ref s2] := by
  unfold x_X8_longest_36 at hx
  obtain ⟨v1, ev1, hx⟩ := ob hx
  refine jj_iast C dX8_longest_36 ev1 ?_
  refine jj_iinc (v := l1 + 1) C 1 1 dX8_longest_37 rfl rfl rfl (by decide) ?_
  refine jj_goto (tgt := 16) C dX8_longest_40 (by decide) ?_
  refine jj_sub [1, 0] rfl ?_
  exact hk16 _ _ hx
def s_X8_longest_45 (F : Nat)  (l0 : Nat) (k45 : pH → Int32 → Option (Int32 × pH)) (h : pH) (l1 : Int32) : Option (Int32 × pH) :=
  if 40 < l1 then
    some ((-9 : Int32), h)
  else
    (x_X8_goesFree F h l0).bind fun v1 =>
    if v1.1 = 0 then
      some (l1, v1.2)
    else
      k45 v1.2 (l1 + 1)
def x_X8_longest_45 (F : Nat)  (l0 : Nat) : Nat → pH → Int32 → Option (Int32 × pH)
  | 0, _, _ => none
  | m + 1, h, l1 => s_X8_longest_45 F l0 (x_X8_longest_45 F l0 m) h l1
theorem ts_X8_longest_45 {X : pX} {G : pG} {n : Nat} {res : (Int32 × pH)} (C : Cx X G RX8 cX8_longest 2 (rmD 4 0 0) n (some (FieldType.int))) (F : Nat) {l0 : Nat} {k45 : pH → Int32 → Option (Int32 × pH)} (hk45 : ∀ (h : pH) (l1 : Int32), k45 h l1 = some res → J X G (0, 0, some (.int res.1), n, res.2) (0, 0, n) h 45 [(0, .ref l0), (1, .int l1)] []) {h : pH} {l1 : Int32} (hx : s_X8_longest_45 F l0 k45 h l1 = some res) : J X G (0, 0, some (.int res.1), n, res.2) (0, 0, n) h 45 [(0, .ref l0), (1, .int l1)] [] := by
  unfold s_X8_longest_45 at hx
  refine jj_iload_n C 1 1 dX8_longest_45 rfl rfl ?_
  refine jj_bipush (v := 40) C dX8_longest_46 (by decide) ?_
  refine jj_icmp_gt (tgt := 66) C dX8_longest_48 (by decide) (fun q48 => ?_) (fun q48 => ?_)
  · rw [if_pos q48] at hx
    refine jj_bipush (v := (-9)) C dX8_longest_66 (by decide) ?_
    obtain rfl := Option.some.inj hx
    exact jj_iret C dX8_longest_68 rfl
  · rw [if_neg q48] at hx
    refine jj_aload_n C 0 0 dX8_longest_51 rfl rfl ?_
    obtain ⟨v1, ev1, hx⟩ := ob hx
    refine jj_callV C [] lk_X8_193 (mc_X8_goesFree X.2.1 G F n ev1) (o_X8_goesFree ev1) rfl rfl (Nat.le_of_ble_eq_true rfl) ⟨Nat.le_of_ble_eq_true rfl, Nat.le_of_ble_eq_true rfl⟩ ⟨Nat.zero_le _, Nat.zero_le _⟩ rfl dX8_longest_52 rfl rfl ?_
    refine jj_if_ne (tgt := 60) C dX8_longest_55 (by decide) (fun q55 => ?_) (fun q55 => ?_)
    · rw [if_neg q55] at hx
      refine jj_iinc (v := l1 + 1) C 1 1 dX8_longest_60 rfl rfl rfl (by decide) ?_
      refine jj_goto (tgt := 45) C dX8_longest_63 (by decide) ?_
      refine jj_sub [1, 0] rfl ?_
      exact hk45 _ _ hx
    · rw [if_pos q55] at hx
      refine jj_iload_n C 1 1 dX8_longest_58 rfl rfl ?_
      obtain rfl := Option.some.inj hx
      exact jj_iret C dX8_longest_59 rfl
theorem t_X8_longest_45 {X : pX} {G : pG} {n : Nat} {res : (Int32 × pH)} (C : Cx X G RX8 cX8_longest 2 (rmD 4 0 0) n (some (FieldType.int))) (F : Nat) {l0 : Nat} : ∀ (m : Nat) (h : pH) (l1 : Int32), x_X8_longest_45 F l0 m h l1 = some res → J X G (0, 0, some (.int res.1), n, res.2) (0, 0, n) h 45 [(0, .ref l0), (1, .int l1)] [] := by
  intro m
  induction m with
  | zero => intro h l1 hx; exact nomatch (show (none : Option (Int32 × pH)) = some res from hx)
  | succ m ih => intro h l1 hx; exact ts_X8_longest_45 C F  ih hx
def s_X8_longest_16 (F : Nat)  (l0 : Nat) (k16 : pH → Int32 → Option (Int32 × pH)) (h : pH) (l1 : Int32) : Option (Int32 × pH) :=
  if 40 ≤ l1 then
    x_X8_longest_45 F l0 F h 0
  else
    (getR 8 h l0 23).bind fun v1 =>
    if l1 = 0 then
      x_X8_longest_36 F k16 h l0 l1 1 l1 v1
    else
      x_X8_longest_36 F k16 h l0 l1 0 l1 v1
def x_X8_longest_16 (F : Nat)  (l0 : Nat) : Nat → pH → Int32 → Option (Int32 × pH)
  | 0, _, _ => none
  | m + 1, h, l1 => s_X8_longest_16 F l0 (x_X8_longest_16 F l0 m) h l1
theorem ts_X8_longest_16 {X : pX} {G : pG} {n : Nat} {res : (Int32 × pH)} (C : Cx X G RX8 cX8_longest 2 (rmD 4 0 0) n (some (FieldType.int))) (F : Nat) {l0 : Nat} {k16 : pH → Int32 → Option (Int32 × pH)} (hk16 : ∀ (h : pH) (l1 : Int32), k16 h l1 = some res → J X G (0, 0, some (.int res.1), n, res.2) (0, 0, n) h 16 [(0, .ref l0), (1, .int l1)] []) {h : pH} {l1 : Int32} (hx : s_X8_longest_16 F l0 k16 h l1 = some res) : J X G (0, 0, some (.int res.1), n, res.2) (0, 0, n) h 16 [(0, .ref l0), (1, .int l1)] [] := by
  unfold s_X8_longest_16 at hx
  refine jj_iload_n C 1 1 dX8_longest_16 rfl rfl ?_
  refine jj_bipush (v := 40) C dX8_longest_17 (by decide) ?_
  refine jj_icmp_ge (tgt := 43) C dX8_longest_19 (by decide) (fun q19 => ?_) (fun q19 => ?_)
  · rw [if_pos q19] at hx
    refine jj_iconst (v := 0) C dX8_longest_43 (by decide) ?_
    refine jj_istore_n C 1 dX8_longest_44 rfl rfl (by decide) ?_
    refine jj_sub [1, 0] rfl ?_
    exact t_X8_longest_45 C F F _ _ hx
  · rw [if_neg q19] at hx
    refine jj_aload_n C 0 0 dX8_longest_22 rfl rfl ?_
    obtain ⟨v1, ev1, hx⟩ := ob hx
    refine jj_getR C fd_X8_59 dX8_longest_23 ev1 ?_
    refine jj_iload_n C 1 1 dX8_longest_26 rfl rfl ?_
    refine jj_iload_n C 1 1 dX8_longest_27 rfl rfl ?_
    refine jj_if_ne (tgt := 35) C dX8_longest_28 (by decide) (fun q28 => ?_) (fun q28 => ?_)
    · rw [if_neg q28] at hx
      refine jj_iconst (v := 0) C dX8_longest_35 (by decide) ?_
      exact t_X8_longest_36 C F hk16 hx
    · rw [if_pos q28] at hx
      refine jj_iconst (v := 1) C dX8_longest_31 (by decide) ?_
      refine jj_goto (tgt := 36) C dX8_longest_32 (by decide) ?_
      exact t_X8_longest_36 C F hk16 hx
theorem t_X8_longest_16 {X : pX} {G : pG} {n : Nat} {res : (Int32 × pH)} (C : Cx X G RX8 cX8_longest 2 (rmD 4 0 0) n (some (FieldType.int))) (F : Nat) {l0 : Nat} : ∀ (m : Nat) (h : pH) (l1 : Int32), x_X8_longest_16 F l0 m h l1 = some res → J X G (0, 0, some (.int res.1), n, res.2) (0, 0, n) h 16 [(0, .ref l0), (1, .int l1)] [] := by
  intro m
  induction m with
  | zero => intro h l1 hx; exact nomatch (show (none : Option (Int32 × pH)) = some res from hx)
  | succ m ih => intro h l1 hx; exact ts_X8_longest_16 C F  ih hx
def x_X8_longest (F : Nat) (h : pH) (l0 : Nat) : Option (Int32 × pH) :=
  (chk 8 h l0).bind fun _ =>
  (getI 8 h l0 5).bind fun v1 =>
  if v1 = 0 then
    some ((-3 : Int32), h)
  else
    (x_X8_findNext F h l0).bind fun v2 =>
    x_X8_longest_16 F l0 F v2 0
theorem o_X8_longest {F : Nat} {h : pH} {l0 : Nat} {res : (Int32 × pH)} (hx : x_X8_longest F h l0 = some res) : chk 8 h l0 = some () := by
  unfold x_X8_longest at hx
  obtain ⟨_, e, _⟩ := ob hx
  exact e
theorem mc_X8_longest (l : Launch) (G : pG) (F n : Nat) {h : pH} {l0 : Nat} {res : (Int32 × pH)} (hx : x_X8_longest F h l0 = some res) : MC l yX8_longest cX8_longest 2 (some (FieldType.int)) (rmD 4 0 0) G [.ref l0] n h (some (.int res.1)) n res.2 := by
  unfold x_X8_longest at hx
  obtain ⟨_, _, hx⟩ := ob hx
  refine jj_entry RX8 rfl (by decide) (Nat.le_of_ble_eq_true rfl) (fun X _ _ C => ?_)
  show J X G (0, 0, some (.int res.1), n, res.2) (0, 0, n) h 0 [(0, .ref l0)] []
  refine jj_aload_n C 0 0 dX8_longest_0 rfl rfl ?_
  obtain ⟨v1, ev1, hx⟩ := ob hx
  refine jj_getI C fd_X8_87 dX8_longest_1 ev1 ?_
  refine jj_if_ne (tgt := 10) C dX8_longest_4 (by decide) (fun q4 => ?_) (fun q4 => ?_)
  · rw [if_neg q4] at hx
    refine jj_aload_n C 0 0 dX8_longest_10 rfl rfl ?_
    obtain ⟨v2, ev2, hx⟩ := ob hx
    refine jj_callV C [] lk_X8_172 (mc_X8_findNext X.2.1 G F n ev2) (o_X8_findNext ev2) rfl rfl (Nat.le_of_ble_eq_true rfl) ⟨Nat.le_of_ble_eq_true rfl, Nat.le_of_ble_eq_true rfl⟩ ⟨Nat.zero_le _, Nat.zero_le _⟩ rfl dX8_longest_11 rfl rfl ?_
    refine jj_iconst (v := 0) C dX8_longest_14 (by decide) ?_
    refine jj_istore_n C 1 dX8_longest_15 rfl rfl (by decide) ?_
    refine jj_sub [1, 0] rfl ?_
    exact t_X8_longest_16 C F F _ _ hx
  · rw [if_pos q4] at hx
    refine jj_bipush (v := (-3)) C dX8_longest_7 (by decide) ?_
    obtain rfl := Option.some.inj hx
    exact jj_iret C dX8_longest_9 rfl
def s_X8_lookAtCells_7 (F : Nat)  (l0 : Nat) (l1 : Int32) (l2 : Int32) (k7 : pH → Int32 → Option pH) (h : pH) (l3 : Int32) : Option pH :=
  if l2 ≤ l3 then
    some h
  else
    (getR 8 h l0 16).bind fun v1 =>
    (getR 8 h l0 4).bind fun v2 =>
    (aldI 0 h v2 (l1 + l3)).bind fun v3 =>
    (astI 0 h v1 l3 v3).bind fun v4 =>
    k7 v4 (l3 + 1)
def x_X8_lookAtCells_7 (F : Nat)  (l0 : Nat) (l1 : Int32) (l2 : Int32) : Nat → pH → Int32 → Option pH
  | 0, _, _ => none
  | m + 1, h, l3 => s_X8_lookAtCells_7 F l0 l1 l2 (x_X8_lookAtCells_7 F l0 l1 l2 m) h l3
theorem ts_X8_lookAtCells_7 {X : pX} {G : pG} {n : Nat} {res : pH} (C : Cx X G RX8 cX8_lookAtCells 4 (rmD 0 0 0) n none) (F : Nat) {l0 : Nat} {l1 : Int32} {l2 : Int32} {k7 : pH → Int32 → Option pH} (hk7 : ∀ (h : pH) (l3 : Int32), k7 h l3 = some res → J X G (0, 0, none, n, res) (0, 0, n) h 7 [(0, .ref l0), (1, .int l1), (2, .int l2), (3, .int l3)] []) {h : pH} {l3 : Int32} (hx : s_X8_lookAtCells_7 F l0 l1 l2 k7 h l3 = some res) : J X G (0, 0, none, n, res) (0, 0, n) h 7 [(0, .ref l0), (1, .int l1), (2, .int l2), (3, .int l3)] [] := by
  unfold s_X8_lookAtCells_7 at hx
  refine jj_iload_n C 3 3 dX8_lookAtCells_7 rfl rfl ?_
  refine jj_iload_n C 2 2 dX8_lookAtCells_8 rfl rfl ?_
  refine jj_icmp_ge (tgt := 32) C dX8_lookAtCells_9 (by decide) (fun q9 => ?_) (fun q9 => ?_)
  · rw [if_pos q9] at hx
    obtain rfl := Option.some.inj hx
    exact jj_vret C dX8_lookAtCells_32 rfl
  · rw [if_neg q9] at hx
    refine jj_aload_n C 0 0 dX8_lookAtCells_12 rfl rfl ?_
    obtain ⟨v1, ev1, hx⟩ := ob hx
    refine jj_getR C fd_X8_40 dX8_lookAtCells_13 ev1 ?_
    refine jj_iload_n C 3 3 dX8_lookAtCells_16 rfl rfl ?_
    refine jj_aload_n C 0 0 dX8_lookAtCells_17 rfl rfl ?_
    obtain ⟨v2, ev2, hx⟩ := ob hx
    refine jj_getR C fd_X8_16 dX8_lookAtCells_18 ev2 ?_
    refine jj_iload_n C 1 1 dX8_lookAtCells_21 rfl rfl ?_
    refine jj_iload_n C 3 3 dX8_lookAtCells_22 rfl rfl ?_
    refine jj_iadd C dX8_lookAtCells_23 ?_
    obtain ⟨v3, ev3, hx⟩ := ob hx
    refine jj_iald C dX8_lookAtCells_24 ev3 ?_
    obtain ⟨v4, ev4, hx⟩ := ob hx
    refine jj_iast C dX8_lookAtCells_25 ev4 ?_
    refine jj_iinc (v := l3 + 1) C 3 3 dX8_lookAtCells_26 rfl rfl rfl (by decide) ?_
    refine jj_goto (tgt := 7) C dX8_lookAtCells_29 (by decide) ?_
    refine jj_sub [1, 2, 3, 0] rfl ?_
    exact hk7 _ _ hx
theorem t_X8_lookAtCells_7 {X : pX} {G : pG} {n : Nat} {res : pH} (C : Cx X G RX8 cX8_lookAtCells 4 (rmD 0 0 0) n none) (F : Nat) {l0 : Nat} {l1 : Int32} {l2 : Int32} : ∀ (m : Nat) (h : pH) (l3 : Int32), x_X8_lookAtCells_7 F l0 l1 l2 m h l3 = some res → J X G (0, 0, none, n, res) (0, 0, n) h 7 [(0, .ref l0), (1, .int l1), (2, .int l2), (3, .int l3)] [] := by
  intro m
  induction m with
  | zero => intro h l3 hx; exact nomatch (show (none : Option pH) = some res from hx)
  | succ m ih => intro h l3 hx; exact ts_X8_lookAtCells_7 C F  ih hx
def x_X8_lookAtCells (F : Nat) (h : pH) (l0 : Nat) (l1 : Int32) (l2 : Int32) : Option pH :=
  (chk 8 h l0).bind fun _ =>
  (putV 8 h l0 17 (.int l2)).bind fun v1 =>
  x_X8_lookAtCells_7 F l0 l1 l2 F v1 0
theorem o_X8_lookAtCells {F : Nat} {h : pH} {l0 : Nat} {l1 : Int32} {l2 : Int32} {res : pH} (hx : x_X8_lookAtCells F h l0 l1 l2 = some res) : chk 8 h l0 = some () := by
  unfold x_X8_lookAtCells at hx
  obtain ⟨_, e, _⟩ := ob hx
  exact e
theorem mc_X8_lookAtCells (l : Launch) (G : pG) (F n : Nat) {h : pH} {l0 : Nat} {l1 : Int32} {l2 : Int32} {res : pH} (hx : x_X8_lookAtCells F h l0 l1 l2 = some res) : MC l yX8_lookAtCells cX8_lookAtCells 4 none (rmD 0 0 0) G [.ref l0, .int l1, .int l2] n h (none) n res := by
  unfold x_X8_lookAtCells at hx
  obtain ⟨_, _, hx⟩ := ob hx
  refine jj_entry RX8 rfl (by decide) (Nat.le_of_ble_eq_true rfl) (fun X _ _ C => ?_)
  show J X G (0, 0, none, n, res) (0, 0, n) h 0 [(0, .ref l0), (1, .int l1), (2, .int l2)] []
  refine jj_aload_n C 0 0 dX8_lookAtCells_0 rfl rfl ?_
  refine jj_iload_n C 2 2 dX8_lookAtCells_1 rfl rfl ?_
  obtain ⟨v1, ev1, hx⟩ := ob hx
  refine jj_put C fd_X8_133 rfl rfl dX8_lookAtCells_2 ev1 ?_
  refine jj_iconst (v := 0) C dX8_lookAtCells_5 (by decide) ?_
  refine jj_istore_n C 3 dX8_lookAtCells_6 rfl rfl (by decide) ?_
  refine jj_sub [1, 2, 3, 0] rfl ?_
  exact t_X8_lookAtCells_7 C F F _ _ hx
def s_X8_lookAtSaid_10 (F : Nat)  (l0 : Nat) (k10 : pH → Int32 → Option pH) (h : pH) (l1 : Int32) : Option pH :=
  (getI 8 h l0 6).bind fun v1 =>
  if v1 ≤ l1 then
    some h
  else
    (getR 8 h l0 16).bind fun v2 =>
    (getR 8 h l0 10).bind fun v3 =>
    (aldI 0 h v3 l1).bind fun v4 =>
    (astI 0 h v2 l1 v4).bind fun v5 =>
    k10 v5 (l1 + 1)
def x_X8_lookAtSaid_10 (F : Nat)  (l0 : Nat) : Nat → pH → Int32 → Option pH
  | 0, _, _ => none
  | m + 1, h, l1 => s_X8_lookAtSaid_10 F l0 (x_X8_lookAtSaid_10 F l0 m) h l1
theorem ts_X8_lookAtSaid_10 {X : pX} {G : pG} {n : Nat} {res : pH} (C : Cx X G RX8 cX8_lookAtSaid 2 (rmD 0 0 0) n none) (F : Nat) {l0 : Nat} {k10 : pH → Int32 → Option pH} (hk10 : ∀ (h : pH) (l1 : Int32), k10 h l1 = some res → J X G (0, 0, none, n, res) (0, 0, n) h 10 [(0, .ref l0), (1, .int l1)] []) {h : pH} {l1 : Int32} (hx : s_X8_lookAtSaid_10 F l0 k10 h l1 = some res) : J X G (0, 0, none, n, res) (0, 0, n) h 10 [(0, .ref l0), (1, .int l1)] [] := by
  unfold s_X8_lookAtSaid_10 at hx
  refine jj_iload_n C 1 1 dX8_lookAtSaid_10 rfl rfl ?_
  refine jj_aload_n C 0 0 dX8_lookAtSaid_11 rfl rfl ?_
  obtain ⟨v1, ev1, hx⟩ := ob hx
  refine jj_getI C fd_X8_114 dX8_lookAtSaid_12 ev1 ?_
  refine jj_icmp_ge (tgt := 36) C dX8_lookAtSaid_15 (by decide) (fun q15 => ?_) (fun q15 => ?_)
  · rw [if_pos q15] at hx
    obtain rfl := Option.some.inj hx
    exact jj_vret C dX8_lookAtSaid_36 rfl
  · rw [if_neg q15] at hx
    refine jj_aload_n C 0 0 dX8_lookAtSaid_18 rfl rfl ?_
    obtain ⟨v2, ev2, hx⟩ := ob hx
    refine jj_getR C fd_X8_40 dX8_lookAtSaid_19 ev2 ?_
    refine jj_iload_n C 1 1 dX8_lookAtSaid_22 rfl rfl ?_
    refine jj_aload_n C 0 0 dX8_lookAtSaid_23 rfl rfl ?_
    obtain ⟨v3, ev3, hx⟩ := ob hx
    refine jj_getR C fd_X8_28 dX8_lookAtSaid_24 ev3 ?_
    refine jj_iload_n C 1 1 dX8_lookAtSaid_27 rfl rfl ?_
    obtain ⟨v4, ev4, hx⟩ := ob hx
    refine jj_iald C dX8_lookAtSaid_28 ev4 ?_
    obtain ⟨v5, ev5, hx⟩ := ob hx
    refine jj_iast C dX8_lookAtSaid_29 ev5 ?_
    refine jj_iinc (v := l1 + 1) C 1 1 dX8_lookAtSaid_30 rfl rfl rfl (by decide) ?_
    refine jj_goto (tgt := 10) C dX8_lookAtSaid_33 (by decide) ?_
    refine jj_sub [1, 0] rfl ?_
    exact hk10 _ _ hx
theorem t_X8_lookAtSaid_10 {X : pX} {G : pG} {n : Nat} {res : pH} (C : Cx X G RX8 cX8_lookAtSaid 2 (rmD 0 0 0) n none) (F : Nat) {l0 : Nat} : ∀ (m : Nat) (h : pH) (l1 : Int32), x_X8_lookAtSaid_10 F l0 m h l1 = some res → J X G (0, 0, none, n, res) (0, 0, n) h 10 [(0, .ref l0), (1, .int l1)] [] := by
  intro m
  induction m with
  | zero => intro h l1 hx; exact nomatch (show (none : Option pH) = some res from hx)
  | succ m ih => intro h l1 hx; exact ts_X8_lookAtSaid_10 C F  ih hx
def x_X8_lookAtSaid (F : Nat) (h : pH) (l0 : Nat) : Option pH :=
  (chk 8 h l0).bind fun _ =>
  (getI 8 h l0 6).bind fun v1 =>
  (putV 8 h l0 17 (.int v1)).bind fun v2 =>
  x_X8_lookAtSaid_10 F l0 F v2 0
theorem o_X8_lookAtSaid {F : Nat} {h : pH} {l0 : Nat} {res : pH} (hx : x_X8_lookAtSaid F h l0 = some res) : chk 8 h l0 = some () := by
  unfold x_X8_lookAtSaid at hx
  obtain ⟨_, e, _⟩ := ob hx
  exact e
theorem mc_X8_lookAtSaid (l : Launch) (G : pG) (F n : Nat) {h : pH} {l0 : Nat} {res : pH} (hx : x_X8_lookAtSaid F h l0 = some res) : MC l yX8_lookAtSaid cX8_lookAtSaid 2 none (rmD 0 0 0) G [.ref l0] n h (none) n res := by
  unfold x_X8_lookAtSaid at hx
  obtain ⟨_, _, hx⟩ := ob hx
  refine jj_entry RX8 rfl (by decide) (Nat.le_of_ble_eq_true rfl) (fun X _ _ C => ?_)
  show J X G (0, 0, none, n, res) (0, 0, n) h 0 [(0, .ref l0)] []
  refine jj_aload_n C 0 0 dX8_lookAtSaid_0 rfl rfl ?_
  refine jj_aload_n C 0 0 dX8_lookAtSaid_1 rfl rfl ?_
  obtain ⟨v1, ev1, hx⟩ := ob hx
  refine jj_getI C fd_X8_114 dX8_lookAtSaid_2 ev1 ?_
  obtain ⟨v2, ev2, hx⟩ := ob hx
  refine jj_put C fd_X8_133 rfl rfl dX8_lookAtSaid_5 ev2 ?_
  refine jj_iconst (v := 0) C dX8_lookAtSaid_8 (by decide) ?_
  refine jj_istore_n C 1 dX8_lookAtSaid_9 rfl rfl (by decide) ?_
  refine jj_sub [1, 0] rfl ?_
  exact t_X8_lookAtSaid_10 C F F _ _ hx
def x_X8_lose_25 (F : Nat)  (h : pH) (l0 : Nat) (l1 : Int32) (s0 : Int32) : Option (Int32 × pH) :=
  (getR 8 h l0 2).bind fun v1 =>
  (astI 0 h v1 l1 ((-9))).bind fun v2 =>
  some (s0, v2)
theorem t_X8_lose_25 {X : pX} {G : pG} {n : Nat} {res : (Int32 × pH)} (C : Cx X G RX8 cX8_lose 3 (rmD 2 0 0) n (some (FieldType.int))) (F : Nat) {h : pH} {l0 : Nat} {l1 : Int32} {s0 : Int32} (hx : x_X8_lose_25 F h l0 l1 s0 = some res) : J X G (0, 0, some (.int res.1), n, res.2) (0, 0, n) h 25 [(0, .ref l0), (1, .int l1)] [.int s0] := by
  unfold x_X8_lose_25 at hx
  refine jj_istore_n C 2 dX8_lose_25 rfl rfl (by decide) ?_
  refine jj_aload_n C 0 1 dX8_lose_26 rfl rfl ?_
  obtain ⟨v1, ev1, hx⟩ := ob hx
  refine jj_getR C fd_X8_9 dX8_lose_27 ev1 ?_
  refine jj_iload_n C 1 2 dX8_lose_30 rfl rfl ?_
  refine jj_bipush (v := (-9)) C dX8_lose_31 (by decide) ?_
  obtain ⟨v2, ev2, hx⟩ := ob hx
  refine jj_iast C dX8_lose_33 ev2 ?_
  refine jj_iload_n C 2 0 dX8_lose_34 rfl rfl ?_
  obtain rfl := Option.some.inj hx
  exact jj_iret C dX8_lose_35 rfl
def x_X8_lose (F : Nat) (h : pH) (l0 : Nat) (l1 : Int32) : Option (Int32 × pH) :=
  (chk 8 h l0).bind fun _ =>
  (x_X8_isSheet F h l1).bind fun v1 =>
  if v1 = 0 then
    some ((-1 : Int32), h)
  else
    (getR 8 h l0 2).bind fun v2 =>
    (aldI 0 h v2 l1).bind fun v3 =>
    if v3 = ((-9)) then
      x_X8_lose_25 F h l0 l1 0
    else
      x_X8_lose_25 F h l0 l1 1
theorem o_X8_lose {F : Nat} {h : pH} {l0 : Nat} {l1 : Int32} {res : (Int32 × pH)} (hx : x_X8_lose F h l0 l1 = some res) : chk 8 h l0 = some () := by
  unfold x_X8_lose at hx
  obtain ⟨_, e, _⟩ := ob hx
  exact e
theorem mc_X8_lose (l : Launch) (G : pG) (F n : Nat) {h : pH} {l0 : Nat} {l1 : Int32} {res : (Int32 × pH)} (hx : x_X8_lose F h l0 l1 = some res) : MC l yX8_lose cX8_lose 3 (some (FieldType.int)) (rmD 2 0 0) G [.ref l0, .int l1] n h (some (.int res.1)) n res.2 := by
  unfold x_X8_lose at hx
  obtain ⟨_, _, hx⟩ := ob hx
  refine jj_entry RX8 rfl (by decide) (Nat.le_of_ble_eq_true rfl) (fun X _ _ C => ?_)
  show J X G (0, 0, some (.int res.1), n, res.2) (0, 0, n) h 0 [(0, .ref l0), (1, .int l1)] []
  refine jj_iload_n C 1 1 dX8_lose_0 rfl rfl ?_
  obtain ⟨v1, ev1, hx⟩ := ob hx
  refine jj_callS C [.int l1] lk_X8_93 (mc_X8_isSheet X.2.1 G F n ev1) rfl rfl (Nat.le_of_ble_eq_true rfl) ⟨Nat.le_of_ble_eq_true rfl, Nat.le_of_ble_eq_true rfl⟩ ⟨Nat.zero_le _, Nat.zero_le _⟩ rfl dX8_lose_1 rfl rfl ?_
  refine jj_if_ne (tgt := 9) C dX8_lose_4 (by decide) (fun q4 => ?_) (fun q4 => ?_)
  · rw [if_neg q4] at hx
    refine jj_aload_n C 0 0 dX8_lose_9 rfl rfl ?_
    obtain ⟨v2, ev2, hx⟩ := ob hx
    refine jj_getR C fd_X8_9 dX8_lose_10 ev2 ?_
    refine jj_iload_n C 1 1 dX8_lose_13 rfl rfl ?_
    obtain ⟨v3, ev3, hx⟩ := ob hx
    refine jj_iald C dX8_lose_14 ev3 ?_
    refine jj_bipush (v := (-9)) C dX8_lose_15 (by decide) ?_
    refine jj_icmp_ne (tgt := 24) C dX8_lose_17 (by decide) (fun q17 => ?_) (fun q17 => ?_)
    · rw [if_neg q17] at hx
      refine jj_iconst (v := 1) C dX8_lose_24 (by decide) ?_
      exact t_X8_lose_25 C F hx
    · rw [if_pos q17] at hx
      refine jj_iconst (v := 0) C dX8_lose_20 (by decide) ?_
      refine jj_goto (tgt := 25) C dX8_lose_21 (by decide) ?_
      exact t_X8_lose_25 C F hx
  · rw [if_pos q4] at hx
    refine jj_iconst (v := (-1)) C dX8_lose_7 (by decide) ?_
    obtain rfl := Option.some.inj hx
    exact jj_iret C dX8_lose_8 rfl
def x_X8_standing_28 (F : Nat) (k4 : Int32 → Int32 → Option Int32) (h : pH) (l0 : Nat) (l2 : Int32) (s0 : Int32) (s1 : Int32) : Option Int32 :=
  k4 (s1 ||| s0) (l2 + 1)
theorem t_X8_standing_28 {X : pX} {G : pG} {n : Nat} {res : Int32} (C : Cx X G RX8 cX8_standing 3 (rmD 3 0 0) n (some (FieldType.int))) (F : Nat) {h : pH} {l0 : Nat} {l2 : Int32} {s0 : Int32} {s1 : Int32} {k4 : Int32 → Int32 → Option Int32} (hk4 : ∀ (l1 : Int32) (l2 : Int32), k4 l1 l2 = some res → J X G (0, 0, some (.int res), n, h) (0, 0, n) h 4 [(0, .ref l0), (1, .int l1), (2, .int l2)] []) (hx : x_X8_standing_28 F k4 h l0 l2 s0 s1 = some res) : J X G (0, 0, some (.int res), n, h) (0, 0, n) h 28 [(0, .ref l0), (2, .int l2)] [.int s0, .int s1] := by
  unfold x_X8_standing_28 at hx
  refine jj_ior C dX8_standing_28 ?_
  refine jj_istore_n C 1 dX8_standing_29 rfl rfl (by decide) ?_
  refine jj_iinc (v := l2 + 1) C 2 2 dX8_standing_30 rfl rfl rfl (by decide) ?_
  refine jj_goto (tgt := 4) C dX8_standing_33 (by decide) ?_
  refine jj_sub [2, 1, 0] rfl ?_
  exact hk4 _ _ hx
def s_X8_standing_4 (F : Nat)  (h : pH) (l0 : Nat) (k4 : Int32 → Int32 → Option Int32) (l1 : Int32) (l2 : Int32) : Option Int32 :=
  (getI 8 h l0 5).bind fun v1 =>
  if v1 ≤ l2 then
    some l1
  else
    (x_X8_timesHeard F h l0 l2).bind fun v2 =>
    if v2 ≤ 0 then
      x_X8_standing_28 F k4 h l0 l2 0 l1
    else
      x_X8_standing_28 F k4 h l0 l2 ((1 : Int32) <<< (l2 &&& 31)) l1
def x_X8_standing_4 (F : Nat)  (h : pH) (l0 : Nat) : Nat → Int32 → Int32 → Option Int32
  | 0, _, _ => none
  | m + 1, l1, l2 => s_X8_standing_4 F h l0 (x_X8_standing_4 F h l0 m) l1 l2
theorem ts_X8_standing_4 {X : pX} {G : pG} {n : Nat} {res : Int32} (C : Cx X G RX8 cX8_standing 3 (rmD 3 0 0) n (some (FieldType.int))) (F : Nat) {h : pH} {l0 : Nat} {k4 : Int32 → Int32 → Option Int32} (hk4 : ∀ (l1 : Int32) (l2 : Int32), k4 l1 l2 = some res → J X G (0, 0, some (.int res), n, h) (0, 0, n) h 4 [(0, .ref l0), (1, .int l1), (2, .int l2)] []) {l1 : Int32} {l2 : Int32} (hx : s_X8_standing_4 F h l0 k4 l1 l2 = some res) : J X G (0, 0, some (.int res), n, h) (0, 0, n) h 4 [(0, .ref l0), (1, .int l1), (2, .int l2)] [] := by
  unfold s_X8_standing_4 at hx
  refine jj_iload_n C 2 2 dX8_standing_4 rfl rfl ?_
  refine jj_aload_n C 0 0 dX8_standing_5 rfl rfl ?_
  obtain ⟨v1, ev1, hx⟩ := ob hx
  refine jj_getI C fd_X8_87 dX8_standing_6 ev1 ?_
  refine jj_icmp_ge (tgt := 36) C dX8_standing_9 (by decide) (fun q9 => ?_) (fun q9 => ?_)
  · rw [if_pos q9] at hx
    refine jj_iload_n C 1 1 dX8_standing_36 rfl rfl ?_
    obtain rfl := Option.some.inj hx
    exact jj_iret C dX8_standing_37 rfl
  · rw [if_neg q9] at hx
    refine jj_iload_n C 1 1 dX8_standing_12 rfl rfl ?_
    refine jj_aload_n C 0 0 dX8_standing_13 rfl rfl ?_
    refine jj_iload_n C 2 2 dX8_standing_14 rfl rfl ?_
    obtain ⟨v2, ev2, hx⟩ := ob hx
    refine jj_callV C [.int l2] lk_X8_136 (mc_X8_timesHeard X.2.1 G F n ev2) (o_X8_timesHeard ev2) rfl rfl (Nat.le_of_ble_eq_true rfl) ⟨Nat.le_of_ble_eq_true rfl, Nat.le_of_ble_eq_true rfl⟩ ⟨Nat.zero_le _, Nat.zero_le _⟩ rfl dX8_standing_15 rfl rfl ?_
    refine jj_if_le (tgt := 27) C dX8_standing_18 (by decide) (fun q18 => ?_) (fun q18 => ?_)
    · rw [if_pos q18] at hx
      refine jj_iconst (v := 0) C dX8_standing_27 (by decide) ?_
      refine jj_sub [0, 2] rfl ?_
      exact t_X8_standing_28 C F hk4 hx
    · rw [if_neg q18] at hx
      refine jj_iconst (v := 1) C dX8_standing_21 (by decide) ?_
      refine jj_iload_n C 2 2 dX8_standing_22 rfl rfl ?_
      refine jj_ishl C dX8_standing_23 ?_
      refine jj_goto (tgt := 28) C dX8_standing_24 (by decide) ?_
      refine jj_sub [0, 2] rfl ?_
      exact t_X8_standing_28 C F hk4 hx
theorem t_X8_standing_4 {X : pX} {G : pG} {n : Nat} {res : Int32} (C : Cx X G RX8 cX8_standing 3 (rmD 3 0 0) n (some (FieldType.int))) (F : Nat) {h : pH} {l0 : Nat} : ∀ (m : Nat) (l1 : Int32) (l2 : Int32), x_X8_standing_4 F h l0 m l1 l2 = some res → J X G (0, 0, some (.int res), n, h) (0, 0, n) h 4 [(0, .ref l0), (1, .int l1), (2, .int l2)] [] := by
  intro m
  induction m with
  | zero => intro l1 l2 hx; exact nomatch (show (none : Option Int32) = some res from hx)
  | succ m ih => intro l1 l2 hx; exact ts_X8_standing_4 C F  ih hx
def x_X8_standing (F : Nat) (h : pH) (l0 : Nat) : Option Int32 :=
  (chk 8 h l0).bind fun _ =>
  x_X8_standing_4 F h l0 F 0 0
theorem o_X8_standing {F : Nat} {h : pH} {l0 : Nat} {res : Int32} (hx : x_X8_standing F h l0 = some res) : chk 8 h l0 = some () := by
  unfold x_X8_standing at hx
  obtain ⟨_, e, _⟩ := ob hx
  exact e
theorem mc_X8_standing (l : Launch) (G : pG) (F n : Nat) {h : pH} {l0 : Nat} {res : Int32} (hx : x_X8_standing F h l0 = some res) : MC l yX8_standing cX8_standing 3 (some (FieldType.int)) (rmD 3 0 0) G [.ref l0] n h (some (.int res)) n h := by
  unfold x_X8_standing at hx
  obtain ⟨_, _, hx⟩ := ob hx
  refine jj_entry RX8 rfl (by decide) (Nat.le_of_ble_eq_true rfl) (fun X _ _ C => ?_)
  show J X G (0, 0, some (.int res), n, h) (0, 0, n) h 0 [(0, .ref l0)] []
  refine jj_iconst (v := 0) C dX8_standing_0 (by decide) ?_
  refine jj_istore_n C 1 dX8_standing_1 rfl rfl (by decide) ?_
  refine jj_iconst (v := 0) C dX8_standing_2 (by decide) ?_
  refine jj_istore_n C 2 dX8_standing_3 rfl rfl (by decide) ?_
  refine jj_sub [2, 1, 0] rfl ?_
  exact t_X8_standing_4 C F F _ _ hx
def x_X8_many (F : Nat) (h : pH) (l0 : Nat) (l1 : Int32) : Option (Int32 × pH) :=
  (chk 8 h l0).bind fun _ =>
  if l1 = 0 then
    (getI 8 h l0 5).bind fun v1 =>
    some (v1, h)
  else
    if l1 = 1 then
      (getI 8 h l0 6).bind fun v2 =>
      some (v2, h)
    else
      if l1 = 2 then
        (x_X8_lookAtSaid F h l0).bind fun v3 =>
        (x_X8_standing F v3 l0).bind fun v4 =>
        some (v4, v3)
      else
        if l1 = 3 then
          (getI 8 h l0 25).bind fun v5 =>
          some (v5, h)
        else
          some ((-2 : Int32), h)
theorem o_X8_many {F : Nat} {h : pH} {l0 : Nat} {l1 : Int32} {res : (Int32 × pH)} (hx : x_X8_many F h l0 l1 = some res) : chk 8 h l0 = some () := by
  unfold x_X8_many at hx
  obtain ⟨_, e, _⟩ := ob hx
  exact e
theorem mc_X8_many (l : Launch) (G : pG) (F n : Nat) {h : pH} {l0 : Nat} {l1 : Int32} {res : (Int32 × pH)} (hx : x_X8_many F h l0 l1 = some res) : MC l yX8_many cX8_many 2 (some (FieldType.int)) (rmD 4 0 0) G [.ref l0, .int l1] n h (some (.int res.1)) n res.2 := by
  unfold x_X8_many at hx
  obtain ⟨_, _, hx⟩ := ob hx
  refine jj_entry RX8 rfl (by decide) (Nat.le_of_ble_eq_true rfl) (fun X _ _ C => ?_)
  show J X G (0, 0, some (.int res.1), n, res.2) (0, 0, n) h 0 [(0, .ref l0), (1, .int l1)] []
  refine jj_iload_n C 1 1 dX8_many_0 rfl rfl ?_
  by_cases q1_0 : l1 = 0
  · rw [if_pos q1_0] at hx
    refine jj_table (tgt := 32) C dX8_many_1 0 q1_0 (by decide) (by decide) rfl (by decide) ?_
    refine jj_aload_n C 0 0 dX8_many_32 rfl rfl ?_
    obtain ⟨v1, ev1, hx⟩ := ob hx
    refine jj_getI C fd_X8_87 dX8_many_33 ev1 ?_
    obtain rfl := Option.some.inj hx
    exact jj_iret C dX8_many_36 rfl
  · rw [if_neg q1_0] at hx
    by_cases q1_1 : l1 = 1
    · rw [if_pos q1_1] at hx
      refine jj_table (tgt := 37) C dX8_many_1 1 q1_1 (by decide) (by decide) rfl (by decide) ?_
      refine jj_aload_n C 0 0 dX8_many_37 rfl rfl ?_
      obtain ⟨v2, ev2, hx⟩ := ob hx
      refine jj_getI C fd_X8_114 dX8_many_38 ev2 ?_
      obtain rfl := Option.some.inj hx
      exact jj_iret C dX8_many_41 rfl
    · rw [if_neg q1_1] at hx
      by_cases q1_2 : l1 = 2
      · rw [if_pos q1_2] at hx
        refine jj_table (tgt := 42) C dX8_many_1 2 q1_2 (by decide) (by decide) rfl (by decide) ?_
        refine jj_aload_n C 0 0 dX8_many_42 rfl rfl ?_
        obtain ⟨v3, ev3, hx⟩ := ob hx
        refine jj_callV C [] lk_X8_145 (mc_X8_lookAtSaid X.2.1 G F n ev3) (o_X8_lookAtSaid ev3) rfl rfl (Nat.le_of_ble_eq_true rfl) ⟨Nat.le_of_ble_eq_true rfl, Nat.le_of_ble_eq_true rfl⟩ ⟨Nat.zero_le _, Nat.zero_le _⟩ rfl dX8_many_43 rfl rfl ?_
        refine jj_aload_n C 0 0 dX8_many_46 rfl rfl ?_
        obtain ⟨v4, ev4, hx⟩ := ob hx
        refine jj_callV C [] lk_X8_158 (mc_X8_standing X.2.1 G F n ev4) (o_X8_standing ev4) rfl rfl (Nat.le_of_ble_eq_true rfl) ⟨Nat.le_of_ble_eq_true rfl, Nat.le_of_ble_eq_true rfl⟩ ⟨Nat.zero_le _, Nat.zero_le _⟩ rfl dX8_many_47 rfl rfl ?_
        obtain rfl := Option.some.inj hx
        exact jj_iret C dX8_many_50 rfl
      · rw [if_neg q1_2] at hx
        by_cases q1_3 : l1 = 3
        · rw [if_pos q1_3] at hx
          refine jj_table (tgt := 51) C dX8_many_1 3 q1_3 (by decide) (by decide) rfl (by decide) ?_
          refine jj_aload_n C 0 0 dX8_many_51 rfl rfl ?_
          obtain ⟨v5, ev5, hx⟩ := ob hx
          refine jj_getI C fd_X8_117 dX8_many_52 ev5 ?_
          obtain rfl := Option.some.inj hx
          exact jj_iret C dX8_many_55 rfl
        · rw [if_neg q1_3] at hx
          refine jj_tableOut (tgt := 56) C dX8_many_1 (tb_out4 q1_0 q1_1 q1_2 q1_3) (by decide) ?_
          refine jj_bipush (v := (-2)) C dX8_many_56 (by decide) ?_
          obtain rfl := Option.some.inj hx
          exact jj_iret C dX8_many_58 rfl
def s_X8_odds_40 (F : Nat)  (h : pH) (l0 : Nat) (l1 : Int32) (l2 : Int32) (k40 : Int64 → Int32 → Option (Int64 × pH)) (l3 : Int64) (l5 : Int32) : Option (Int64 × pH) :=
  if l1 ≤ l5 then
    (x_X8_allWords F h l0).bind fun v1 =>
    (x_X8_waysWith F h l0 v1).bind fun v2 =>
    (x_X8_inLeastTerms F h v2 l3 l2).bind fun v3 =>
    some (v3, h)
  else
    k40 (l3 * (3 : Int64)) (l5 + 1)
def x_X8_odds_40 (F : Nat)  (h : pH) (l0 : Nat) (l1 : Int32) (l2 : Int32) : Nat → Int64 → Int32 → Option (Int64 × pH)
  | 0, _, _ => none
  | m + 1, l3, l5 => s_X8_odds_40 F h l0 l1 l2 (x_X8_odds_40 F h l0 l1 l2 m) l3 l5
theorem ts_X8_odds_40 {X : pX} {G : pG} {n : Nat} {res : (Int64 × pH)} (C : Cx X G RX8 cX8_odds 6 (rmD 5 0 0) n (some (FieldType.long))) (F : Nat) {h : pH} {l0 : Nat} {l1 : Int32} {l2 : Int32} {k40 : Int64 → Int32 → Option (Int64 × pH)} (hk40 : ∀ (l3 : Int64) (l5 : Int32), k40 l3 l5 = some res → J X G (0, 0, some (.long res.1), n, res.2) (0, 0, n) h 40 [(0, .ref l0), (1, .int l1), (2, .int l2), (3, .long l3), (5, .int l5)] []) {l3 : Int64} {l5 : Int32} (hx : s_X8_odds_40 F h l0 l1 l2 k40 l3 l5 = some res) : J X G (0, 0, some (.long res.1), n, res.2) (0, 0, n) h 40 [(0, .ref l0), (1, .int l1), (2, .int l2), (3, .long l3), (5, .int l5)] [] := by
  unfold s_X8_odds_40 at hx
  refine jj_iload C 5 4 dX8_odds_40 rfl ?_
  refine jj_iload_n C 1 1 dX8_odds_42 rfl rfl ?_
  refine jj_icmp_ge (tgt := 58) C dX8_odds_43 (by decide) (fun q43 => ?_) (fun q43 => ?_)
  · rw [if_pos q43] at hx
    refine jj_aload_n C 0 0 dX8_odds_58 rfl rfl ?_
    refine jj_aload_n C 0 0 dX8_odds_59 rfl rfl ?_
    obtain ⟨v1, ev1, hx⟩ := ob hx
    refine jj_callV C [] lk_X8_175 (mc_X8_allWords X.2.1 G F n ev1) (o_X8_allWords ev1) rfl rfl (Nat.le_of_ble_eq_true rfl) ⟨Nat.le_of_ble_eq_true rfl, Nat.le_of_ble_eq_true rfl⟩ ⟨Nat.zero_le _, Nat.zero_le _⟩ rfl dX8_odds_60 rfl rfl ?_
    obtain ⟨v2, ev2, hx⟩ := ob hx
    refine jj_callV C [.int v1] lk_X8_189 (mc_X8_waysWith X.2.1 G F n ev2) (o_X8_waysWith ev2) rfl rfl (Nat.le_of_ble_eq_true rfl) ⟨Nat.le_of_ble_eq_true rfl, Nat.le_of_ble_eq_true rfl⟩ ⟨Nat.zero_le _, Nat.zero_le _⟩ rfl dX8_odds_63 rfl rfl ?_
    refine jj_lload_n C 3 3 dX8_odds_66 rfl rfl ?_
    refine jj_iload_n C 2 2 dX8_odds_67 rfl rfl ?_
    obtain ⟨v3, ev3, hx⟩ := ob hx
    refine jj_callS C [.long v2, .long l3, .int l2] lk_X8_205 (mc_X8_inLeastTerms X.2.1 G F n ev3) rfl rfl (Nat.le_of_ble_eq_true rfl) ⟨Nat.le_of_ble_eq_true rfl, Nat.le_of_ble_eq_true rfl⟩ ⟨Nat.zero_le _, Nat.zero_le _⟩ rfl dX8_odds_68 rfl rfl ?_
    obtain rfl := Option.some.inj hx
    exact jj_lret C dX8_odds_71 rfl
  · rw [if_neg q43] at hx
    refine jj_lload_n C 3 3 dX8_odds_46 rfl rfl ?_
    refine jj_ldc2 C dX8_odds_47 ct_X8_203 ?_
    refine jj_lmul C dX8_odds_50 ?_
    refine jj_lstore_n C 3 dX8_odds_51 rfl rfl (by decide) ?_
    refine jj_iinc (v := l5 + 1) C 5 4 dX8_odds_52 rfl rfl rfl (by decide) ?_
    refine jj_goto (tgt := 40) C dX8_odds_55 (by decide) ?_
    refine jj_sub [2, 3, 4, 1, 0] rfl ?_
    exact hk40 _ _ hx
theorem t_X8_odds_40 {X : pX} {G : pG} {n : Nat} {res : (Int64 × pH)} (C : Cx X G RX8 cX8_odds 6 (rmD 5 0 0) n (some (FieldType.long))) (F : Nat) {h : pH} {l0 : Nat} {l1 : Int32} {l2 : Int32} : ∀ (m : Nat) (l3 : Int64) (l5 : Int32), x_X8_odds_40 F h l0 l1 l2 m l3 l5 = some res → J X G (0, 0, some (.long res.1), n, res.2) (0, 0, n) h 40 [(0, .ref l0), (1, .int l1), (2, .int l2), (3, .long l3), (5, .int l5)] [] := by
  intro m
  induction m with
  | zero => intro l3 l5 hx; exact nomatch (show (none : Option (Int64 × pH)) = some res from hx)
  | succ m ih => intro l3 l5 hx; exact ts_X8_odds_40 C F  ih hx
def x_X8_odds (F : Nat) (h : pH) (l0 : Nat) (l1 : Int32) (l2 : Int32) : Option (Int64 × pH) :=
  (chk 8 h l0).bind fun _ =>
  (x_X8_within F h l1 0 30).bind fun v1 =>
  if v1 = 0 then
    some ((-9223372036854775808 : Int64), h)
  else
    (x_X8_within F h l2 0 1).bind fun v2 =>
    if v2 = 0 then
      some ((-9223372036854775808 : Int64), h)
    else
      (getI 8 h l0 5).bind fun v3 =>
      if v3 = 0 then
        some ((-9223372036854775808 : Int64), h)
      else
        (x_X8_findWays F h l0 l1).bind fun v4 =>
        x_X8_odds_40 F v4 l0 l1 l2 F 1 0
theorem o_X8_odds {F : Nat} {h : pH} {l0 : Nat} {l1 : Int32} {l2 : Int32} {res : (Int64 × pH)} (hx : x_X8_odds F h l0 l1 l2 = some res) : chk 8 h l0 = some () := by
  unfold x_X8_odds at hx
  obtain ⟨_, e, _⟩ := ob hx
  exact e
theorem mc_X8_odds (l : Launch) (G : pG) (F n : Nat) {h : pH} {l0 : Nat} {l1 : Int32} {l2 : Int32} {res : (Int64 × pH)} (hx : x_X8_odds F h l0 l1 l2 = some res) : MC l yX8_odds cX8_odds 6 (some (FieldType.long)) (rmD 5 0 0) G [.ref l0, .int l1, .int l2] n h (some (.long res.1)) n res.2 := by
  unfold x_X8_odds at hx
  obtain ⟨_, _, hx⟩ := ob hx
  refine jj_entry RX8 rfl (by decide) (Nat.le_of_ble_eq_true rfl) (fun X _ _ C => ?_)
  show J X G (0, 0, some (.long res.1), n, res.2) (0, 0, n) h 0 [(0, .ref l0), (1, .int l1), (2, .int l2)] []
  refine jj_iload_n C 1 1 dX8_odds_0 rfl rfl ?_
  refine jj_iconst (v := 0) C dX8_odds_1 (by decide) ?_
  refine jj_bipush (v := 30) C dX8_odds_2 (by decide) ?_
  obtain ⟨v1, ev1, hx⟩ := ob hx
  refine jj_callS C [.int l1, .int 0, .int 30] lk_X8_83 (mc_X8_within X.2.1 G F n ev1) rfl rfl (Nat.le_of_ble_eq_true rfl) ⟨Nat.le_of_ble_eq_true rfl, Nat.le_of_ble_eq_true rfl⟩ ⟨Nat.zero_le _, Nat.zero_le _⟩ rfl dX8_odds_4 rfl rfl ?_
  refine jj_if_eq (tgt := 26) C dX8_odds_7 (by decide) (fun q7 => ?_) (fun q7 => ?_)
  · rw [if_pos q7] at hx
    refine jj_ldc2 C dX8_odds_26 ct_X8_81 ?_
    obtain rfl := Option.some.inj hx
    exact jj_lret C dX8_odds_29 rfl
  · rw [if_neg q7] at hx
    refine jj_iload_n C 2 2 dX8_odds_10 rfl rfl ?_
    refine jj_iconst (v := 0) C dX8_odds_11 (by decide) ?_
    refine jj_iconst (v := 1) C dX8_odds_12 (by decide) ?_
    obtain ⟨v2, ev2, hx⟩ := ob hx
    refine jj_callS C [.int l2, .int 0, .int 1] lk_X8_83 (mc_X8_within X.2.1 G F n ev2) rfl rfl (Nat.le_of_ble_eq_true rfl) ⟨Nat.le_of_ble_eq_true rfl, Nat.le_of_ble_eq_true rfl⟩ ⟨Nat.zero_le _, Nat.zero_le _⟩ rfl dX8_odds_13 rfl rfl ?_
    refine jj_if_eq (tgt := 26) C dX8_odds_16 (by decide) (fun q16 => ?_) (fun q16 => ?_)
    · rw [if_pos q16] at hx
      refine jj_ldc2 C dX8_odds_26 ct_X8_81 ?_
      obtain rfl := Option.some.inj hx
      exact jj_lret C dX8_odds_29 rfl
    · rw [if_neg q16] at hx
      refine jj_aload_n C 0 0 dX8_odds_19 rfl rfl ?_
      obtain ⟨v3, ev3, hx⟩ := ob hx
      refine jj_getI C fd_X8_87 dX8_odds_20 ev3 ?_
      refine jj_if_ne (tgt := 30) C dX8_odds_23 (by decide) (fun q23 => ?_) (fun q23 => ?_)
      · rw [if_neg q23] at hx
        refine jj_aload_n C 0 0 dX8_odds_30 rfl rfl ?_
        refine jj_iload_n C 1 1 dX8_odds_31 rfl rfl ?_
        obtain ⟨v4, ev4, hx⟩ := ob hx
        refine jj_callV C [.int l1] lk_X8_185 (mc_X8_findWays X.2.1 G F n ev4) (o_X8_findWays ev4) rfl rfl (Nat.le_of_ble_eq_true rfl) ⟨Nat.le_of_ble_eq_true rfl, Nat.le_of_ble_eq_true rfl⟩ ⟨Nat.zero_le _, Nat.zero_le _⟩ rfl dX8_odds_32 rfl rfl ?_
        refine jj_lconst (v := 1) C dX8_odds_35 (by decide) ?_
        refine jj_lstore_n C 3 dX8_odds_36 rfl rfl (by decide) ?_
        refine jj_iconst (v := 0) C dX8_odds_37 (by decide) ?_
        refine jj_istore C 5 dX8_odds_38 rfl (by decide) ?_
        refine jj_sub [2, 3, 4, 1, 0] rfl ?_
        exact t_X8_odds_40 C F F _ _ hx
      · rw [if_pos q23] at hx
        refine jj_ldc2 C dX8_odds_26 ct_X8_81 ?_
        obtain rfl := Option.some.inj hx
        exact jj_lret C dX8_odds_29 rfl
def x_X8_ofWord (F : Nat) (h : pH) (l0 : Nat) (l1 : Int32) (l2 : Int32) : Option (Int32 × pH) :=
  (chk 8 h l0).bind fun _ =>
  (x_X8_isWord F h l0 l1).bind fun v1 =>
  if v1 = 0 then
    some ((-1 : Int32), h)
  else
    (x_X8_within F h l2 10 13).bind fun v2 =>
    if v2 = 0 then
      if l2 = 0 then
        (getR 8 h l0 7).bind fun v3 =>
        (aldI 0 h v3 l1).bind fun v4 =>
        some (v4, h)
      else
        if l2 = 1 then
          (getR 8 h l0 8).bind fun v5 =>
          (aldI 0 h v5 l1).bind fun v6 =>
          some (v6, h)
        else
          if l2 = 2 then
            (x_X8_areForms F h l0 l1).bind fun v7 =>
            if v7 = 0 then
              some ((1 : Int32), h)
            else
              some ((2 : Int32), h)
          else
            if l2 = 3 then
              (x_X8_lookAtSaid F h l0).bind fun v8 =>
              (x_X8_timesHeard F v8 l0 l1).bind fun v9 =>
              some (v9, v8)
            else
              some ((-2 : Int32), h)
    else
      (getR 8 h l0 8).bind fun v10 =>
      (aldI 0 h v10 l1).bind fun v11 =>
      if v11 ≤ (l2 - (10 : Int32)) then
        some ((-9 : Int32), h)
      else
        (getR 8 h l0 9).bind fun v12 =>
        (aldI 0 h v12 ((((4 : Int32) * l1) + l2) - (10 : Int32))).bind fun v13 =>
        some (v13, h)
theorem o_X8_ofWord {F : Nat} {h : pH} {l0 : Nat} {l1 : Int32} {l2 : Int32} {res : (Int32 × pH)} (hx : x_X8_ofWord F h l0 l1 l2 = some res) : chk 8 h l0 = some () := by
  unfold x_X8_ofWord at hx
  obtain ⟨_, e, _⟩ := ob hx
  exact e
theorem mc_X8_ofWord (l : Launch) (G : pG) (F n : Nat) {h : pH} {l0 : Nat} {l1 : Int32} {l2 : Int32} {res : (Int32 × pH)} (hx : x_X8_ofWord F h l0 l1 l2 = some res) : MC l yX8_ofWord cX8_ofWord 3 (some (FieldType.int)) (rmD 3 0 0) G [.ref l0, .int l1, .int l2] n h (some (.int res.1)) n res.2 := by
  unfold x_X8_ofWord at hx
  obtain ⟨_, _, hx⟩ := ob hx
  refine jj_entry RX8 rfl (by decide) (Nat.le_of_ble_eq_true rfl) (fun X _ _ C => ?_)
  show J X G (0, 0, some (.int res.1), n, res.2) (0, 0, n) h 0 [(0, .ref l0), (1, .int l1), (2, .int l2)] []
  refine jj_aload_n C 0 0 dX8_ofWord_0 rfl rfl ?_
  refine jj_iload_n C 1 1 dX8_ofWord_1 rfl rfl ?_
  obtain ⟨v1, ev1, hx⟩ := ob hx
  refine jj_callV C [.int l1] lk_X8_139 (mc_X8_isWord X.2.1 G F n ev1) (o_X8_isWord ev1) rfl rfl (Nat.le_of_ble_eq_true rfl) ⟨Nat.le_of_ble_eq_true rfl, Nat.le_of_ble_eq_true rfl⟩ ⟨Nat.zero_le _, Nat.zero_le _⟩ rfl dX8_ofWord_2 rfl rfl ?_
  refine jj_if_ne (tgt := 10) C dX8_ofWord_5 (by decide) (fun q5 => ?_) (fun q5 => ?_)
  · rw [if_neg q5] at hx
    refine jj_iload_n C 2 2 dX8_ofWord_10 rfl rfl ?_
    refine jj_bipush (v := 10) C dX8_ofWord_11 (by decide) ?_
    refine jj_bipush (v := 13) C dX8_ofWord_13 (by decide) ?_
    obtain ⟨v2, ev2, hx⟩ := ob hx
    refine jj_callS C [.int l2, .int 10, .int 13] lk_X8_83 (mc_X8_within X.2.1 G F n ev2) rfl rfl (Nat.le_of_ble_eq_true rfl) ⟨Nat.le_of_ble_eq_true rfl, Nat.le_of_ble_eq_true rfl⟩ ⟨Nat.zero_le _, Nat.zero_le _⟩ rfl dX8_ofWord_15 rfl rfl ?_
    refine jj_if_eq (tgt := 53) C dX8_ofWord_18 (by decide) (fun q18 => ?_) (fun q18 => ?_)
    · rw [if_pos q18] at hx
      refine jj_iload_n C 2 2 dX8_ofWord_53 rfl rfl ?_
      by_cases q54_0 : l2 = 0
      · rw [if_pos q54_0] at hx
        refine jj_table (tgt := 84) C dX8_ofWord_54 0 q54_0 (by decide) (by decide) rfl (by decide) ?_
        refine jj_aload_n C 0 0 dX8_ofWord_84 rfl rfl ?_
        obtain ⟨v3, ev3, hx⟩ := ob hx
        refine jj_getR C fd_X8_19 dX8_ofWord_85 ev3 ?_
        refine jj_iload_n C 1 1 dX8_ofWord_88 rfl rfl ?_
        obtain ⟨v4, ev4, hx⟩ := ob hx
        refine jj_iald C dX8_ofWord_89 ev4 ?_
        obtain rfl := Option.some.inj hx
        exact jj_iret C dX8_ofWord_90 rfl
      · rw [if_neg q54_0] at hx
        by_cases q54_1 : l2 = 1
        · rw [if_pos q54_1] at hx
          refine jj_table (tgt := 91) C dX8_ofWord_54 1 q54_1 (by decide) (by decide) rfl (by decide) ?_
          refine jj_aload_n C 0 0 dX8_ofWord_91 rfl rfl ?_
          obtain ⟨v5, ev5, hx⟩ := ob hx
          refine jj_getR C fd_X8_22 dX8_ofWord_92 ev5 ?_
          refine jj_iload_n C 1 1 dX8_ofWord_95 rfl rfl ?_
          obtain ⟨v6, ev6, hx⟩ := ob hx
          refine jj_iald C dX8_ofWord_96 ev6 ?_
          obtain rfl := Option.some.inj hx
          exact jj_iret C dX8_ofWord_97 rfl
        · rw [if_neg q54_1] at hx
          by_cases q54_2 : l2 = 2
          · rw [if_pos q54_2] at hx
            refine jj_table (tgt := 98) C dX8_ofWord_54 2 q54_2 (by decide) (by decide) rfl (by decide) ?_
            refine jj_aload_n C 0 0 dX8_ofWord_98 rfl rfl ?_
            refine jj_iload_n C 1 1 dX8_ofWord_99 rfl rfl ?_
            obtain ⟨v7, ev7, hx⟩ := ob hx
            refine jj_callV C [.int l1] lk_X8_142 (mc_X8_areForms X.2.1 G F n ev7) (o_X8_areForms ev7) rfl rfl (Nat.le_of_ble_eq_true rfl) ⟨Nat.le_of_ble_eq_true rfl, Nat.le_of_ble_eq_true rfl⟩ ⟨Nat.zero_le _, Nat.zero_le _⟩ rfl dX8_ofWord_100 rfl rfl ?_
            refine jj_if_eq (tgt := 110) C dX8_ofWord_103 (by decide) (fun q103 => ?_) (fun q103 => ?_)
            · rw [if_pos q103] at hx
              refine jj_iconst (v := 1) C dX8_ofWord_110 (by decide) ?_
              obtain rfl := Option.some.inj hx
              exact jj_iret C dX8_ofWord_111 rfl
            · rw [if_neg q103] at hx
              refine jj_iconst (v := 2) C dX8_ofWord_106 (by decide) ?_
              refine jj_goto (tgt := 111) C dX8_ofWord_107 (by decide) ?_
              obtain rfl := Option.some.inj hx
              exact jj_iret C dX8_ofWord_111 rfl
          · rw [if_neg q54_2] at hx
            by_cases q54_3 : l2 = 3
            · rw [if_pos q54_3] at hx
              refine jj_table (tgt := 112) C dX8_ofWord_54 3 q54_3 (by decide) (by decide) rfl (by decide) ?_
              refine jj_aload_n C 0 0 dX8_ofWord_112 rfl rfl ?_
              obtain ⟨v8, ev8, hx⟩ := ob hx
              refine jj_callV C [] lk_X8_145 (mc_X8_lookAtSaid X.2.1 G F n ev8) (o_X8_lookAtSaid ev8) rfl rfl (Nat.le_of_ble_eq_true rfl) ⟨Nat.le_of_ble_eq_true rfl, Nat.le_of_ble_eq_true rfl⟩ ⟨Nat.zero_le _, Nat.zero_le _⟩ rfl dX8_ofWord_113 rfl rfl ?_
              refine jj_aload_n C 0 0 dX8_ofWord_116 rfl rfl ?_
              refine jj_iload_n C 1 1 dX8_ofWord_117 rfl rfl ?_
              obtain ⟨v9, ev9, hx⟩ := ob hx
              refine jj_callV C [.int l1] lk_X8_136 (mc_X8_timesHeard X.2.1 G F n ev9) (o_X8_timesHeard ev9) rfl rfl (Nat.le_of_ble_eq_true rfl) ⟨Nat.le_of_ble_eq_true rfl, Nat.le_of_ble_eq_true rfl⟩ ⟨Nat.zero_le _, Nat.zero_le _⟩ rfl dX8_ofWord_118 rfl rfl ?_
              obtain rfl := Option.some.inj hx
              exact jj_iret C dX8_ofWord_121 rfl
            · rw [if_neg q54_3] at hx
              refine jj_tableOut (tgt := 122) C dX8_ofWord_54 (tb_out4 q54_0 q54_1 q54_2 q54_3) (by decide) ?_
              refine jj_bipush (v := (-2)) C dX8_ofWord_122 (by decide) ?_
              obtain rfl := Option.some.inj hx
              exact jj_iret C dX8_ofWord_124 rfl
    · rw [if_neg q18] at hx
      refine jj_iload_n C 2 2 dX8_ofWord_21 rfl rfl ?_
      refine jj_bipush (v := 10) C dX8_ofWord_22 (by decide) ?_
      refine jj_isub C dX8_ofWord_24 ?_
      refine jj_aload_n C 0 0 dX8_ofWord_25 rfl rfl ?_
      obtain ⟨v10, ev10, hx⟩ := ob hx
      refine jj_getR C fd_X8_22 dX8_ofWord_26 ev10 ?_
      refine jj_iload_n C 1 1 dX8_ofWord_29 rfl rfl ?_
      obtain ⟨v11, ev11, hx⟩ := ob hx
      refine jj_iald C dX8_ofWord_30 ev11 ?_
      refine jj_icmp_ge (tgt := 50) C dX8_ofWord_31 (by decide) (fun q31 => ?_) (fun q31 => ?_)
      · rw [if_pos q31] at hx
        refine jj_bipush (v := (-9)) C dX8_ofWord_50 (by decide) ?_
        obtain rfl := Option.some.inj hx
        exact jj_iret C dX8_ofWord_52 rfl
      · rw [if_neg q31] at hx
        refine jj_aload_n C 0 0 dX8_ofWord_34 rfl rfl ?_
        obtain ⟨v12, ev12, hx⟩ := ob hx
        refine jj_getR C fd_X8_25 dX8_ofWord_35 ev12 ?_
        refine jj_iconst (v := 4) C dX8_ofWord_38 (by decide) ?_
        refine jj_iload_n C 1 1 dX8_ofWord_39 rfl rfl ?_
        refine jj_imul C dX8_ofWord_40 ?_
        refine jj_iload_n C 2 2 dX8_ofWord_41 rfl rfl ?_
        refine jj_iadd C dX8_ofWord_42 ?_
        refine jj_bipush (v := 10) C dX8_ofWord_43 (by decide) ?_
        refine jj_isub C dX8_ofWord_45 ?_
        obtain ⟨v13, ev13, hx⟩ := ob hx
        refine jj_iald C dX8_ofWord_46 ev13 ?_
        refine jj_goto (tgt := 52) C dX8_ofWord_47 (by decide) ?_
        obtain rfl := Option.some.inj hx
        exact jj_iret C dX8_ofWord_52 rfl
  · rw [if_pos q5] at hx
    refine jj_iconst (v := (-1)) C dX8_ofWord_8 (by decide) ?_
    obtain rfl := Option.some.inj hx
    exact jj_iret C dX8_ofWord_9 rfl
def x_X8_over_115 (F : Nat) (k52 : Int32 → Option Int32) (k63 : Int32 → Int32 → Option Int32) (h : pH) (l0 : Nat) (l1 : Int32) (l2 : Int32) (l4 : Int32) (l6 : Int32) (s0 : Int32) : Option Int32 :=
  k63 s0 (l6 + 1)
theorem t_X8_over_115 {X : pX} {G : pG} {n : Nat} {res : Int32} (C : Cx X G RX8 cX8_over 7 (rmD 1 0 0) n (some (FieldType.int))) (F : Nat) {h : pH} {l0 : Nat} {l1 : Int32} {l2 : Int32} {l4 : Int32} {l6 : Int32} {s0 : Int32} {k52 : Int32 → Option Int32} (hk52 : ∀ (l4 : Int32), k52 l4 = some res → J X G (0, 0, some (.int res), n, h) (0, 0, n) h 52 [(0, .ref l0), (1, .int l1), (2, .int l2), (4, .int l4)] []) {k63 : Int32 → Int32 → Option Int32} (hk63 : ∀ (l5 : Int32) (l6 : Int32), k63 l5 l6 = some res → J X G (0, 0, some (.int res), n, h) (0, 0, n) h 63 [(0, .ref l0), (1, .int l1), (2, .int l2), (4, .int l4), (5, .int l5), (6, .int l6)] []) (hx : x_X8_over_115 F k52 k63 h l0 l1 l2 l4 l6 s0 = some res) : J X G (0, 0, some (.int res), n, h) (0, 0, n) h 115 [(0, .ref l0), (1, .int l1), (2, .int l2), (4, .int l4), (6, .int l6)] [.int s0] := by
  unfold x_X8_over_115 at hx
  refine jj_istore C 5 dX8_over_115 rfl (by decide) ?_
  refine jj_iinc (v := l6 + 1) C 6 5 dX8_over_117 rfl rfl rfl (by decide) ?_
  refine jj_goto (tgt := 63) C dX8_over_120 (by decide) ?_
  refine jj_sub [2, 3, 4, 5, 1, 0] rfl ?_
  exact hk63 _ _ hx
def x_X8_over_123 (F : Nat) (k52 : Int32 → Option Int32) (h : pH) (l0 : Nat) (l1 : Int32) (l2 : Int32) (l4 : Int32) (l5 : Int32) : Option Int32 :=
  if l5 = 0 then
    k52 (l4 + (-1))
  else
    some l4
theorem t_X8_over_123 {X : pX} {G : pG} {n : Nat} {res : Int32} (C : Cx X G RX8 cX8_over 7 (rmD 1 0 0) n (some (FieldType.int))) (F : Nat) {h : pH} {l0 : Nat} {l1 : Int32} {l2 : Int32} {l4 : Int32} {l5 : Int32} {k52 : Int32 → Option Int32} (hk52 : ∀ (l4 : Int32), k52 l4 = some res → J X G (0, 0, some (.int res), n, h) (0, 0, n) h 52 [(0, .ref l0), (1, .int l1), (2, .int l2), (4, .int l4)] []) (hx : x_X8_over_123 F k52 h l0 l1 l2 l4 l5 = some res) : J X G (0, 0, some (.int res), n, h) (0, 0, n) h 123 [(0, .ref l0), (1, .int l1), (2, .int l2), (4, .int l4), (5, .int l5)] [] := by
  unfold x_X8_over_123 at hx
  refine jj_iload C 5 4 dX8_over_123 rfl ?_
  refine jj_if_eq (tgt := 131) C dX8_over_125 (by decide) (fun q125 => ?_) (fun q125 => ?_)
  · rw [if_pos q125] at hx
    refine jj_iinc (v := l4 + (-1)) C 4 3 dX8_over_131 rfl rfl rfl (by decide) ?_
    refine jj_goto (tgt := 52) C dX8_over_134 (by decide) ?_
    refine jj_sub [1, 2, 3, 0] rfl ?_
    exact hk52 _ hx
  · rw [if_neg q125] at hx
    refine jj_iload C 4 3 dX8_over_128 rfl ?_
    obtain rfl := Option.some.inj hx
    exact jj_iret C dX8_over_130 rfl
def s_X8_over_63 (F : Nat) (k52 : Int32 → Option Int32) (h : pH) (l0 : Nat) (l1 : Int32) (l2 : Int32) (l4 : Int32) (k63 : Int32 → Int32 → Option Int32) (l5 : Int32) (l6 : Int32) : Option Int32 :=
  if l4 ≤ l6 then
    x_X8_over_123 F k52 h l0 l1 l2 l4 l5
  else
    if l5 = 0 then
      x_X8_over_123 F k52 h l0 l1 l2 l4 l5
    else
      (getR 8 h l0 9).bind fun v1 =>
      (getR 8 h l0 8).bind fun v2 =>
      (aldI 0 h v2 l1).bind fun v3 =>
      (aldI 0 h v1 (((((4 : Int32) * l1) + v3) - l4) + l6)).bind fun v4 =>
      (getR 8 h l0 9).bind fun v5 =>
      (aldI 0 h v5 (((4 : Int32) * l2) + l6)).bind fun v6 =>
      if v4 = v6 then
        x_X8_over_115 F k52 k63 h l0 l1 l2 l4 l6 1
      else
        x_X8_over_115 F k52 k63 h l0 l1 l2 l4 l6 0
def x_X8_over_63 (F : Nat) (k52 : Int32 → Option Int32) (h : pH) (l0 : Nat) (l1 : Int32) (l2 : Int32) (l4 : Int32) : Nat → Int32 → Int32 → Option Int32
  | 0, _, _ => none
  | m + 1, l5, l6 => s_X8_over_63 F k52 h l0 l1 l2 l4 (x_X8_over_63 F k52 h l0 l1 l2 l4 m) l5 l6
theorem ts_X8_over_63 {X : pX} {G : pG} {n : Nat} {res : Int32} (C : Cx X G RX8 cX8_over 7 (rmD 1 0 0) n (some (FieldType.int))) (F : Nat) {h : pH} {l0 : Nat} {l1 : Int32} {l2 : Int32} {l4 : Int32} {k52 : Int32 → Option Int32} (hk52 : ∀ (l4 : Int32), k52 l4 = some res → J X G (0, 0, some (.int res), n, h) (0, 0, n) h 52 [(0, .ref l0), (1, .int l1), (2, .int l2), (4, .int l4)] []) {k63 : Int32 → Int32 → Option Int32} (hk63 : ∀ (l5 : Int32) (l6 : Int32), k63 l5 l6 = some res → J X G (0, 0, some (.int res), n, h) (0, 0, n) h 63 [(0, .ref l0), (1, .int l1), (2, .int l2), (4, .int l4), (5, .int l5), (6, .int l6)] []) {l5 : Int32} {l6 : Int32} (hx : s_X8_over_63 F k52 h l0 l1 l2 l4 k63 l5 l6 = some res) : J X G (0, 0, some (.int res), n, h) (0, 0, n) h 63 [(0, .ref l0), (1, .int l1), (2, .int l2), (4, .int l4), (5, .int l5), (6, .int l6)] [] := by
  unfold s_X8_over_63 at hx
  refine jj_iload C 6 5 dX8_over_63 rfl ?_
  refine jj_iload C 4 3 dX8_over_65 rfl ?_
  refine jj_icmp_ge (tgt := 123) C dX8_over_67 (by decide) (fun q67 => ?_) (fun q67 => ?_)
  · rw [if_pos q67] at hx
    refine jj_sub [0, 1, 2, 3, 4] rfl ?_
    exact t_X8_over_123 C F hk52 hx
  · rw [if_neg q67] at hx
    refine jj_iload C 5 4 dX8_over_70 rfl ?_
    refine jj_if_eq (tgt := 123) C dX8_over_72 (by decide) (fun q72 => ?_) (fun q72 => ?_)
    · rw [if_pos q72] at hx
      refine jj_sub [0, 1, 2, 3, 4] rfl ?_
      exact t_X8_over_123 C F hk52 hx
    · rw [if_neg q72] at hx
      refine jj_aload_n C 0 0 dX8_over_75 rfl rfl ?_
      obtain ⟨v1, ev1, hx⟩ := ob hx
      refine jj_getR C fd_X8_25 dX8_over_76 ev1 ?_
      refine jj_iconst (v := 4) C dX8_over_79 (by decide) ?_
      refine jj_iload_n C 1 1 dX8_over_80 rfl rfl ?_
      refine jj_imul C dX8_over_81 ?_
      refine jj_aload_n C 0 0 dX8_over_82 rfl rfl ?_
      obtain ⟨v2, ev2, hx⟩ := ob hx
      refine jj_getR C fd_X8_22 dX8_over_83 ev2 ?_
      refine jj_iload_n C 1 1 dX8_over_86 rfl rfl ?_
      obtain ⟨v3, ev3, hx⟩ := ob hx
      refine jj_iald C dX8_over_87 ev3 ?_
      refine jj_iadd C dX8_over_88 ?_
      refine jj_iload C 4 3 dX8_over_89 rfl ?_
      refine jj_isub C dX8_over_91 ?_
      refine jj_iload C 6 5 dX8_over_92 rfl ?_
      refine jj_iadd C dX8_over_94 ?_
      obtain ⟨v4, ev4, hx⟩ := ob hx
      refine jj_iald C dX8_over_95 ev4 ?_
      refine jj_aload_n C 0 0 dX8_over_96 rfl rfl ?_
      obtain ⟨v5, ev5, hx⟩ := ob hx
      refine jj_getR C fd_X8_25 dX8_over_97 ev5 ?_
      refine jj_iconst (v := 4) C dX8_over_100 (by decide) ?_
      refine jj_iload_n C 2 2 dX8_over_101 rfl rfl ?_
      refine jj_imul C dX8_over_102 ?_
      refine jj_iload C 6 5 dX8_over_103 rfl ?_
      refine jj_iadd C dX8_over_105 ?_
      obtain ⟨v6, ev6, hx⟩ := ob hx
      refine jj_iald C dX8_over_106 ev6 ?_
      refine jj_icmp_ne (tgt := 114) C dX8_over_107 (by decide) (fun q107 => ?_) (fun q107 => ?_)
      · rw [if_neg q107] at hx
        refine jj_iconst (v := 0) C dX8_over_114 (by decide) ?_
        refine jj_sub [0, 1, 2, 3, 5] rfl ?_
        exact t_X8_over_115 C F hk52 hk63 hx
      · rw [if_pos q107] at hx
        refine jj_iconst (v := 1) C dX8_over_110 (by decide) ?_
        refine jj_goto (tgt := 115) C dX8_over_111 (by decide) ?_
        refine jj_sub [0, 1, 2, 3, 5] rfl ?_
        exact t_X8_over_115 C F hk52 hk63 hx
theorem t_X8_over_63 {X : pX} {G : pG} {n : Nat} {res : Int32} (C : Cx X G RX8 cX8_over 7 (rmD 1 0 0) n (some (FieldType.int))) (F : Nat) {h : pH} {l0 : Nat} {l1 : Int32} {l2 : Int32} {l4 : Int32} {k52 : Int32 → Option Int32} (hk52 : ∀ (l4 : Int32), k52 l4 = some res → J X G (0, 0, some (.int res), n, h) (0, 0, n) h 52 [(0, .ref l0), (1, .int l1), (2, .int l2), (4, .int l4)] []) : ∀ (m : Nat) (l5 : Int32) (l6 : Int32), x_X8_over_63 F k52 h l0 l1 l2 l4 m l5 l6 = some res → J X G (0, 0, some (.int res), n, h) (0, 0, n) h 63 [(0, .ref l0), (1, .int l1), (2, .int l2), (4, .int l4), (5, .int l5), (6, .int l6)] [] := by
  intro m
  induction m with
  | zero => intro l5 l6 hx; exact nomatch (show (none : Option Int32) = some res from hx)
  | succ m ih => intro l5 l6 hx; exact ts_X8_over_63 C F hk52 ih hx
def s_X8_over_52 (F : Nat)  (h : pH) (l0 : Nat) (l1 : Int32) (l2 : Int32) (k52 : Int32 → Option Int32) (l4 : Int32) : Option Int32 :=
  if l4 ≤ 0 then
    some (0 : Int32)
  else
    x_X8_over_63 F k52 h l0 l1 l2 l4 F 1 0
def x_X8_over_52 (F : Nat)  (h : pH) (l0 : Nat) (l1 : Int32) (l2 : Int32) : Nat → Int32 → Option Int32
  | 0, _ => none
  | m + 1, l4 => s_X8_over_52 F h l0 l1 l2 (x_X8_over_52 F h l0 l1 l2 m) l4
theorem ts_X8_over_52 {X : pX} {G : pG} {n : Nat} {res : Int32} (C : Cx X G RX8 cX8_over 7 (rmD 1 0 0) n (some (FieldType.int))) (F : Nat) {h : pH} {l0 : Nat} {l1 : Int32} {l2 : Int32} {k52 : Int32 → Option Int32} (hk52 : ∀ (l4 : Int32), k52 l4 = some res → J X G (0, 0, some (.int res), n, h) (0, 0, n) h 52 [(0, .ref l0), (1, .int l1), (2, .int l2), (4, .int l4)] []) {l4 : Int32} (hx : s_X8_over_52 F h l0 l1 l2 k52 l4 = some res) : J X G (0, 0, some (.int res), n, h) (0, 0, n) h 52 [(0, .ref l0), (1, .int l1), (2, .int l2), (4, .int l4)] [] := by
  unfold s_X8_over_52 at hx
  refine jj_iload C 4 3 dX8_over_52 rfl ?_
  refine jj_if_le (tgt := 137) C dX8_over_54 (by decide) (fun q54 => ?_) (fun q54 => ?_)
  · rw [if_pos q54] at hx
    refine jj_iconst (v := 0) C dX8_over_137 (by decide) ?_
    obtain rfl := Option.some.inj hx
    exact jj_iret C dX8_over_138 rfl
  · rw [if_neg q54] at hx
    refine jj_iconst (v := 1) C dX8_over_57 (by decide) ?_
    refine jj_istore C 5 dX8_over_58 rfl (by decide) ?_
    refine jj_iconst (v := 0) C dX8_over_60 (by decide) ?_
    refine jj_istore C 6 dX8_over_61 rfl (by decide) ?_
    refine jj_sub [2, 3, 4, 5, 1, 0] rfl ?_
    exact t_X8_over_63 C F hk52 F _ _ hx
theorem t_X8_over_52 {X : pX} {G : pG} {n : Nat} {res : Int32} (C : Cx X G RX8 cX8_over 7 (rmD 1 0 0) n (some (FieldType.int))) (F : Nat) {h : pH} {l0 : Nat} {l1 : Int32} {l2 : Int32} : ∀ (m : Nat) (l4 : Int32), x_X8_over_52 F h l0 l1 l2 m l4 = some res → J X G (0, 0, some (.int res), n, h) (0, 0, n) h 52 [(0, .ref l0), (1, .int l1), (2, .int l2), (4, .int l4)] [] := by
  intro m
  induction m with
  | zero => intro l4 hx; exact nomatch (show (none : Option Int32) = some res from hx)
  | succ m ih => intro l4 hx; exact ts_X8_over_52 C F  ih hx
def x_X8_over_48 (F : Nat)  (h : pH) (l0 : Nat) (l1 : Int32) (l2 : Int32) (s0 : Int32) : Option Int32 :=
  x_X8_over_52 F h l0 l1 l2 F s0
theorem t_X8_over_48 {X : pX} {G : pG} {n : Nat} {res : Int32} (C : Cx X G RX8 cX8_over 7 (rmD 1 0 0) n (some (FieldType.int))) (F : Nat) {h : pH} {l0 : Nat} {l1 : Int32} {l2 : Int32} {s0 : Int32} (hx : x_X8_over_48 F h l0 l1 l2 s0 = some res) : J X G (0, 0, some (.int res), n, h) (0, 0, n) h 48 [(0, .ref l0), (1, .int l1), (2, .int l2)] [.int s0] := by
  unfold x_X8_over_48 at hx
  refine jj_istore_n C 3 dX8_over_48 rfl rfl (by decide) ?_
  refine jj_iload_n C 3 0 dX8_over_49 rfl rfl ?_
  refine jj_istore C 4 dX8_over_50 rfl (by decide) ?_
  refine jj_sub [2, 3, 4, 0] rfl ?_
  exact t_X8_over_52 C F F _ hx
def x_X8_over (F : Nat) (h : pH) (l0 : Nat) (l1 : Int32) (l2 : Int32) : Option Int32 :=
  (chk 8 h l0).bind fun _ =>
  (x_X8_isWord F h l0 l1).bind fun v1 =>
  if v1 = 0 then
    some (-1 : Int32)
  else
    (x_X8_isWord F h l0 l2).bind fun v2 =>
    if v2 = 0 then
      some (-1 : Int32)
    else
      (getR 8 h l0 8).bind fun v3 =>
      (aldI 0 h v3 l1).bind fun v4 =>
      (getR 8 h l0 8).bind fun v5 =>
      (aldI 0 h v5 l2).bind fun v6 =>
      if v6 ≤ v4 then
        (getR 8 h l0 8).bind fun v7 =>
        (aldI 0 h v7 l2).bind fun v8 =>
        x_X8_over_48 F h l0 l1 l2 v8
      else
        (getR 8 h l0 8).bind fun v9 =>
        (aldI 0 h v9 l1).bind fun v10 =>
        x_X8_over_48 F h l0 l1 l2 v10
theorem o_X8_over {F : Nat} {h : pH} {l0 : Nat} {l1 : Int32} {l2 : Int32} {res : Int32} (hx : x_X8_over F h l0 l1 l2 = some res) : chk 8 h l0 = some () := by
  unfold x_X8_over at hx
  obtain ⟨_, e, _⟩ := ob hx
  exact e
theorem mc_X8_over (l : Launch) (G : pG) (F n : Nat) {h : pH} {l0 : Nat} {l1 : Int32} {l2 : Int32} {res : Int32} (hx : x_X8_over F h l0 l1 l2 = some res) : MC l yX8_over cX8_over 7 (some (FieldType.int)) (rmD 1 0 0) G [.ref l0, .int l1, .int l2] n h (some (.int res)) n h := by
  unfold x_X8_over at hx
  obtain ⟨_, _, hx⟩ := ob hx
  refine jj_entry RX8 rfl (by decide) (Nat.le_of_ble_eq_true rfl) (fun X _ _ C => ?_)
  show J X G (0, 0, some (.int res), n, h) (0, 0, n) h 0 [(0, .ref l0), (1, .int l1), (2, .int l2)] []
  refine jj_aload_n C 0 0 dX8_over_0 rfl rfl ?_
  refine jj_iload_n C 1 1 dX8_over_1 rfl rfl ?_
  obtain ⟨v1, ev1, hx⟩ := ob hx
  refine jj_callV C [.int l1] lk_X8_139 (mc_X8_isWord X.2.1 G F n ev1) (o_X8_isWord ev1) rfl rfl (Nat.le_of_ble_eq_true rfl) ⟨Nat.le_of_ble_eq_true rfl, Nat.le_of_ble_eq_true rfl⟩ ⟨Nat.zero_le _, Nat.zero_le _⟩ rfl dX8_over_2 rfl rfl ?_
  refine jj_if_eq (tgt := 16) C dX8_over_5 (by decide) (fun q5 => ?_) (fun q5 => ?_)
  · rw [if_pos q5] at hx
    refine jj_iconst (v := (-1)) C dX8_over_16 (by decide) ?_
    obtain rfl := Option.some.inj hx
    exact jj_iret C dX8_over_17 rfl
  · rw [if_neg q5] at hx
    refine jj_aload_n C 0 0 dX8_over_8 rfl rfl ?_
    refine jj_iload_n C 2 2 dX8_over_9 rfl rfl ?_
    obtain ⟨v2, ev2, hx⟩ := ob hx
    refine jj_callV C [.int l2] lk_X8_139 (mc_X8_isWord X.2.1 G F n ev2) (o_X8_isWord ev2) rfl rfl (Nat.le_of_ble_eq_true rfl) ⟨Nat.le_of_ble_eq_true rfl, Nat.le_of_ble_eq_true rfl⟩ ⟨Nat.zero_le _, Nat.zero_le _⟩ rfl dX8_over_10 rfl rfl ?_
    refine jj_if_ne (tgt := 18) C dX8_over_13 (by decide) (fun q13 => ?_) (fun q13 => ?_)
    · rw [if_neg q13] at hx
      refine jj_aload_n C 0 0 dX8_over_18 rfl rfl ?_
      obtain ⟨v3, ev3, hx⟩ := ob hx
      refine jj_getR C fd_X8_22 dX8_over_19 ev3 ?_
      refine jj_iload_n C 1 1 dX8_over_22 rfl rfl ?_
      obtain ⟨v4, ev4, hx⟩ := ob hx
      refine jj_iald C dX8_over_23 ev4 ?_
      refine jj_aload_n C 0 0 dX8_over_24 rfl rfl ?_
      obtain ⟨v5, ev5, hx⟩ := ob hx
      refine jj_getR C fd_X8_22 dX8_over_25 ev5 ?_
      refine jj_iload_n C 2 2 dX8_over_28 rfl rfl ?_
      obtain ⟨v6, ev6, hx⟩ := ob hx
      refine jj_iald C dX8_over_29 ev6 ?_
      refine jj_icmp_ge (tgt := 42) C dX8_over_30 (by decide) (fun q30 => ?_) (fun q30 => ?_)
      · rw [if_pos q30] at hx
        refine jj_aload_n C 0 0 dX8_over_42 rfl rfl ?_
        obtain ⟨v7, ev7, hx⟩ := ob hx
        refine jj_getR C fd_X8_22 dX8_over_43 ev7 ?_
        refine jj_iload_n C 2 2 dX8_over_46 rfl rfl ?_
        obtain ⟨v8, ev8, hx⟩ := ob hx
        refine jj_iald C dX8_over_47 ev8 ?_
        exact t_X8_over_48 C F hx
      · rw [if_neg q30] at hx
        refine jj_aload_n C 0 0 dX8_over_33 rfl rfl ?_
        obtain ⟨v9, ev9, hx⟩ := ob hx
        refine jj_getR C fd_X8_22 dX8_over_34 ev9 ?_
        refine jj_iload_n C 1 1 dX8_over_37 rfl rfl ?_
        obtain ⟨v10, ev10, hx⟩ := ob hx
        refine jj_iald C dX8_over_38 ev10 ?_
        refine jj_goto (tgt := 48) C dX8_over_39 (by decide) ?_
        exact t_X8_over_48 C F hx
    · rw [if_pos q13] at hx
      refine jj_iconst (v := (-1)) C dX8_over_16 (by decide) ?_
      obtain rfl := Option.some.inj hx
      exact jj_iret C dX8_over_17 rfl
def x_X8_put_93 (F : Nat)  (h : pH) (s0 : Int32) (s1 : Int32) (s2 : Nat) : Option (Int32 × pH) :=
  (astI 0 h s2 s1 s0).bind fun v1 =>
  some ((1 : Int32), v1)
theorem t_X8_put_93 {X : pX} {G : pG} {n : Nat} {res : (Int32 × pH)} (C : Cx X G RX8 cX8_put 4 (rmD 2 0 0) n (some (FieldType.int))) (F : Nat) {h : pH} {s0 : Int32} {s1 : Int32} {s2 : Nat} (hx : x_X8_put_93 F h s0 s1 s2 = some res) : J X G (0, 0, some (.int res.1), n, res.2) (0, 0, n) h 93 [] [.int s0, .int s1, .ref s2] := by
  unfold x_X8_put_93 at hx
  obtain ⟨v1, ev1, hx⟩ := ob hx
  refine jj_iast C dX8_put_93 ev1 ?_
  refine jj_iconst (v := 1) C dX8_put_94 (by decide) ?_
  obtain rfl := Option.some.inj hx
  exact jj_iret C dX8_put_95 rfl
def x_X8_put (F : Nat) (h : pH) (l0 : Nat) (l1 : Int32) (l2 : Int32) (l3 : Int32) : Option (Int32 × pH) :=
  (chk 8 h l0).bind fun _ =>
  (putV 8 h l0 0 (.int 0)).bind fun v1 =>
  (x_X8_isSheet F v1 l1).bind fun v2 =>
  if v2 = 0 then
    some ((-1 : Int32), v1)
  else
    (getR 8 v1 l0 2).bind fun v3 =>
    (aldI 0 v1 v3 l1).bind fun v4 =>
    if v4 = ((-9)) then
      (x_X8_fails F v1 l0 1).bind fun v14 =>
      some (v14.1, v14.2)
    else
      (getR 8 v1 l0 3).bind fun v5 =>
      (aldI 0 v1 v5 l1).bind fun v6 =>
      (x_X8_within F v1 l2 0 (v6 - (1 : Int32))).bind fun v7 =>
      if v7 = 0 then
        (x_X8_fails F v1 l0 3).bind fun v13 =>
        some (v13.1, v13.2)
      else
        (getR 8 v1 l0 4).bind fun v8 =>
        (getR 8 v1 l0 2).bind fun v9 =>
        (aldI 0 v1 v9 l1).bind fun v10 =>
        if v10 = 0 then
          x_X8_put_93 F v1 l3.toInt8.toInt32 (((60 : Int32) * l1) + l2) v8
        else
          (getR 8 v1 l0 2).bind fun v11 =>
          (aldI 0 v1 v11 l1).bind fun v12 =>
          if v12 = 1 then
            x_X8_put_93 F v1 l3.toInt16.toInt32 (((60 : Int32) * l1) + l2) v8
          else
            x_X8_put_93 F v1 l3 (((60 : Int32) * l1) + l2) v8
theorem o_X8_put {F : Nat} {h : pH} {l0 : Nat} {l1 : Int32} {l2 : Int32} {l3 : Int32} {res : (Int32 × pH)} (hx : x_X8_put F h l0 l1 l2 l3 = some res) : chk 8 h l0 = some () := by
  unfold x_X8_put at hx
  obtain ⟨_, e, _⟩ := ob hx
  exact e
theorem mc_X8_put (l : Launch) (G : pG) (F n : Nat) {h : pH} {l0 : Nat} {l1 : Int32} {l2 : Int32} {l3 : Int32} {res : (Int32 × pH)} (hx : x_X8_put F h l0 l1 l2 l3 = some res) : MC l yX8_put cX8_put 4 (some (FieldType.int)) (rmD 2 0 0) G [.ref l0, .int l1, .int l2, .int l3] n h (some (.int res.1)) n res.2 := by
  unfold x_X8_put at hx
  obtain ⟨_, _, hx⟩ := ob hx
  refine jj_entry RX8 rfl (by decide) (Nat.le_of_ble_eq_true rfl) (fun X _ _ C => ?_)
  show J X G (0, 0, some (.int res.1), n, res.2) (0, 0, n) h 0 [(0, .ref l0), (1, .int l1), (2, .int l2), (3, .int l3)] []
  refine jj_aload_n C 0 0 dX8_put_0 rfl rfl ?_
  refine jj_iconst (v := 0) C dX8_put_1 (by decide) ?_
  obtain ⟨v1, ev1, hx⟩ := ob hx
  refine jj_put C fd_X8_77 rfl rfl dX8_put_2 ev1 ?_
  refine jj_iload_n C 1 1 dX8_put_5 rfl rfl ?_
  obtain ⟨v2, ev2, hx⟩ := ob hx
  refine jj_callS C [.int l1] lk_X8_93 (mc_X8_isSheet X.2.1 G F n ev2) rfl rfl (Nat.le_of_ble_eq_true rfl) ⟨Nat.le_of_ble_eq_true rfl, Nat.le_of_ble_eq_true rfl⟩ ⟨Nat.zero_le _, Nat.zero_le _⟩ rfl dX8_put_6 rfl rfl ?_
  refine jj_if_ne (tgt := 14) C dX8_put_9 (by decide) (fun q9 => ?_) (fun q9 => ?_)
  · rw [if_neg q9] at hx
    refine jj_aload_n C 0 0 dX8_put_14 rfl rfl ?_
    obtain ⟨v3, ev3, hx⟩ := ob hx
    refine jj_getR C fd_X8_9 dX8_put_15 ev3 ?_
    refine jj_iload_n C 1 1 dX8_put_18 rfl rfl ?_
    obtain ⟨v4, ev4, hx⟩ := ob hx
    refine jj_iald C dX8_put_19 ev4 ?_
    refine jj_bipush (v := (-9)) C dX8_put_20 (by decide) ?_
    refine jj_icmp_ne (tgt := 31) C dX8_put_22 (by decide) (fun q22 => ?_) (fun q22 => ?_)
    · rw [if_neg q22] at hx
      refine jj_iload_n C 2 2 dX8_put_31 rfl rfl ?_
      refine jj_iconst (v := 0) C dX8_put_32 (by decide) ?_
      refine jj_aload_n C 0 0 dX8_put_33 rfl rfl ?_
      obtain ⟨v5, ev5, hx⟩ := ob hx
      refine jj_getR C fd_X8_13 dX8_put_34 ev5 ?_
      refine jj_iload_n C 1 1 dX8_put_37 rfl rfl ?_
      obtain ⟨v6, ev6, hx⟩ := ob hx
      refine jj_iald C dX8_put_38 ev6 ?_
      refine jj_iconst (v := 1) C dX8_put_39 (by decide) ?_
      refine jj_isub C dX8_put_40 ?_
      obtain ⟨v7, ev7, hx⟩ := ob hx
      refine jj_callS C [.int l2, .int 0, .int (v6 - (1 : Int32))] lk_X8_83 (mc_X8_within X.2.1 G F n ev7) rfl rfl (Nat.le_of_ble_eq_true rfl) ⟨Nat.le_of_ble_eq_true rfl, Nat.le_of_ble_eq_true rfl⟩ ⟨Nat.zero_le _, Nat.zero_le _⟩ rfl dX8_put_41 rfl rfl ?_
      refine jj_if_ne (tgt := 53) C dX8_put_44 (by decide) (fun q44 => ?_) (fun q44 => ?_)
      · rw [if_neg q44] at hx
        refine jj_aload_n C 0 0 dX8_put_53 rfl rfl ?_
        obtain ⟨v8, ev8, hx⟩ := ob hx
        refine jj_getR C fd_X8_16 dX8_put_54 ev8 ?_
        refine jj_bipush (v := 60) C dX8_put_57 (by decide) ?_
        refine jj_iload_n C 1 1 dX8_put_59 rfl rfl ?_
        refine jj_imul C dX8_put_60 ?_
        refine jj_iload_n C 2 2 dX8_put_61 rfl rfl ?_
        refine jj_iadd C dX8_put_62 ?_
        refine jj_aload_n C 0 0 dX8_put_63 rfl rfl ?_
        obtain ⟨v9, ev9, hx⟩ := ob hx
        refine jj_getR C fd_X8_9 dX8_put_64 ev9 ?_
        refine jj_iload_n C 1 1 dX8_put_67 rfl rfl ?_
        obtain ⟨v10, ev10, hx⟩ := ob hx
        refine jj_iald C dX8_put_68 ev10 ?_
        refine jj_if_ne (tgt := 77) C dX8_put_69 (by decide) (fun q69 => ?_) (fun q69 => ?_)
        · rw [if_neg q69] at hx
          refine jj_aload_n C 0 0 dX8_put_77 rfl rfl ?_
          obtain ⟨v11, ev11, hx⟩ := ob hx
          refine jj_getR C fd_X8_9 dX8_put_78 ev11 ?_
          refine jj_iload_n C 1 1 dX8_put_81 rfl rfl ?_
          obtain ⟨v12, ev12, hx⟩ := ob hx
          refine jj_iald C dX8_put_82 ev12 ?_
          refine jj_iconst (v := 1) C dX8_put_83 (by decide) ?_
          refine jj_icmp_ne (tgt := 92) C dX8_put_84 (by decide) (fun q84 => ?_) (fun q84 => ?_)
          · rw [if_neg q84] at hx
            refine jj_iload_n C 3 3 dX8_put_92 rfl rfl ?_
            refine jj_sub [] rfl ?_
            exact t_X8_put_93 C F hx
          · rw [if_pos q84] at hx
            refine jj_iload_n C 3 3 dX8_put_87 rfl rfl ?_
            refine jj_i2s C dX8_put_88 ?_
            refine jj_goto (tgt := 93) C dX8_put_89 (by decide) ?_
            refine jj_sub [] rfl ?_
            exact t_X8_put_93 C F hx
        · rw [if_pos q69] at hx
          refine jj_iload_n C 3 3 dX8_put_72 rfl rfl ?_
          refine jj_i2b C dX8_put_73 ?_
          refine jj_goto (tgt := 93) C dX8_put_74 (by decide) ?_
          refine jj_sub [] rfl ?_
          exact t_X8_put_93 C F hx
      · rw [if_pos q44] at hx
        refine jj_aload_n C 0 0 dX8_put_47 rfl rfl ?_
        refine jj_iconst (v := 3) C dX8_put_48 (by decide) ?_
        obtain ⟨v13, ev13, hx⟩ := ob hx
        refine jj_callV C [.int 3] lk_X8_104 (mc_X8_fails X.2.1 G F n ev13) (o_X8_fails ev13) rfl rfl (Nat.le_of_ble_eq_true rfl) ⟨Nat.le_of_ble_eq_true rfl, Nat.le_of_ble_eq_true rfl⟩ ⟨Nat.zero_le _, Nat.zero_le _⟩ rfl dX8_put_49 rfl rfl ?_
        obtain rfl := Option.some.inj hx
        exact jj_iret C dX8_put_52 rfl
    · rw [if_pos q22] at hx
      refine jj_aload_n C 0 0 dX8_put_25 rfl rfl ?_
      refine jj_iconst (v := 1) C dX8_put_26 (by decide) ?_
      obtain ⟨v14, ev14, hx⟩ := ob hx
      refine jj_callV C [.int 1] lk_X8_104 (mc_X8_fails X.2.1 G F n ev14) (o_X8_fails ev14) rfl rfl (Nat.le_of_ble_eq_true rfl) ⟨Nat.le_of_ble_eq_true rfl, Nat.le_of_ble_eq_true rfl⟩ ⟨Nat.zero_le _, Nat.zero_le _⟩ rfl dX8_put_27 rfl rfl ?_
      obtain rfl := Option.some.inj hx
      exact jj_iret C dX8_put_30 rfl
  · rw [if_pos q9] at hx
    refine jj_iconst (v := (-1)) C dX8_put_12 (by decide) ?_
    obtain rfl := Option.some.inj hx
    exact jj_iret C dX8_put_13 rfl
def x_X8_readWord_189 (F : Nat)  (h : pH) (l0 : Nat) (l2 : Int32) : Option (Int32 × pH) :=
  (getR 8 h l0 14).bind fun v1 =>
  (aldI 0 h v1 l2).bind fun v2 =>
  if v2 ≤ 0 then
    some ((0 : Int32), h)
  else
    some ((1 : Int32), h)
theorem t_X8_readWord_189 {X : pX} {G : pG} {n : Nat} {res : (Int32 × pH)} (C : Cx X G RX8 cX8_readWord 4 (rmD 1 0 0) n (some (FieldType.boolean))) (F : Nat) {h : pH} {l0 : Nat} {l2 : Int32} (hx : x_X8_readWord_189 F h l0 l2 = some res) : J X G (0, 0, some (.int res.1), n, res.2) (0, 0, n) h 189 [(0, .ref l0), (2, .int l2)] [] := by
  unfold x_X8_readWord_189 at hx
  refine jj_aload_n C 0 0 dX8_readWord_189 rfl rfl ?_
  obtain ⟨v1, ev1, hx⟩ := ob hx
  refine jj_getR C fd_X8_34 dX8_readWord_190 ev1 ?_
  refine jj_iload_n C 2 1 dX8_readWord_193 rfl rfl ?_
  obtain ⟨v2, ev2, hx⟩ := ob hx
  refine jj_iald C dX8_readWord_194 ev2 ?_
  refine jj_if_le (tgt := 202) C dX8_readWord_195 (by decide) (fun q195 => ?_) (fun q195 => ?_)
  · rw [if_pos q195] at hx
    refine jj_iconst (v := 0) C dX8_readWord_202 (by decide) ?_
    obtain rfl := Option.some.inj hx
    exact jj_zret C (Or.inl rfl) dX8_readWord_203 rfl
  · rw [if_neg q195] at hx
    refine jj_iconst (v := 1) C dX8_readWord_198 (by decide) ?_
    refine jj_goto (tgt := 203) C dX8_readWord_199 (by decide) ?_
    obtain rfl := Option.some.inj hx
    exact jj_zret C (Or.inr rfl) dX8_readWord_203 rfl
def s_X8_readWord_102 (F : Nat)  (l0 : Nat) (l1 : Int32) (l2 : Int32) (k102 : pH → Option (Int32 × pH)) (h : pH) : Option (Int32 × pH) :=
  (getR 8 h l0 14).bind fun v1 =>
  (aldI 0 h v1 l2).bind fun v2 =>
  if 4 ≤ v2 then
    x_X8_readWord_189 F h l0 l2
  else
    (getI 8 h l0 11).bind fun v3 =>
    if l1 ≤ v3 then
      x_X8_readWord_189 F h l0 l2
    else
      (getR 8 h l0 4).bind fun v4 =>
      (getI 8 h l0 11).bind fun v5 =>
      (aldI 0 h v4 v5).bind fun v6 =>
      (x_X8_within F h v6 97 99).bind fun v7 =>
      if v7 = 0 then
        x_X8_readWord_189 F h l0 l2
      else
        (getR 8 h l0 15).bind fun v8 =>
        (getR 8 h l0 14).bind fun v9 =>
        (aldI 0 h v9 l2).bind fun v10 =>
        (getR 8 h l0 4).bind fun v11 =>
        (getI 8 h l0 11).bind fun v12 =>
        (aldI 0 h v11 v12).bind fun v13 =>
        (astI 0 h v8 (((4 : Int32) * l2) + v10) (v13 - (97 : Int32))).bind fun v14 =>
        (getR 8 v14 l0 14).bind fun v15 =>
        (aldI 0 v14 v15 l2).bind fun v16 =>
        (astI 0 v14 v15 l2 (v16 + (1 : Int32))).bind fun v17 =>
        (getI 8 v17 l0 11).bind fun v18 =>
        (putV 8 v17 l0 11 (.int (v18 + (1 : Int32)))).bind fun v19 =>
        k102 v19
def x_X8_readWord_102 (F : Nat)  (l0 : Nat) (l1 : Int32) (l2 : Int32) : Nat → pH → Option (Int32 × pH)
  | 0, _ => none
  | m + 1, h => s_X8_readWord_102 F l0 l1 l2 (x_X8_readWord_102 F l0 l1 l2 m) h
theorem ts_X8_readWord_102 {X : pX} {G : pG} {n : Nat} {res : (Int32 × pH)} (C : Cx X G RX8 cX8_readWord 4 (rmD 1 0 0) n (some (FieldType.boolean))) (F : Nat) {l0 : Nat} {l1 : Int32} {l2 : Int32} {k102 : pH → Option (Int32 × pH)} (hk102 : ∀ (h : pH), k102 h = some res → J X G (0, 0, some (.int res.1), n, res.2) (0, 0, n) h 102 [(0, .ref l0), (1, .int l1), (2, .int l2)] []) {h : pH} (hx : s_X8_readWord_102 F l0 l1 l2 k102 h = some res) : J X G (0, 0, some (.int res.1), n, res.2) (0, 0, n) h 102 [(0, .ref l0), (1, .int l1), (2, .int l2)] [] := by
  unfold s_X8_readWord_102 at hx
  refine jj_aload_n C 0 0 dX8_readWord_102 rfl rfl ?_
  obtain ⟨v1, ev1, hx⟩ := ob hx
  refine jj_getR C fd_X8_34 dX8_readWord_103 ev1 ?_
  refine jj_iload_n C 2 2 dX8_readWord_106 rfl rfl ?_
  obtain ⟨v2, ev2, hx⟩ := ob hx
  refine jj_iald C dX8_readWord_107 ev2 ?_
  refine jj_iconst (v := 4) C dX8_readWord_108 (by decide) ?_
  refine jj_icmp_ge (tgt := 189) C dX8_readWord_109 (by decide) (fun q109 => ?_) (fun q109 => ?_)
  · rw [if_pos q109] at hx
    refine jj_sub [0, 2] rfl ?_
    exact t_X8_readWord_189 C F hx
  · rw [if_neg q109] at hx
    refine jj_aload_n C 0 0 dX8_readWord_112 rfl rfl ?_
    obtain ⟨v3, ev3, hx⟩ := ob hx
    refine jj_getI C fd_X8_90 dX8_readWord_113 ev3 ?_
    refine jj_iload_n C 1 1 dX8_readWord_116 rfl rfl ?_
    refine jj_icmp_ge (tgt := 189) C dX8_readWord_117 (by decide) (fun q117 => ?_) (fun q117 => ?_)
    · rw [if_pos q117] at hx
      refine jj_sub [0, 2] rfl ?_
      exact t_X8_readWord_189 C F hx
    · rw [if_neg q117] at hx
      refine jj_aload_n C 0 0 dX8_readWord_120 rfl rfl ?_
      obtain ⟨v4, ev4, hx⟩ := ob hx
      refine jj_getR C fd_X8_16 dX8_readWord_121 ev4 ?_
      refine jj_aload_n C 0 0 dX8_readWord_124 rfl rfl ?_
      obtain ⟨v5, ev5, hx⟩ := ob hx
      refine jj_getI C fd_X8_90 dX8_readWord_125 ev5 ?_
      obtain ⟨v6, ev6, hx⟩ := ob hx
      refine jj_iald C dX8_readWord_128 ev6 ?_
      refine jj_bipush (v := 97) C dX8_readWord_129 (by decide) ?_
      refine jj_bipush (v := 99) C dX8_readWord_131 (by decide) ?_
      obtain ⟨v7, ev7, hx⟩ := ob hx
      refine jj_callS C [.int v6, .int 97, .int 99] lk_X8_83 (mc_X8_within X.2.1 G F n ev7) rfl rfl (Nat.le_of_ble_eq_true rfl) ⟨Nat.le_of_ble_eq_true rfl, Nat.le_of_ble_eq_true rfl⟩ ⟨Nat.zero_le _, Nat.zero_le _⟩ rfl dX8_readWord_133 rfl rfl ?_
      refine jj_if_eq (tgt := 189) C dX8_readWord_136 (by decide) (fun q136 => ?_) (fun q136 => ?_)
      · rw [if_pos q136] at hx
        refine jj_sub [0, 2] rfl ?_
        exact t_X8_readWord_189 C F hx
      · rw [if_neg q136] at hx
        refine jj_aload_n C 0 0 dX8_readWord_139 rfl rfl ?_
        obtain ⟨v8, ev8, hx⟩ := ob hx
        refine jj_getR C fd_X8_37 dX8_readWord_140 ev8 ?_
        refine jj_iconst (v := 4) C dX8_readWord_143 (by decide) ?_
        refine jj_iload_n C 2 2 dX8_readWord_144 rfl rfl ?_
        refine jj_imul C dX8_readWord_145 ?_
        refine jj_aload_n C 0 0 dX8_readWord_146 rfl rfl ?_
        obtain ⟨v9, ev9, hx⟩ := ob hx
        refine jj_getR C fd_X8_34 dX8_readWord_147 ev9 ?_
        refine jj_iload_n C 2 2 dX8_readWord_150 rfl rfl ?_
        obtain ⟨v10, ev10, hx⟩ := ob hx
        refine jj_iald C dX8_readWord_151 ev10 ?_
        refine jj_iadd C dX8_readWord_152 ?_
        refine jj_aload_n C 0 0 dX8_readWord_153 rfl rfl ?_
        obtain ⟨v11, ev11, hx⟩ := ob hx
        refine jj_getR C fd_X8_16 dX8_readWord_154 ev11 ?_
        refine jj_aload_n C 0 0 dX8_readWord_157 rfl rfl ?_
        obtain ⟨v12, ev12, hx⟩ := ob hx
        refine jj_getI C fd_X8_90 dX8_readWord_158 ev12 ?_
        obtain ⟨v13, ev13, hx⟩ := ob hx
        refine jj_iald C dX8_readWord_161 ev13 ?_
        refine jj_bipush (v := 97) C dX8_readWord_162 (by decide) ?_
        refine jj_isub C dX8_readWord_164 ?_
        obtain ⟨v14, ev14, hx⟩ := ob hx
        refine jj_iast C dX8_readWord_165 ev14 ?_
        refine jj_aload_n C 0 0 dX8_readWord_166 rfl rfl ?_
        obtain ⟨v15, ev15, hx⟩ := ob hx
        refine jj_getR C fd_X8_34 dX8_readWord_167 ev15 ?_
        refine jj_iload_n C 2 2 dX8_readWord_170 rfl rfl ?_
        refine jj_dup2 C dX8_readWord_171 rfl rfl ?_
        obtain ⟨v16, ev16, hx⟩ := ob hx
        refine jj_iald C dX8_readWord_172 ev16 ?_
        refine jj_iconst (v := 1) C dX8_readWord_173 (by decide) ?_
        refine jj_iadd C dX8_readWord_174 ?_
        obtain ⟨v17, ev17, hx⟩ := ob hx
        refine jj_iast C dX8_readWord_175 ev17 ?_
        refine jj_aload_n C 0 0 dX8_readWord_176 rfl rfl ?_
        refine jj_dup C dX8_readWord_177 rfl ?_
        obtain ⟨v18, ev18, hx⟩ := ob hx
        refine jj_getI C fd_X8_90 dX8_readWord_178 ev18 ?_
        refine jj_iconst (v := 1) C dX8_readWord_181 (by decide) ?_
        refine jj_iadd C dX8_readWord_182 ?_
        obtain ⟨v19, ev19, hx⟩ := ob hx
        refine jj_put C fd_X8_90 rfl rfl dX8_readWord_183 ev19 ?_
        refine jj_goto (tgt := 102) C dX8_readWord_186 (by decide) ?_
        exact hk102 _ hx
theorem t_X8_readWord_102 {X : pX} {G : pG} {n : Nat} {res : (Int32 × pH)} (C : Cx X G RX8 cX8_readWord 4 (rmD 1 0 0) n (some (FieldType.boolean))) (F : Nat) {l0 : Nat} {l1 : Int32} {l2 : Int32} : ∀ (m : Nat) (h : pH), x_X8_readWord_102 F l0 l1 l2 m h = some res → J X G (0, 0, some (.int res.1), n, res.2) (0, 0, n) h 102 [(0, .ref l0), (1, .int l1), (2, .int l2)] [] := by
  intro m
  induction m with
  | zero => intro h hx; exact nomatch (show (none : Option (Int32 × pH)) = some res from hx)
  | succ m ih => intro h hx; exact ts_X8_readWord_102 C F  ih hx
def x_X8_readWord_59 (F : Nat)  (h : pH) (l0 : Nat) (l1 : Int32) (l2 : Int32) (s0 : Int32) (s1 : Int32) (s2 : Nat) : Option (Int32 × pH) :=
  (astI 0 h s2 s1 s0).bind fun v1 =>
  (getR 8 v1 l0 13).bind fun v2 =>
  (aldI 0 v1 v2 l2).bind fun v3 =>
  if v3 = ((-9)) then
    some ((0 : Int32), v1)
  else
    (getI 8 v1 l0 11).bind fun v4 =>
    (putV 8 v1 l0 11 (.int (v4 + (1 : Int32)))).bind fun v5 =>
    (x_X8_isSign F v5 l0 l1 47).bind fun v6 =>
    if v6.1 = 0 then
      some ((0 : Int32), v6.2)
    else
      (getR 8 v6.2 l0 14).bind fun v7 =>
      (astI 0 v6.2 v7 l2 0).bind fun v8 =>
      x_X8_readWord_102 F l0 l1 l2 F v8
theorem t_X8_readWord_59 {X : pX} {G : pG} {n : Nat} {res : (Int32 × pH)} (C : Cx X G RX8 cX8_readWord 4 (rmD 1 0 0) n (some (FieldType.boolean))) (F : Nat) {h : pH} {l0 : Nat} {l1 : Int32} {l2 : Int32} {s0 : Int32} {s1 : Int32} {s2 : Nat} (hx : x_X8_readWord_59 F h l0 l1 l2 s0 s1 s2 = some res) : J X G (0, 0, some (.int res.1), n, res.2) (0, 0, n) h 59 [(0, .ref l0), (1, .int l1), (2, .int l2)] [.int s0, .int s1, .ref s2] := by
  unfold x_X8_readWord_59 at hx
  obtain ⟨v1, ev1, hx⟩ := ob hx
  refine jj_iast C dX8_readWord_59 ev1 ?_
  refine jj_aload_n C 0 0 dX8_readWord_60 rfl rfl ?_
  obtain ⟨v2, ev2, hx⟩ := ob hx
  refine jj_getR C fd_X8_31 dX8_readWord_61 ev2 ?_
  refine jj_iload_n C 2 2 dX8_readWord_64 rfl rfl ?_
  obtain ⟨v3, ev3, hx⟩ := ob hx
  refine jj_iald C dX8_readWord_65 ev3 ?_
  refine jj_bipush (v := (-9)) C dX8_readWord_66 (by decide) ?_
  refine jj_icmp_ne (tgt := 73) C dX8_readWord_68 (by decide) (fun q68 => ?_) (fun q68 => ?_)
  · rw [if_neg q68] at hx
    refine jj_aload_n C 0 0 dX8_readWord_73 rfl rfl ?_
    refine jj_dup C dX8_readWord_74 rfl ?_
    obtain ⟨v4, ev4, hx⟩ := ob hx
    refine jj_getI C fd_X8_90 dX8_readWord_75 ev4 ?_
    refine jj_iconst (v := 1) C dX8_readWord_78 (by decide) ?_
    refine jj_iadd C dX8_readWord_79 ?_
    obtain ⟨v5, ev5, hx⟩ := ob hx
    refine jj_put C fd_X8_90 rfl rfl dX8_readWord_80 ev5 ?_
    refine jj_aload_n C 0 0 dX8_readWord_83 rfl rfl ?_
    refine jj_iload_n C 1 1 dX8_readWord_84 rfl rfl ?_
    refine jj_bipush (v := 47) C dX8_readWord_85 (by decide) ?_
    obtain ⟨v6, ev6, hx⟩ := ob hx
    refine jj_callV C [.int l1, .int 47] lk_X8_120 (mc_X8_isSign X.2.1 G F n ev6) (o_X8_isSign ev6) rfl rfl (Nat.le_of_ble_eq_true rfl) ⟨Nat.le_of_ble_eq_true rfl, Nat.le_of_ble_eq_true rfl⟩ ⟨Nat.zero_le _, Nat.zero_le _⟩ rfl dX8_readWord_87 rfl rfl ?_
    refine jj_if_ne (tgt := 95) C dX8_readWord_90 (by decide) (fun q90 => ?_) (fun q90 => ?_)
    · rw [if_neg q90] at hx
      refine jj_aload_n C 0 0 dX8_readWord_95 rfl rfl ?_
      obtain ⟨v7, ev7, hx⟩ := ob hx
      refine jj_getR C fd_X8_34 dX8_readWord_96 ev7 ?_
      refine jj_iload_n C 2 2 dX8_readWord_99 rfl rfl ?_
      refine jj_iconst (v := 0) C dX8_readWord_100 (by decide) ?_
      obtain ⟨v8, ev8, hx⟩ := ob hx
      refine jj_iast C dX8_readWord_101 ev8 ?_
      exact t_X8_readWord_102 C F F _ hx
    · rw [if_pos q90] at hx
      refine jj_iconst (v := 0) C dX8_readWord_93 (by decide) ?_
      obtain rfl := Option.some.inj hx
      exact jj_zret C (Or.inl rfl) dX8_readWord_94 rfl
  · rw [if_pos q68] at hx
    refine jj_iconst (v := 0) C dX8_readWord_71 (by decide) ?_
    obtain rfl := Option.some.inj hx
    exact jj_zret C (Or.inl rfl) dX8_readWord_72 rfl
def x_X8_readWord_21 (F : Nat)  (h : pH) (l0 : Nat) (l1 : Int32) (l2 : Int32) (s0 : Int32) : Option (Int32 × pH) :=
  (getR 8 h l0 13).bind fun v1 =>
  if s0 = 112 then
    x_X8_readWord_59 F h l0 l1 l2 0 l2 v1
  else
    if s0 = 98 then
      x_X8_readWord_59 F h l0 l1 l2 1 l2 v1
    else
      if s0 = 116 then
        x_X8_readWord_59 F h l0 l1 l2 2 l2 v1
      else
        x_X8_readWord_59 F h l0 l1 l2 ((-9)) l2 v1
theorem t_X8_readWord_21 {X : pX} {G : pG} {n : Nat} {res : (Int32 × pH)} (C : Cx X G RX8 cX8_readWord 4 (rmD 1 0 0) n (some (FieldType.boolean))) (F : Nat) {h : pH} {l0 : Nat} {l1 : Int32} {l2 : Int32} {s0 : Int32} (hx : x_X8_readWord_21 F h l0 l1 l2 s0 = some res) : J X G (0, 0, some (.int res.1), n, res.2) (0, 0, n) h 21 [(0, .ref l0), (1, .int l1), (2, .int l2)] [.int s0] := by
  unfold x_X8_readWord_21 at hx
  refine jj_istore_n C 3 dX8_readWord_21 rfl rfl (by decide) ?_
  refine jj_aload_n C 0 1 dX8_readWord_22 rfl rfl ?_
  obtain ⟨v1, ev1, hx⟩ := ob hx
  refine jj_getR C fd_X8_31 dX8_readWord_23 ev1 ?_
  refine jj_iload_n C 2 3 dX8_readWord_26 rfl rfl ?_
  refine jj_iload_n C 3 0 dX8_readWord_27 rfl rfl ?_
  refine jj_bipush (v := 112) C dX8_readWord_28 (by decide) ?_
  refine jj_icmp_ne (tgt := 37) C dX8_readWord_30 (by decide) (fun q30 => ?_) (fun q30 => ?_)
  · rw [if_neg q30] at hx
    refine jj_iload_n C 3 0 dX8_readWord_37 rfl rfl ?_
    refine jj_bipush (v := 98) C dX8_readWord_38 (by decide) ?_
    refine jj_icmp_ne (tgt := 47) C dX8_readWord_40 (by decide) (fun q40 => ?_) (fun q40 => ?_)
    · rw [if_neg q40] at hx
      refine jj_iload_n C 3 0 dX8_readWord_47 rfl rfl ?_
      refine jj_bipush (v := 116) C dX8_readWord_48 (by decide) ?_
      refine jj_icmp_ne (tgt := 57) C dX8_readWord_50 (by decide) (fun q50 => ?_) (fun q50 => ?_)
      · rw [if_neg q50] at hx
        refine jj_bipush (v := (-9)) C dX8_readWord_57 (by decide) ?_
        refine jj_sub [1, 2, 3] rfl ?_
        exact t_X8_readWord_59 C F hx
      · rw [if_pos q50] at hx
        refine jj_iconst (v := 2) C dX8_readWord_53 (by decide) ?_
        refine jj_goto (tgt := 59) C dX8_readWord_54 (by decide) ?_
        refine jj_sub [1, 2, 3] rfl ?_
        exact t_X8_readWord_59 C F hx
    · rw [if_pos q40] at hx
      refine jj_iconst (v := 1) C dX8_readWord_43 (by decide) ?_
      refine jj_goto (tgt := 59) C dX8_readWord_44 (by decide) ?_
      refine jj_sub [1, 2, 3] rfl ?_
      exact t_X8_readWord_59 C F hx
  · rw [if_pos q30] at hx
    refine jj_iconst (v := 0) C dX8_readWord_33 (by decide) ?_
    refine jj_goto (tgt := 59) C dX8_readWord_34 (by decide) ?_
    refine jj_sub [1, 2, 3] rfl ?_
    exact t_X8_readWord_59 C F hx
def x_X8_readWord (F : Nat) (h : pH) (l0 : Nat) (l1 : Int32) (l2 : Int32) : Option (Int32 × pH) :=
  (chk 8 h l0).bind fun _ =>
  (getI 8 h l0 11).bind fun v1 =>
  if l1 ≤ v1 then
    x_X8_readWord_21 F h l0 l1 l2 0
  else
    (getR 8 h l0 4).bind fun v2 =>
    (getI 8 h l0 11).bind fun v3 =>
    (aldI 0 h v2 v3).bind fun v4 =>
    x_X8_readWord_21 F h l0 l1 l2 v4
theorem o_X8_readWord {F : Nat} {h : pH} {l0 : Nat} {l1 : Int32} {l2 : Int32} {res : (Int32 × pH)} (hx : x_X8_readWord F h l0 l1 l2 = some res) : chk 8 h l0 = some () := by
  unfold x_X8_readWord at hx
  obtain ⟨_, e, _⟩ := ob hx
  exact e
theorem mc_X8_readWord (l : Launch) (G : pG) (F n : Nat) {h : pH} {l0 : Nat} {l1 : Int32} {l2 : Int32} {res : (Int32 × pH)} (hx : x_X8_readWord F h l0 l1 l2 = some res) : MC l yX8_readWord cX8_readWord 4 (some (FieldType.boolean)) (rmD 1 0 0) G [.ref l0, .int l1, .int l2] n h (some (.int res.1)) n res.2 := by
  unfold x_X8_readWord at hx
  obtain ⟨_, _, hx⟩ := ob hx
  refine jj_entry RX8 rfl (by decide) (Nat.le_of_ble_eq_true rfl) (fun X _ _ C => ?_)
  show J X G (0, 0, some (.int res.1), n, res.2) (0, 0, n) h 0 [(0, .ref l0), (1, .int l1), (2, .int l2)] []
  refine jj_aload_n C 0 0 dX8_readWord_0 rfl rfl ?_
  obtain ⟨v1, ev1, hx⟩ := ob hx
  refine jj_getI C fd_X8_90 dX8_readWord_1 ev1 ?_
  refine jj_iload_n C 1 1 dX8_readWord_4 rfl rfl ?_
  refine jj_icmp_ge (tgt := 20) C dX8_readWord_5 (by decide) (fun q5 => ?_) (fun q5 => ?_)
  · rw [if_pos q5] at hx
    refine jj_iconst (v := 0) C dX8_readWord_20 (by decide) ?_
    exact t_X8_readWord_21 C F hx
  · rw [if_neg q5] at hx
    refine jj_aload_n C 0 0 dX8_readWord_8 rfl rfl ?_
    obtain ⟨v2, ev2, hx⟩ := ob hx
    refine jj_getR C fd_X8_16 dX8_readWord_9 ev2 ?_
    refine jj_aload_n C 0 0 dX8_readWord_12 rfl rfl ?_
    obtain ⟨v3, ev3, hx⟩ := ob hx
    refine jj_getI C fd_X8_90 dX8_readWord_13 ev3 ?_
    obtain ⟨v4, ev4, hx⟩ := ob hx
    refine jj_iald C dX8_readWord_16 ev4 ?_
    refine jj_goto (tgt := 21) C dX8_readWord_17 (by decide) ?_
    exact t_X8_readWord_21 C F hx
def x_X8_readAll_40 (F : Nat) (k17 : pH → Option (Int32 × pH)) (h : pH) (l0 : Nat) (l1 : Int32) : Option (Int32 × pH) :=
  (x_X8_isSign F h l0 l1 59).bind fun v1 =>
  if v1.1 = 0 then
    some ((0 : Int32), v1.2)
  else
    (getI 8 v1.2 l0 12).bind fun v2 =>
    (x_X8_readWord F v1.2 l0 l1 v2).bind fun v3 =>
    if v3.1 = 0 then
      some ((0 : Int32), v3.2)
    else
      (getI 8 v3.2 l0 12).bind fun v4 =>
      (putV 8 v3.2 l0 12 (.int (v4 + (1 : Int32)))).bind fun v5 =>
      k17 v5
theorem t_X8_readAll_40 {X : pX} {G : pG} {n : Nat} {res : (Int32 × pH)} (C : Cx X G RX8 cX8_readAll 2 (rmD 2 0 0) n (some (FieldType.boolean))) (F : Nat) {h : pH} {l0 : Nat} {l1 : Int32} {k17 : pH → Option (Int32 × pH)} (hk17 : ∀ (h : pH), k17 h = some res → J X G (0, 0, some (.int res.1), n, res.2) (0, 0, n) h 17 [(0, .ref l0), (1, .int l1)] []) (hx : x_X8_readAll_40 F k17 h l0 l1 = some res) : J X G (0, 0, some (.int res.1), n, res.2) (0, 0, n) h 40 [(0, .ref l0), (1, .int l1)] [] := by
  unfold x_X8_readAll_40 at hx
  refine jj_aload_n C 0 0 dX8_readAll_40 rfl rfl ?_
  refine jj_iload_n C 1 1 dX8_readAll_41 rfl rfl ?_
  refine jj_bipush (v := 59) C dX8_readAll_42 (by decide) ?_
  obtain ⟨v1, ev1, hx⟩ := ob hx
  refine jj_callV C [.int l1, .int 59] lk_X8_120 (mc_X8_isSign X.2.1 G F n ev1) (o_X8_isSign ev1) rfl rfl (Nat.le_of_ble_eq_true rfl) ⟨Nat.le_of_ble_eq_true rfl, Nat.le_of_ble_eq_true rfl⟩ ⟨Nat.zero_le _, Nat.zero_le _⟩ rfl dX8_readAll_44 rfl rfl ?_
  refine jj_if_eq (tgt := 62) C dX8_readAll_47 (by decide) (fun q47 => ?_) (fun q47 => ?_)
  · rw [if_pos q47] at hx
    refine jj_iconst (v := 0) C dX8_readAll_62 (by decide) ?_
    obtain rfl := Option.some.inj hx
    exact jj_zret C (Or.inl rfl) dX8_readAll_63 rfl
  · rw [if_neg q47] at hx
    refine jj_aload_n C 0 0 dX8_readAll_50 rfl rfl ?_
    refine jj_iload_n C 1 1 dX8_readAll_51 rfl rfl ?_
    refine jj_aload_n C 0 0 dX8_readAll_52 rfl rfl ?_
    obtain ⟨v2, ev2, hx⟩ := ob hx
    refine jj_getI C fd_X8_111 dX8_readAll_53 ev2 ?_
    obtain ⟨v3, ev3, hx⟩ := ob hx
    refine jj_callV C [.int l1, .int v2] lk_X8_124 (mc_X8_readWord X.2.1 G F n ev3) (o_X8_readWord ev3) rfl rfl (Nat.le_of_ble_eq_true rfl) ⟨Nat.le_of_ble_eq_true rfl, Nat.le_of_ble_eq_true rfl⟩ ⟨Nat.zero_le _, Nat.zero_le _⟩ rfl dX8_readAll_56 rfl rfl ?_
    refine jj_if_ne (tgt := 64) C dX8_readAll_59 (by decide) (fun q59 => ?_) (fun q59 => ?_)
    · rw [if_neg q59] at hx
      refine jj_aload_n C 0 0 dX8_readAll_64 rfl rfl ?_
      refine jj_dup C dX8_readAll_65 rfl ?_
      obtain ⟨v4, ev4, hx⟩ := ob hx
      refine jj_getI C fd_X8_111 dX8_readAll_66 ev4 ?_
      refine jj_iconst (v := 1) C dX8_readAll_69 (by decide) ?_
      refine jj_iadd C dX8_readAll_70 ?_
      obtain ⟨v5, ev5, hx⟩ := ob hx
      refine jj_put C fd_X8_111 rfl rfl dX8_readAll_71 ev5 ?_
      refine jj_goto (tgt := 17) C dX8_readAll_74 (by decide) ?_
      exact hk17 _ hx
    · rw [if_pos q59] at hx
      refine jj_iconst (v := 0) C dX8_readAll_62 (by decide) ?_
      obtain rfl := Option.some.inj hx
      exact jj_zret C (Or.inl rfl) dX8_readAll_63 rfl
def x_X8_readAll_77 (F : Nat)  (h : pH) (l0 : Nat) (l1 : Int32) : Option (Int32 × pH) :=
  (getI 8 h l0 11).bind fun v1 =>
  if v1 = l1 then
    some ((1 : Int32), h)
  else
    some ((0 : Int32), h)
theorem t_X8_readAll_77 {X : pX} {G : pG} {n : Nat} {res : (Int32 × pH)} (C : Cx X G RX8 cX8_readAll 2 (rmD 2 0 0) n (some (FieldType.boolean))) (F : Nat) {h : pH} {l0 : Nat} {l1 : Int32} (hx : x_X8_readAll_77 F h l0 l1 = some res) : J X G (0, 0, some (.int res.1), n, res.2) (0, 0, n) h 77 [(0, .ref l0), (1, .int l1)] [] := by
  unfold x_X8_readAll_77 at hx
  refine jj_aload_n C 0 0 dX8_readAll_77 rfl rfl ?_
  obtain ⟨v1, ev1, hx⟩ := ob hx
  refine jj_getI C fd_X8_90 dX8_readAll_78 ev1 ?_
  refine jj_iload_n C 1 1 dX8_readAll_81 rfl rfl ?_
  refine jj_icmp_ne (tgt := 89) C dX8_readAll_82 (by decide) (fun q82 => ?_) (fun q82 => ?_)
  · rw [if_neg q82] at hx
    refine jj_iconst (v := 0) C dX8_readAll_89 (by decide) ?_
    obtain rfl := Option.some.inj hx
    exact jj_zret C (Or.inl rfl) dX8_readAll_90 rfl
  · rw [if_pos q82] at hx
    refine jj_iconst (v := 1) C dX8_readAll_85 (by decide) ?_
    refine jj_goto (tgt := 90) C dX8_readAll_86 (by decide) ?_
    obtain rfl := Option.some.inj hx
    exact jj_zret C (Or.inr rfl) dX8_readAll_90 rfl
def s_X8_readAll_17 (F : Nat)  (l0 : Nat) (l1 : Int32) (k17 : pH → Option (Int32 × pH)) (h : pH) : Option (Int32 × pH) :=
  (getI 8 h l0 12).bind fun v1 =>
  if v1 = 0 then
    x_X8_readAll_40 F k17 h l0 l1
  else
    (getI 8 h l0 12).bind fun v2 =>
    if 4 ≤ v2 then
      x_X8_readAll_77 F h l0 l1
    else
      (getI 8 h l0 11).bind fun v3 =>
      if l1 ≤ v3 then
        x_X8_readAll_77 F h l0 l1
      else
        x_X8_readAll_40 F k17 h l0 l1
def x_X8_readAll_17 (F : Nat)  (l0 : Nat) (l1 : Int32) : Nat → pH → Option (Int32 × pH)
  | 0, _ => none
  | m + 1, h => s_X8_readAll_17 F l0 l1 (x_X8_readAll_17 F l0 l1 m) h
theorem ts_X8_readAll_17 {X : pX} {G : pG} {n : Nat} {res : (Int32 × pH)} (C : Cx X G RX8 cX8_readAll 2 (rmD 2 0 0) n (some (FieldType.boolean))) (F : Nat) {l0 : Nat} {l1 : Int32} {k17 : pH → Option (Int32 × pH)} (hk17 : ∀ (h : pH), k17 h = some res → J X G (0, 0, some (.int res.1), n, res.2) (0, 0, n) h 17 [(0, .ref l0), (1, .int l1)] []) {h : pH} (hx : s_X8_readAll_17 F l0 l1 k17 h = some res) : J X G (0, 0, some (.int res.1), n, res.2) (0, 0, n) h 17 [(0, .ref l0), (1, .int l1)] [] := by
  unfold s_X8_readAll_17 at hx
  refine jj_aload_n C 0 0 dX8_readAll_17 rfl rfl ?_
  obtain ⟨v1, ev1, hx⟩ := ob hx
  refine jj_getI C fd_X8_111 dX8_readAll_18 ev1 ?_
  refine jj_if_eq (tgt := 40) C dX8_readAll_21 (by decide) (fun q21 => ?_) (fun q21 => ?_)
  · rw [if_pos q21] at hx
    exact t_X8_readAll_40 C F hk17 hx
  · rw [if_neg q21] at hx
    refine jj_aload_n C 0 0 dX8_readAll_24 rfl rfl ?_
    obtain ⟨v2, ev2, hx⟩ := ob hx
    refine jj_getI C fd_X8_111 dX8_readAll_25 ev2 ?_
    refine jj_iconst (v := 4) C dX8_readAll_28 (by decide) ?_
    refine jj_icmp_ge (tgt := 77) C dX8_readAll_29 (by decide) (fun q29 => ?_) (fun q29 => ?_)
    · rw [if_pos q29] at hx
      exact t_X8_readAll_77 C F hx
    · rw [if_neg q29] at hx
      refine jj_aload_n C 0 0 dX8_readAll_32 rfl rfl ?_
      obtain ⟨v3, ev3, hx⟩ := ob hx
      refine jj_getI C fd_X8_90 dX8_readAll_33 ev3 ?_
      refine jj_iload_n C 1 1 dX8_readAll_36 rfl rfl ?_
      refine jj_icmp_ge (tgt := 77) C dX8_readAll_37 (by decide) (fun q37 => ?_) (fun q37 => ?_)
      · rw [if_pos q37] at hx
        exact t_X8_readAll_77 C F hx
      · rw [if_neg q37] at hx
        exact t_X8_readAll_40 C F hk17 hx
theorem t_X8_readAll_17 {X : pX} {G : pG} {n : Nat} {res : (Int32 × pH)} (C : Cx X G RX8 cX8_readAll 2 (rmD 2 0 0) n (some (FieldType.boolean))) (F : Nat) {l0 : Nat} {l1 : Int32} : ∀ (m : Nat) (h : pH), x_X8_readAll_17 F l0 l1 m h = some res → J X G (0, 0, some (.int res.1), n, res.2) (0, 0, n) h 17 [(0, .ref l0), (1, .int l1)] [] := by
  intro m
  induction m with
  | zero => intro h hx; exact nomatch (show (none : Option (Int32 × pH)) = some res from hx)
  | succ m ih => intro h hx; exact ts_X8_readAll_17 C F  ih hx
def x_X8_readAll (F : Nat) (h : pH) (l0 : Nat) (l1 : Int32) : Option (Int32 × pH) :=
  (chk 8 h l0).bind fun _ =>
  (putV 8 h l0 12 (.int 0)).bind fun v1 =>
  (x_X8_isSign F v1 l0 l1 119).bind fun v2 =>
  if v2.1 = 0 then
    some ((0 : Int32), v2.2)
  else
    x_X8_readAll_17 F l0 l1 F v2.2
theorem o_X8_readAll {F : Nat} {h : pH} {l0 : Nat} {l1 : Int32} {res : (Int32 × pH)} (hx : x_X8_readAll F h l0 l1 = some res) : chk 8 h l0 = some () := by
  unfold x_X8_readAll at hx
  obtain ⟨_, e, _⟩ := ob hx
  exact e
theorem mc_X8_readAll (l : Launch) (G : pG) (F n : Nat) {h : pH} {l0 : Nat} {l1 : Int32} {res : (Int32 × pH)} (hx : x_X8_readAll F h l0 l1 = some res) : MC l yX8_readAll cX8_readAll 2 (some (FieldType.boolean)) (rmD 2 0 0) G [.ref l0, .int l1] n h (some (.int res.1)) n res.2 := by
  unfold x_X8_readAll at hx
  obtain ⟨_, _, hx⟩ := ob hx
  refine jj_entry RX8 rfl (by decide) (Nat.le_of_ble_eq_true rfl) (fun X _ _ C => ?_)
  show J X G (0, 0, some (.int res.1), n, res.2) (0, 0, n) h 0 [(0, .ref l0), (1, .int l1)] []
  refine jj_aload_n C 0 0 dX8_readAll_0 rfl rfl ?_
  refine jj_iconst (v := 0) C dX8_readAll_1 (by decide) ?_
  obtain ⟨v1, ev1, hx⟩ := ob hx
  refine jj_put C fd_X8_111 rfl rfl dX8_readAll_2 ev1 ?_
  refine jj_aload_n C 0 0 dX8_readAll_5 rfl rfl ?_
  refine jj_iload_n C 1 1 dX8_readAll_6 rfl rfl ?_
  refine jj_bipush (v := 119) C dX8_readAll_7 (by decide) ?_
  obtain ⟨v2, ev2, hx⟩ := ob hx
  refine jj_callV C [.int l1, .int 119] lk_X8_120 (mc_X8_isSign X.2.1 G F n ev2) (o_X8_isSign ev2) rfl rfl (Nat.le_of_ble_eq_true rfl) ⟨Nat.le_of_ble_eq_true rfl, Nat.le_of_ble_eq_true rfl⟩ ⟨Nat.zero_le _, Nat.zero_le _⟩ rfl dX8_readAll_9 rfl rfl ?_
  refine jj_if_ne (tgt := 17) C dX8_readAll_12 (by decide) (fun q12 => ?_) (fun q12 => ?_)
  · rw [if_neg q12] at hx
    exact t_X8_readAll_17 C F F _ hx
  · rw [if_pos q12] at hx
    refine jj_iconst (v := 0) C dX8_readAll_15 (by decide) ?_
    obtain rfl := Option.some.inj hx
    exact jj_zret C (Or.inl rfl) dX8_readAll_16 rfl
def s_X8_reading_147 (F : Nat)  (l0 : Nat) (l5 : Int32) (l8 : Int32) (k147 : pH → Int32 → Option (Int32 × pH)) (h : pH) (l9 : Int32) : Option (Int32 × pH) :=
  if l5 ≤ l9 then
    (getI 8 h l0 25).bind fun v1 =>
    (putV 8 h l0 25 (.int (v1 + (1 : Int32)))).bind fun v2 =>
    (getI 8 v2 l0 25).bind fun v3 =>
    some ((v3 - (1 : Int32)), v2)
  else
    (getR 8 h l0 29).bind fun v4 =>
    (getI 8 h l0 25).bind fun v5 =>
    (getR 8 h l0 4).bind fun v6 =>
    (aldI 0 h v6 (l8 + l9)).bind fun v7 =>
    (astI 0 h v4 (((8 : Int32) * v5) + l9) v7).bind fun v8 =>
    k147 v8 (l9 + 1)
def x_X8_reading_147 (F : Nat)  (l0 : Nat) (l5 : Int32) (l8 : Int32) : Nat → pH → Int32 → Option (Int32 × pH)
  | 0, _, _ => none
  | m + 1, h, l9 => s_X8_reading_147 F l0 l5 l8 (x_X8_reading_147 F l0 l5 l8 m) h l9
theorem ts_X8_reading_147 {X : pX} {G : pG} {n : Nat} {res : (Int32 × pH)} (C : Cx X G RX8 cX8_reading 10 (rmD 2 0 0) n (some (FieldType.int))) (F : Nat) {l0 : Nat} {l5 : Int32} {l8 : Int32} {k147 : pH → Int32 → Option (Int32 × pH)} (hk147 : ∀ (h : pH) (l9 : Int32), k147 h l9 = some res → J X G (0, 0, some (.int res.1), n, res.2) (0, 0, n) h 147 [(0, .ref l0), (5, .int l5), (8, .int l8), (9, .int l9)] []) {h : pH} {l9 : Int32} (hx : s_X8_reading_147 F l0 l5 l8 k147 h l9 = some res) : J X G (0, 0, some (.int res.1), n, res.2) (0, 0, n) h 147 [(0, .ref l0), (5, .int l5), (8, .int l8), (9, .int l9)] [] := by
  unfold s_X8_reading_147 at hx
  refine jj_iload C 9 3 dX8_reading_147 rfl ?_
  refine jj_iload C 5 1 dX8_reading_149 rfl ?_
  refine jj_icmp_ge (tgt := 185) C dX8_reading_151 (by decide) (fun q151 => ?_) (fun q151 => ?_)
  · rw [if_pos q151] at hx
    refine jj_aload_n C 0 0 dX8_reading_185 rfl rfl ?_
    refine jj_dup C dX8_reading_186 rfl ?_
    obtain ⟨v1, ev1, hx⟩ := ob hx
    refine jj_getI C fd_X8_117 dX8_reading_187 ev1 ?_
    refine jj_iconst (v := 1) C dX8_reading_190 (by decide) ?_
    refine jj_iadd C dX8_reading_191 ?_
    obtain ⟨v2, ev2, hx⟩ := ob hx
    refine jj_put C fd_X8_117 rfl rfl dX8_reading_192 ev2 ?_
    refine jj_aload_n C 0 0 dX8_reading_195 rfl rfl ?_
    obtain ⟨v3, ev3, hx⟩ := ob hx
    refine jj_getI C fd_X8_117 dX8_reading_196 ev3 ?_
    refine jj_iconst (v := 1) C dX8_reading_199 (by decide) ?_
    refine jj_isub C dX8_reading_200 ?_
    obtain rfl := Option.some.inj hx
    exact jj_iret C dX8_reading_201 rfl
  · rw [if_neg q151] at hx
    refine jj_aload_n C 0 0 dX8_reading_154 rfl rfl ?_
    obtain ⟨v4, ev4, hx⟩ := ob hx
    refine jj_getR C fd_X8_74 dX8_reading_155 ev4 ?_
    refine jj_bipush (v := 8) C dX8_reading_158 (by decide) ?_
    refine jj_aload_n C 0 0 dX8_reading_160 rfl rfl ?_
    obtain ⟨v5, ev5, hx⟩ := ob hx
    refine jj_getI C fd_X8_117 dX8_reading_161 ev5 ?_
    refine jj_imul C dX8_reading_164 ?_
    refine jj_iload C 9 3 dX8_reading_165 rfl ?_
    refine jj_iadd C dX8_reading_167 ?_
    refine jj_aload_n C 0 0 dX8_reading_168 rfl rfl ?_
    obtain ⟨v6, ev6, hx⟩ := ob hx
    refine jj_getR C fd_X8_16 dX8_reading_169 ev6 ?_
    refine jj_iload C 8 2 dX8_reading_172 rfl ?_
    refine jj_iload C 9 3 dX8_reading_174 rfl ?_
    refine jj_iadd C dX8_reading_176 ?_
    obtain ⟨v7, ev7, hx⟩ := ob hx
    refine jj_iald C dX8_reading_177 ev7 ?_
    obtain ⟨v8, ev8, hx⟩ := ob hx
    refine jj_iast C dX8_reading_178 ev8 ?_
    refine jj_iinc (v := l9 + 1) C 9 3 dX8_reading_179 rfl rfl rfl (by decide) ?_
    refine jj_goto (tgt := 147) C dX8_reading_182 (by decide) ?_
    refine jj_sub [1, 2, 3, 0] rfl ?_
    exact hk147 _ _ hx
theorem t_X8_reading_147 {X : pX} {G : pG} {n : Nat} {res : (Int32 × pH)} (C : Cx X G RX8 cX8_reading 10 (rmD 2 0 0) n (some (FieldType.int))) (F : Nat) {l0 : Nat} {l5 : Int32} {l8 : Int32} : ∀ (m : Nat) (h : pH) (l9 : Int32), x_X8_reading_147 F l0 l5 l8 m h l9 = some res → J X G (0, 0, some (.int res.1), n, res.2) (0, 0, n) h 147 [(0, .ref l0), (5, .int l5), (8, .int l8), (9, .int l9)] [] := by
  intro m
  induction m with
  | zero => intro h l9 hx; exact nomatch (show (none : Option (Int32 × pH)) = some res from hx)
  | succ m ih => intro h l9 hx; exact ts_X8_reading_147 C F  ih hx
def x_X8_reading (F : Nat) (h : pH) (l0 : Nat) (l1 : Int32) (l2 : Int32) (l3 : Int32) (l4 : Int32) (l5 : Int32) (l6 : Int32) : Option (Int32 × pH) :=
  (chk 8 h l0).bind fun _ =>
  (putV 8 h l0 0 (.int 0)).bind fun v1 =>
  (x_X8_isWord F v1 l0 l1).bind fun v2 =>
  if v2 = 0 then
    some ((-1 : Int32), v1)
  else
    (x_X8_isSheet F v1 l2).bind fun v3 =>
    if v3 = 0 then
      some ((-1 : Int32), v1)
    else
      (x_X8_isSort F v1 l3).bind fun v4 =>
      if v4 = 0 then
        some ((-2 : Int32), v1)
      else
        (x_X8_within F v1 l5 0 8).bind fun v5 =>
        if v5 = 0 then
          some ((-2 : Int32), v1)
        else
          (x_X8_within F v1 l6 0 1).bind fun v6 =>
          if v6 = 0 then
            some ((-2 : Int32), v1)
          else
            (x_X8_against F v1 l0 l2 l3 l4 l5).bind fun v7 =>
            if v7 = 0 then
              (x_X8_areLetters F v1 l0 (((60 : Int32) * l2) + l4) l5).bind fun v8 =>
              if v8 = 0 then
                some ((-2 : Int32), v1)
              else
                (getI 8 v1 l0 25).bind fun v9 =>
                if v9 = 8 then
                  some ((-4 : Int32), v1)
                else
                  (getR 8 v1 l0 26).bind fun v10 =>
                  (getI 8 v1 l0 25).bind fun v11 =>
                  (astI 0 v1 v10 v11 l1).bind fun v12 =>
                  (getR 8 v12 l0 27).bind fun v13 =>
                  (getI 8 v12 l0 25).bind fun v14 =>
                  (astI 0 v12 v13 v14 l5).bind fun v15 =>
                  (getR 8 v15 l0 28).bind fun v16 =>
                  (getI 8 v15 l0 25).bind fun v17 =>
                  (astI 0 v15 v16 v17 l6).bind fun v18 =>
                  x_X8_reading_147 F l0 l5 (((60 : Int32) * l2) + l4) F v18 0
            else
              (x_X8_fails F v1 l0 v7).bind fun v19 =>
              some (v19.1, v19.2)
theorem o_X8_reading {F : Nat} {h : pH} {l0 : Nat} {l1 : Int32} {l2 : Int32} {l3 : Int32} {l4 : Int32} {l5 : Int32} {l6 : Int32} {res : (Int32 × pH)} (hx : x_X8_reading F h l0 l1 l2 l3 l4 l5 l6 = some res) : chk 8 h l0 = some () := by
  unfold x_X8_reading at hx
  obtain ⟨_, e, _⟩ := ob hx
  exact e
theorem mc_X8_reading (l : Launch) (G : pG) (F n : Nat) {h : pH} {l0 : Nat} {l1 : Int32} {l2 : Int32} {l3 : Int32} {l4 : Int32} {l5 : Int32} {l6 : Int32} {res : (Int32 × pH)} (hx : x_X8_reading F h l0 l1 l2 l3 l4 l5 l6 = some res) : MC l yX8_reading cX8_reading 10 (some (FieldType.int)) (rmD 2 0 0) G [.ref l0, .int l1, .int l2, .int l3, .int l4, .int l5, .int l6] n h (some (.int res.1)) n res.2 := by
  unfold x_X8_reading at hx
  obtain ⟨_, _, hx⟩ := ob hx
  refine jj_entry RX8 rfl (by decide) (Nat.le_of_ble_eq_true rfl) (fun X _ _ C => ?_)
  show J X G (0, 0, some (.int res.1), n, res.2) (0, 0, n) h 0 [(0, .ref l0), (1, .int l1), (2, .int l2), (3, .int l3), (4, .int l4), (5, .int l5), (6, .int l6)] []
  refine jj_aload_n C 0 0 dX8_reading_0 rfl rfl ?_
  refine jj_iconst (v := 0) C dX8_reading_1 (by decide) ?_
  obtain ⟨v1, ev1, hx⟩ := ob hx
  refine jj_put C fd_X8_77 rfl rfl dX8_reading_2 ev1 ?_
  refine jj_aload_n C 0 0 dX8_reading_5 rfl rfl ?_
  refine jj_iload_n C 1 1 dX8_reading_6 rfl rfl ?_
  obtain ⟨v2, ev2, hx⟩ := ob hx
  refine jj_callV C [.int l1] lk_X8_139 (mc_X8_isWord X.2.1 G F n ev2) (o_X8_isWord ev2) rfl rfl (Nat.le_of_ble_eq_true rfl) ⟨Nat.le_of_ble_eq_true rfl, Nat.le_of_ble_eq_true rfl⟩ ⟨Nat.zero_le _, Nat.zero_le _⟩ rfl dX8_reading_7 rfl rfl ?_
  refine jj_if_eq (tgt := 20) C dX8_reading_10 (by decide) (fun q10 => ?_) (fun q10 => ?_)
  · rw [if_pos q10] at hx
    refine jj_iconst (v := (-1)) C dX8_reading_20 (by decide) ?_
    obtain rfl := Option.some.inj hx
    exact jj_iret C dX8_reading_21 rfl
  · rw [if_neg q10] at hx
    refine jj_iload_n C 2 2 dX8_reading_13 rfl rfl ?_
    obtain ⟨v3, ev3, hx⟩ := ob hx
    refine jj_callS C [.int l2] lk_X8_93 (mc_X8_isSheet X.2.1 G F n ev3) rfl rfl (Nat.le_of_ble_eq_true rfl) ⟨Nat.le_of_ble_eq_true rfl, Nat.le_of_ble_eq_true rfl⟩ ⟨Nat.zero_le _, Nat.zero_le _⟩ rfl dX8_reading_14 rfl rfl ?_
    refine jj_if_ne (tgt := 22) C dX8_reading_17 (by decide) (fun q17 => ?_) (fun q17 => ?_)
    · rw [if_neg q17] at hx
      refine jj_iload_n C 3 3 dX8_reading_22 rfl rfl ?_
      obtain ⟨v4, ev4, hx⟩ := ob hx
      refine jj_callS C [.int l3] lk_X8_97 (mc_X8_isSort X.2.1 G F n ev4) rfl rfl (Nat.le_of_ble_eq_true rfl) ⟨Nat.le_of_ble_eq_true rfl, Nat.le_of_ble_eq_true rfl⟩ ⟨Nat.zero_le _, Nat.zero_le _⟩ rfl dX8_reading_23 rfl rfl ?_
      refine jj_if_eq (tgt := 50) C dX8_reading_26 (by decide) (fun q26 => ?_) (fun q26 => ?_)
      · rw [if_pos q26] at hx
        refine jj_bipush (v := (-2)) C dX8_reading_50 (by decide) ?_
        obtain rfl := Option.some.inj hx
        exact jj_iret C dX8_reading_52 rfl
      · rw [if_neg q26] at hx
        refine jj_iload C 5 5 dX8_reading_29 rfl ?_
        refine jj_iconst (v := 0) C dX8_reading_31 (by decide) ?_
        refine jj_bipush (v := 8) C dX8_reading_32 (by decide) ?_
        obtain ⟨v5, ev5, hx⟩ := ob hx
        refine jj_callS C [.int l5, .int 0, .int 8] lk_X8_83 (mc_X8_within X.2.1 G F n ev5) rfl rfl (Nat.le_of_ble_eq_true rfl) ⟨Nat.le_of_ble_eq_true rfl, Nat.le_of_ble_eq_true rfl⟩ ⟨Nat.zero_le _, Nat.zero_le _⟩ rfl dX8_reading_34 rfl rfl ?_
        refine jj_if_eq (tgt := 50) C dX8_reading_37 (by decide) (fun q37 => ?_) (fun q37 => ?_)
        · rw [if_pos q37] at hx
          refine jj_bipush (v := (-2)) C dX8_reading_50 (by decide) ?_
          obtain rfl := Option.some.inj hx
          exact jj_iret C dX8_reading_52 rfl
        · rw [if_neg q37] at hx
          refine jj_iload C 6 6 dX8_reading_40 rfl ?_
          refine jj_iconst (v := 0) C dX8_reading_42 (by decide) ?_
          refine jj_iconst (v := 1) C dX8_reading_43 (by decide) ?_
          obtain ⟨v6, ev6, hx⟩ := ob hx
          refine jj_callS C [.int l6, .int 0, .int 1] lk_X8_83 (mc_X8_within X.2.1 G F n ev6) rfl rfl (Nat.le_of_ble_eq_true rfl) ⟨Nat.le_of_ble_eq_true rfl, Nat.le_of_ble_eq_true rfl⟩ ⟨Nat.zero_le _, Nat.zero_le _⟩ rfl dX8_reading_44 rfl rfl ?_
          refine jj_if_ne (tgt := 53) C dX8_reading_47 (by decide) (fun q47 => ?_) (fun q47 => ?_)
          · rw [if_neg q47] at hx
            refine jj_aload_n C 0 0 dX8_reading_53 rfl rfl ?_
            refine jj_iload_n C 2 2 dX8_reading_54 rfl rfl ?_
            refine jj_iload_n C 3 3 dX8_reading_55 rfl rfl ?_
            refine jj_iload C 4 4 dX8_reading_56 rfl ?_
            refine jj_iload C 5 5 dX8_reading_58 rfl ?_
            obtain ⟨v7, ev7, hx⟩ := ob hx
            refine jj_callV C [.int l2, .int l3, .int l4, .int l5] lk_X8_100 (mc_X8_against X.2.1 G F n ev7) (o_X8_against ev7) rfl rfl (Nat.le_of_ble_eq_true rfl) ⟨Nat.le_of_ble_eq_true rfl, Nat.le_of_ble_eq_true rfl⟩ ⟨Nat.zero_le _, Nat.zero_le _⟩ rfl dX8_reading_60 rfl rfl ?_
            refine jj_istore C 7 dX8_reading_63 rfl (by decide) ?_
            refine jj_iload C 7 0 dX8_reading_65 rfl ?_
            refine jj_if_eq (tgt := 77) C dX8_reading_67 (by decide) (fun q67 => ?_) (fun q67 => ?_)
            · rw [if_pos q67] at hx
              refine jj_bipush (v := 60) C dX8_reading_77 (by decide) ?_
              refine jj_iload_n C 2 3 dX8_reading_79 rfl rfl ?_
              refine jj_imul C dX8_reading_80 ?_
              refine jj_iload C 4 5 dX8_reading_81 rfl ?_
              refine jj_iadd C dX8_reading_83 ?_
              refine jj_istore C 8 dX8_reading_84 rfl (by decide) ?_
              refine jj_aload_n C 0 2 dX8_reading_86 rfl rfl ?_
              refine jj_iload C 8 0 dX8_reading_87 rfl ?_
              refine jj_iload C 5 7 dX8_reading_89 rfl ?_
              obtain ⟨v8, ev8, hx⟩ := ob hx
              refine jj_callV C [.int (((60 : Int32) * l2) + l4), .int l5] lk_X8_151 (mc_X8_areLetters X.2.1 G F n ev8) (o_X8_areLetters ev8) rfl rfl (Nat.le_of_ble_eq_true rfl) ⟨Nat.le_of_ble_eq_true rfl, Nat.le_of_ble_eq_true rfl⟩ ⟨Nat.zero_le _, Nat.zero_le _⟩ rfl dX8_reading_91 rfl rfl ?_
              refine jj_if_ne (tgt := 100) C dX8_reading_94 (by decide) (fun q94 => ?_) (fun q94 => ?_)
              · rw [if_neg q94] at hx
                refine jj_aload_n C 0 2 dX8_reading_100 rfl rfl ?_
                obtain ⟨v9, ev9, hx⟩ := ob hx
                refine jj_getI C fd_X8_117 dX8_reading_101 ev9 ?_
                refine jj_bipush (v := 8) C dX8_reading_104 (by decide) ?_
                refine jj_icmp_ne (tgt := 112) C dX8_reading_106 (by decide) (fun q106 => ?_) (fun q106 => ?_)
                · rw [if_neg q106] at hx
                  refine jj_aload_n C 0 2 dX8_reading_112 rfl rfl ?_
                  obtain ⟨v10, ev10, hx⟩ := ob hx
                  refine jj_getR C fd_X8_65 dX8_reading_113 ev10 ?_
                  refine jj_aload_n C 0 2 dX8_reading_116 rfl rfl ?_
                  obtain ⟨v11, ev11, hx⟩ := ob hx
                  refine jj_getI C fd_X8_117 dX8_reading_117 ev11 ?_
                  refine jj_iload_n C 1 3 dX8_reading_120 rfl rfl ?_
                  obtain ⟨v12, ev12, hx⟩ := ob hx
                  refine jj_iast C dX8_reading_121 ev12 ?_
                  refine jj_aload_n C 0 2 dX8_reading_122 rfl rfl ?_
                  obtain ⟨v13, ev13, hx⟩ := ob hx
                  refine jj_getR C fd_X8_68 dX8_reading_123 ev13 ?_
                  refine jj_aload_n C 0 2 dX8_reading_126 rfl rfl ?_
                  obtain ⟨v14, ev14, hx⟩ := ob hx
                  refine jj_getI C fd_X8_117 dX8_reading_127 ev14 ?_
                  refine jj_iload C 5 7 dX8_reading_130 rfl ?_
                  obtain ⟨v15, ev15, hx⟩ := ob hx
                  refine jj_iast C dX8_reading_132 ev15 ?_
                  refine jj_aload_n C 0 2 dX8_reading_133 rfl rfl ?_
                  obtain ⟨v16, ev16, hx⟩ := ob hx
                  refine jj_getR C fd_X8_71 dX8_reading_134 ev16 ?_
                  refine jj_aload_n C 0 2 dX8_reading_137 rfl rfl ?_
                  obtain ⟨v17, ev17, hx⟩ := ob hx
                  refine jj_getI C fd_X8_117 dX8_reading_138 ev17 ?_
                  refine jj_iload C 6 8 dX8_reading_141 rfl ?_
                  obtain ⟨v18, ev18, hx⟩ := ob hx
                  refine jj_iast C dX8_reading_143 ev18 ?_
                  refine jj_iconst (v := 0) C dX8_reading_144 (by decide) ?_
                  refine jj_istore C 9 dX8_reading_145 rfl (by decide) ?_
                  refine jj_sub [3, 8, 1, 0] rfl ?_
                  exact t_X8_reading_147 C F F _ _ hx
                · rw [if_pos q106] at hx
                  refine jj_bipush (v := (-4)) C dX8_reading_109 (by decide) ?_
                  obtain rfl := Option.some.inj hx
                  exact jj_iret C dX8_reading_111 rfl
              · rw [if_pos q94] at hx
                refine jj_bipush (v := (-2)) C dX8_reading_97 (by decide) ?_
                obtain rfl := Option.some.inj hx
                exact jj_iret C dX8_reading_99 rfl
            · rw [if_neg q67] at hx
              refine jj_aload_n C 0 1 dX8_reading_70 rfl rfl ?_
              refine jj_iload C 7 0 dX8_reading_71 rfl ?_
              obtain ⟨v19, ev19, hx⟩ := ob hx
              refine jj_callV C [.int v7] lk_X8_104 (mc_X8_fails X.2.1 G F n ev19) (o_X8_fails ev19) rfl rfl (Nat.le_of_ble_eq_true rfl) ⟨Nat.le_of_ble_eq_true rfl, Nat.le_of_ble_eq_true rfl⟩ ⟨Nat.zero_le _, Nat.zero_le _⟩ rfl dX8_reading_73 rfl rfl ?_
              obtain rfl := Option.some.inj hx
              exact jj_iret C dX8_reading_76 rfl
          · rw [if_pos q47] at hx
            refine jj_bipush (v := (-2)) C dX8_reading_50 (by decide) ?_
            obtain rfl := Option.some.inj hx
            exact jj_iret C dX8_reading_52 rfl
    · rw [if_pos q17] at hx
      refine jj_iconst (v := (-1)) C dX8_reading_20 (by decide) ?_
      obtain rfl := Option.some.inj hx
      exact jj_iret C dX8_reading_21 rfl
def x_X8_row_191 (F : Nat)  (h : pH) (s0 : Int32) (s1 : Nat) : Option (Int32 × pH) :=
  (x_X8_heardBy F h s1 s0).bind fun v1 =>
  some (v1, h)
theorem t_X8_row_191 {X : pX} {G : pG} {n : Nat} {res : (Int32 × pH)} (C : Cx X G RX8 cX8_row 8 (rmD 4 0 0) n (some (FieldType.int))) (F : Nat) {h : pH} {s0 : Int32} {s1 : Nat} (hx : x_X8_row_191 F h s0 s1 = some res) : J X G (0, 0, some (.int res.1), n, res.2) (0, 0, n) h 191 [] [.int s0, .ref s1] := by
  unfold x_X8_row_191 at hx
  obtain ⟨v1, ev1, hx⟩ := ob hx
  refine jj_callV C [.int s0] lk_X8_165 (mc_X8_heardBy X.2.1 G F n ev1) (o_X8_heardBy ev1) rfl rfl (Nat.le_of_ble_eq_true rfl) ⟨Nat.le_of_ble_eq_true rfl, Nat.le_of_ble_eq_true rfl⟩ ⟨Nat.zero_le _, Nat.zero_le _⟩ rfl dX8_row_191 rfl rfl ?_
  obtain rfl := Option.some.inj hx
  exact jj_iret C dX8_row_194 rfl
def x_X8_row_57 (F : Nat)  (h : pH) (l0 : Nat) (l1 : Int32) (l2 : Int32) (l3 : Int32) (l4 : Int32) (l5 : Int32) : Option (Int32 × pH) :=
  (x_X8_against F h l0 l1 l2 l3 l4).bind fun v1 =>
  if v1 = 0 then
    (getI 8 h l0 5).bind fun v2 =>
    if v2 = 0 then
      some ((-3 : Int32), h)
    else
      (x_X8_areLetters F h l0 (((60 : Int32) * l1) + l3) l4).bind fun v3 =>
      if v3 = 0 then
        some ((-2 : Int32), h)
      else
        (x_X8_lookAtCells F h l0 (((60 : Int32) * l1) + l3) l4).bind fun v4 =>
        if l5 < 10 then
          if l5 = 0 then
            (x_X8_standing F v4 l0).bind fun v6 =>
            some (v6, v4)
          else
            if l5 = 3 then
              (x_X8_allHeard F v4 l0).bind fun v5 =>
              some (v5, v4)
            else
              if l5 = 1 then
                x_X8_row_191 F v4 1 l0
              else
                x_X8_row_191 F v4 0 l0
        else
          (x_X8_isWord F v4 l0 (l5 - (10 : Int32))).bind fun v7 =>
          if v7 = 0 then
            some ((-9 : Int32), v4)
          else
            (x_X8_timesHeard F v4 l0 (l5 - (10 : Int32))).bind fun v8 =>
            some (v8, v4)
  else
    (x_X8_fails F h l0 v1).bind fun v9 =>
    some (v9.1, v9.2)
theorem t_X8_row_57 {X : pX} {G : pG} {n : Nat} {res : (Int32 × pH)} (C : Cx X G RX8 cX8_row 8 (rmD 4 0 0) n (some (FieldType.int))) (F : Nat) {h : pH} {l0 : Nat} {l1 : Int32} {l2 : Int32} {l3 : Int32} {l4 : Int32} {l5 : Int32} (hx : x_X8_row_57 F h l0 l1 l2 l3 l4 l5 = some res) : J X G (0, 0, some (.int res.1), n, res.2) (0, 0, n) h 57 [(0, .ref l0), (1, .int l1), (2, .int l2), (3, .int l3), (4, .int l4), (5, .int l5)] [] := by
  unfold x_X8_row_57 at hx
  refine jj_aload_n C 0 0 dX8_row_57 rfl rfl ?_
  refine jj_iload_n C 1 1 dX8_row_58 rfl rfl ?_
  refine jj_iload_n C 2 2 dX8_row_59 rfl rfl ?_
  refine jj_iload_n C 3 3 dX8_row_60 rfl rfl ?_
  refine jj_iload C 4 4 dX8_row_61 rfl ?_
  obtain ⟨v1, ev1, hx⟩ := ob hx
  refine jj_callV C [.int l1, .int l2, .int l3, .int l4] lk_X8_100 (mc_X8_against X.2.1 G F n ev1) (o_X8_against ev1) rfl rfl (Nat.le_of_ble_eq_true rfl) ⟨Nat.le_of_ble_eq_true rfl, Nat.le_of_ble_eq_true rfl⟩ ⟨Nat.zero_le _, Nat.zero_le _⟩ rfl dX8_row_63 rfl rfl ?_
  refine jj_istore C 6 dX8_row_66 rfl (by decide) ?_
  refine jj_iload C 6 0 dX8_row_68 rfl ?_
  refine jj_if_eq (tgt := 80) C dX8_row_70 (by decide) (fun q70 => ?_) (fun q70 => ?_)
  · rw [if_pos q70] at hx
    refine jj_aload_n C 0 1 dX8_row_80 rfl rfl ?_
    obtain ⟨v2, ev2, hx⟩ := ob hx
    refine jj_getI C fd_X8_87 dX8_row_81 ev2 ?_
    refine jj_if_ne (tgt := 90) C dX8_row_84 (by decide) (fun q84 => ?_) (fun q84 => ?_)
    · rw [if_neg q84] at hx
      refine jj_bipush (v := 60) C dX8_row_90 (by decide) ?_
      refine jj_iload_n C 1 2 dX8_row_92 rfl rfl ?_
      refine jj_imul C dX8_row_93 ?_
      refine jj_iload_n C 3 4 dX8_row_94 rfl rfl ?_
      refine jj_iadd C dX8_row_95 ?_
      refine jj_istore C 7 dX8_row_96 rfl (by decide) ?_
      refine jj_aload_n C 0 2 dX8_row_98 rfl rfl ?_
      refine jj_iload C 7 0 dX8_row_99 rfl ?_
      refine jj_iload C 4 6 dX8_row_101 rfl ?_
      obtain ⟨v3, ev3, hx⟩ := ob hx
      refine jj_callV C [.int (((60 : Int32) * l1) + l3), .int l4] lk_X8_151 (mc_X8_areLetters X.2.1 G F n ev3) (o_X8_areLetters ev3) rfl rfl (Nat.le_of_ble_eq_true rfl) ⟨Nat.le_of_ble_eq_true rfl, Nat.le_of_ble_eq_true rfl⟩ ⟨Nat.zero_le _, Nat.zero_le _⟩ rfl dX8_row_103 rfl rfl ?_
      refine jj_if_ne (tgt := 112) C dX8_row_106 (by decide) (fun q106 => ?_) (fun q106 => ?_)
      · rw [if_neg q106] at hx
        refine jj_aload_n C 0 2 dX8_row_112 rfl rfl ?_
        refine jj_iload C 7 0 dX8_row_113 rfl ?_
        refine jj_iload C 4 6 dX8_row_115 rfl ?_
        obtain ⟨v4, ev4, hx⟩ := ob hx
        refine jj_callV C [.int (((60 : Int32) * l1) + l3), .int l4] lk_X8_154 (mc_X8_lookAtCells X.2.1 G F n ev4) (o_X8_lookAtCells ev4) rfl rfl (Nat.le_of_ble_eq_true rfl) ⟨Nat.le_of_ble_eq_true rfl, Nat.le_of_ble_eq_true rfl⟩ ⟨Nat.zero_le _, Nat.zero_le _⟩ rfl dX8_row_117 rfl rfl ?_
        refine jj_iload C 5 7 dX8_row_120 rfl ?_
        refine jj_bipush (v := 10) C dX8_row_122 (by decide) ?_
        refine jj_icmp_lt (tgt := 154) C dX8_row_124 (by decide) (fun q124 => ?_) (fun q124 => ?_)
        · rw [if_pos q124] at hx
          refine jj_iload C 5 7 dX8_row_154 rfl ?_
          refine jj_if_ne (tgt := 166) C dX8_row_156 (by decide) (fun q156 => ?_) (fun q156 => ?_)
          · rw [if_neg q156] at hx
            refine jj_iload C 5 7 dX8_row_166 rfl ?_
            refine jj_iconst (v := 3) C dX8_row_168 (by decide) ?_
            refine jj_icmp_ne (tgt := 179) C dX8_row_169 (by decide) (fun q169 => ?_) (fun q169 => ?_)
            · rw [if_neg q169] at hx
              refine jj_aload_n C 0 2 dX8_row_179 rfl rfl ?_
              refine jj_iload C 5 7 dX8_row_180 rfl ?_
              refine jj_iconst (v := 1) C dX8_row_182 (by decide) ?_
              refine jj_icmp_ne (tgt := 190) C dX8_row_183 (by decide) (fun q183 => ?_) (fun q183 => ?_)
              · rw [if_neg q183] at hx
                refine jj_iconst (v := 0) C dX8_row_190 (by decide) ?_
                refine jj_sub [] rfl ?_
                exact t_X8_row_191 C F hx
              · rw [if_pos q183] at hx
                refine jj_iconst (v := 1) C dX8_row_186 (by decide) ?_
                refine jj_goto (tgt := 191) C dX8_row_187 (by decide) ?_
                refine jj_sub [] rfl ?_
                exact t_X8_row_191 C F hx
            · rw [if_pos q169] at hx
              refine jj_aload_n C 0 2 dX8_row_172 rfl rfl ?_
              obtain ⟨v5, ev5, hx⟩ := ob hx
              refine jj_callV C [] lk_X8_162 (mc_X8_allHeard X.2.1 G F n ev5) (o_X8_allHeard ev5) rfl rfl (Nat.le_of_ble_eq_true rfl) ⟨Nat.le_of_ble_eq_true rfl, Nat.le_of_ble_eq_true rfl⟩ ⟨Nat.zero_le _, Nat.zero_le _⟩ rfl dX8_row_173 rfl rfl ?_
              refine jj_goto (tgt := 194) C dX8_row_176 (by decide) ?_
              obtain rfl := Option.some.inj hx
              exact jj_iret C dX8_row_194 rfl
          · rw [if_pos q156] at hx
            refine jj_aload_n C 0 2 dX8_row_159 rfl rfl ?_
            obtain ⟨v6, ev6, hx⟩ := ob hx
            refine jj_callV C [] lk_X8_158 (mc_X8_standing X.2.1 G F n ev6) (o_X8_standing ev6) rfl rfl (Nat.le_of_ble_eq_true rfl) ⟨Nat.le_of_ble_eq_true rfl, Nat.le_of_ble_eq_true rfl⟩ ⟨Nat.zero_le _, Nat.zero_le _⟩ rfl dX8_row_160 rfl rfl ?_
            refine jj_goto (tgt := 194) C dX8_row_163 (by decide) ?_
            obtain rfl := Option.some.inj hx
            exact jj_iret C dX8_row_194 rfl
        · rw [if_neg q124] at hx
          refine jj_aload_n C 0 2 dX8_row_127 rfl rfl ?_
          refine jj_iload C 5 7 dX8_row_128 rfl ?_
          refine jj_bipush (v := 10) C dX8_row_130 (by decide) ?_
          refine jj_isub C dX8_row_132 ?_
          obtain ⟨v7, ev7, hx⟩ := ob hx
          refine jj_callV C [.int (l5 - (10 : Int32))] lk_X8_139 (mc_X8_isWord X.2.1 G F n ev7) (o_X8_isWord ev7) rfl rfl (Nat.le_of_ble_eq_true rfl) ⟨Nat.le_of_ble_eq_true rfl, Nat.le_of_ble_eq_true rfl⟩ ⟨Nat.zero_le _, Nat.zero_le _⟩ rfl dX8_row_133 rfl rfl ?_
          refine jj_if_eq (tgt := 151) C dX8_row_136 (by decide) (fun q136 => ?_) (fun q136 => ?_)
          · rw [if_pos q136] at hx
            refine jj_bipush (v := (-9)) C dX8_row_151 (by decide) ?_
            obtain rfl := Option.some.inj hx
            exact jj_iret C dX8_row_153 rfl
          · rw [if_neg q136] at hx
            refine jj_aload_n C 0 2 dX8_row_139 rfl rfl ?_
            refine jj_iload C 5 7 dX8_row_140 rfl ?_
            refine jj_bipush (v := 10) C dX8_row_142 (by decide) ?_
            refine jj_isub C dX8_row_144 ?_
            obtain ⟨v8, ev8, hx⟩ := ob hx
            refine jj_callV C [.int (l5 - (10 : Int32))] lk_X8_136 (mc_X8_timesHeard X.2.1 G F n ev8) (o_X8_timesHeard ev8) rfl rfl (Nat.le_of_ble_eq_true rfl) ⟨Nat.le_of_ble_eq_true rfl, Nat.le_of_ble_eq_true rfl⟩ ⟨Nat.zero_le _, Nat.zero_le _⟩ rfl dX8_row_145 rfl rfl ?_
            refine jj_goto (tgt := 153) C dX8_row_148 (by decide) ?_
            obtain rfl := Option.some.inj hx
            exact jj_iret C dX8_row_153 rfl
      · rw [if_pos q106] at hx
        refine jj_bipush (v := (-2)) C dX8_row_109 (by decide) ?_
        obtain rfl := Option.some.inj hx
        exact jj_iret C dX8_row_111 rfl
    · rw [if_pos q84] at hx
      refine jj_bipush (v := (-3)) C dX8_row_87 (by decide) ?_
      obtain rfl := Option.some.inj hx
      exact jj_iret C dX8_row_89 rfl
  · rw [if_neg q70] at hx
    refine jj_aload_n C 0 1 dX8_row_73 rfl rfl ?_
    refine jj_iload C 6 0 dX8_row_74 rfl ?_
    obtain ⟨v9, ev9, hx⟩ := ob hx
    refine jj_callV C [.int v1] lk_X8_104 (mc_X8_fails X.2.1 G F n ev9) (o_X8_fails ev9) rfl rfl (Nat.le_of_ble_eq_true rfl) ⟨Nat.le_of_ble_eq_true rfl, Nat.le_of_ble_eq_true rfl⟩ ⟨Nat.zero_le _, Nat.zero_le _⟩ rfl dX8_row_76 rfl rfl ?_
    obtain rfl := Option.some.inj hx
    exact jj_iret C dX8_row_79 rfl
def x_X8_row (F : Nat) (h : pH) (l0 : Nat) (l1 : Int32) (l2 : Int32) (l3 : Int32) (l4 : Int32) (l5 : Int32) : Option (Int32 × pH) :=
  (chk 8 h l0).bind fun _ =>
  (putV 8 h l0 0 (.int 0)).bind fun v1 =>
  (x_X8_isSheet F v1 l1).bind fun v2 =>
  if v2 = 0 then
    some ((-1 : Int32), v1)
  else
    (x_X8_isSort F v1 l2).bind fun v3 =>
    if v3 = 0 then
      some ((-2 : Int32), v1)
    else
      (x_X8_within F v1 l4 0 40).bind fun v4 =>
      if v4 = 0 then
        some ((-2 : Int32), v1)
      else
        (x_X8_within F v1 l5 0 3).bind fun v5 =>
        if v5 = 0 then
          (x_X8_within F v1 l5 10 13).bind fun v6 =>
          if v6 = 0 then
            some ((-2 : Int32), v1)
          else
            x_X8_row_57 F v1 l0 l1 l2 l3 l4 l5
        else
          x_X8_row_57 F v1 l0 l1 l2 l3 l4 l5
theorem o_X8_row {F : Nat} {h : pH} {l0 : Nat} {l1 : Int32} {l2 : Int32} {l3 : Int32} {l4 : Int32} {l5 : Int32} {res : (Int32 × pH)} (hx : x_X8_row F h l0 l1 l2 l3 l4 l5 = some res) : chk 8 h l0 = some () := by
  unfold x_X8_row at hx
  obtain ⟨_, e, _⟩ := ob hx
  exact e
theorem mc_X8_row (l : Launch) (G : pG) (F n : Nat) {h : pH} {l0 : Nat} {l1 : Int32} {l2 : Int32} {l3 : Int32} {l4 : Int32} {l5 : Int32} {res : (Int32 × pH)} (hx : x_X8_row F h l0 l1 l2 l3 l4 l5 = some res) : MC l yX8_row cX8_row 8 (some (FieldType.int)) (rmD 4 0 0) G [.ref l0, .int l1, .int l2, .int l3, .int l4, .int l5] n h (some (.int res.1)) n res.2 := by
  unfold x_X8_row at hx
  obtain ⟨_, _, hx⟩ := ob hx
  refine jj_entry RX8 rfl (by decide) (Nat.le_of_ble_eq_true rfl) (fun X _ _ C => ?_)
  show J X G (0, 0, some (.int res.1), n, res.2) (0, 0, n) h 0 [(0, .ref l0), (1, .int l1), (2, .int l2), (3, .int l3), (4, .int l4), (5, .int l5)] []
  refine jj_aload_n C 0 0 dX8_row_0 rfl rfl ?_
  refine jj_iconst (v := 0) C dX8_row_1 (by decide) ?_
  obtain ⟨v1, ev1, hx⟩ := ob hx
  refine jj_put C fd_X8_77 rfl rfl dX8_row_2 ev1 ?_
  refine jj_iload_n C 1 1 dX8_row_5 rfl rfl ?_
  obtain ⟨v2, ev2, hx⟩ := ob hx
  refine jj_callS C [.int l1] lk_X8_93 (mc_X8_isSheet X.2.1 G F n ev2) rfl rfl (Nat.le_of_ble_eq_true rfl) ⟨Nat.le_of_ble_eq_true rfl, Nat.le_of_ble_eq_true rfl⟩ ⟨Nat.zero_le _, Nat.zero_le _⟩ rfl dX8_row_6 rfl rfl ?_
  refine jj_if_ne (tgt := 14) C dX8_row_9 (by decide) (fun q9 => ?_) (fun q9 => ?_)
  · rw [if_neg q9] at hx
    refine jj_iload_n C 2 2 dX8_row_14 rfl rfl ?_
    obtain ⟨v3, ev3, hx⟩ := ob hx
    refine jj_callS C [.int l2] lk_X8_97 (mc_X8_isSort X.2.1 G F n ev3) rfl rfl (Nat.le_of_ble_eq_true rfl) ⟨Nat.le_of_ble_eq_true rfl, Nat.le_of_ble_eq_true rfl⟩ ⟨Nat.zero_le _, Nat.zero_le _⟩ rfl dX8_row_15 rfl rfl ?_
    refine jj_if_eq (tgt := 54) C dX8_row_18 (by decide) (fun q18 => ?_) (fun q18 => ?_)
    · rw [if_pos q18] at hx
      refine jj_bipush (v := (-2)) C dX8_row_54 (by decide) ?_
      obtain rfl := Option.some.inj hx
      exact jj_iret C dX8_row_56 rfl
    · rw [if_neg q18] at hx
      refine jj_iload C 4 4 dX8_row_21 rfl ?_
      refine jj_iconst (v := 0) C dX8_row_23 (by decide) ?_
      refine jj_bipush (v := 40) C dX8_row_24 (by decide) ?_
      obtain ⟨v4, ev4, hx⟩ := ob hx
      refine jj_callS C [.int l4, .int 0, .int 40] lk_X8_83 (mc_X8_within X.2.1 G F n ev4) rfl rfl (Nat.le_of_ble_eq_true rfl) ⟨Nat.le_of_ble_eq_true rfl, Nat.le_of_ble_eq_true rfl⟩ ⟨Nat.zero_le _, Nat.zero_le _⟩ rfl dX8_row_26 rfl rfl ?_
      refine jj_if_eq (tgt := 54) C dX8_row_29 (by decide) (fun q29 => ?_) (fun q29 => ?_)
      · rw [if_pos q29] at hx
        refine jj_bipush (v := (-2)) C dX8_row_54 (by decide) ?_
        obtain rfl := Option.some.inj hx
        exact jj_iret C dX8_row_56 rfl
      · rw [if_neg q29] at hx
        refine jj_iload C 5 5 dX8_row_32 rfl ?_
        refine jj_iconst (v := 0) C dX8_row_34 (by decide) ?_
        refine jj_iconst (v := 3) C dX8_row_35 (by decide) ?_
        obtain ⟨v5, ev5, hx⟩ := ob hx
        refine jj_callS C [.int l5, .int 0, .int 3] lk_X8_83 (mc_X8_within X.2.1 G F n ev5) rfl rfl (Nat.le_of_ble_eq_true rfl) ⟨Nat.le_of_ble_eq_true rfl, Nat.le_of_ble_eq_true rfl⟩ ⟨Nat.zero_le _, Nat.zero_le _⟩ rfl dX8_row_36 rfl rfl ?_
        refine jj_if_ne (tgt := 57) C dX8_row_39 (by decide) (fun q39 => ?_) (fun q39 => ?_)
        · rw [if_neg q39] at hx
          exact t_X8_row_57 C F hx
        · rw [if_pos q39] at hx
          refine jj_iload C 5 5 dX8_row_42 rfl ?_
          refine jj_bipush (v := 10) C dX8_row_44 (by decide) ?_
          refine jj_bipush (v := 13) C dX8_row_46 (by decide) ?_
          obtain ⟨v6, ev6, hx⟩ := ob hx
          refine jj_callS C [.int l5, .int 10, .int 13] lk_X8_83 (mc_X8_within X.2.1 G F n ev6) rfl rfl (Nat.le_of_ble_eq_true rfl) ⟨Nat.le_of_ble_eq_true rfl, Nat.le_of_ble_eq_true rfl⟩ ⟨Nat.zero_le _, Nat.zero_le _⟩ rfl dX8_row_48 rfl rfl ?_
          refine jj_if_ne (tgt := 57) C dX8_row_51 (by decide) (fun q51 => ?_) (fun q51 => ?_)
          · rw [if_neg q51] at hx
            exact t_X8_row_57 C F hx
          · rw [if_pos q51] at hx
            refine jj_bipush (v := (-2)) C dX8_row_54 (by decide) ?_
            obtain rfl := Option.some.inj hx
            exact jj_iret C dX8_row_56 rfl
  · rw [if_pos q9] at hx
    refine jj_iconst (v := (-1)) C dX8_row_12 (by decide) ?_
    obtain rfl := Option.some.inj hx
    exact jj_iret C dX8_row_13 rfl
def x_X8_say (F : Nat) (h : pH) (l0 : Nat) (l1 : Int32) : Option (Int32 × pH) :=
  (chk 8 h l0).bind fun _ =>
  (x_X8_within F h l1 0 2).bind fun v1 =>
  if v1 = 0 then
    some ((-2 : Int32), h)
  else
    (getI 8 h l0 5).bind fun v2 =>
    if v2 = 0 then
      some ((-3 : Int32), h)
    else
      (getI 8 h l0 6).bind fun v3 =>
      if v3 = 60 then
        some ((-4 : Int32), h)
      else
        (getR 8 h l0 10).bind fun v4 =>
        (getI 8 h l0 6).bind fun v5 =>
        (astI 0 h v4 v5 l1).bind fun v6 =>
        (getI 8 v6 l0 6).bind fun v7 =>
        (putV 8 v6 l0 6 (.int (v7 + (1 : Int32)))).bind fun v8 =>
        (x_X8_lookAtSaid F v8 l0).bind fun v9 =>
        (getI 8 v9 l0 6).bind fun v10 =>
        (x_X8_heardBehind F v9 l0 v10).bind fun v11 =>
        some (v11, v9)
theorem o_X8_say {F : Nat} {h : pH} {l0 : Nat} {l1 : Int32} {res : (Int32 × pH)} (hx : x_X8_say F h l0 l1 = some res) : chk 8 h l0 = some () := by
  unfold x_X8_say at hx
  obtain ⟨_, e, _⟩ := ob hx
  exact e
theorem mc_X8_say (l : Launch) (G : pG) (F n : Nat) {h : pH} {l0 : Nat} {l1 : Int32} {res : (Int32 × pH)} (hx : x_X8_say F h l0 l1 = some res) : MC l yX8_say cX8_say 2 (some (FieldType.int)) (rmD 3 0 0) G [.ref l0, .int l1] n h (some (.int res.1)) n res.2 := by
  unfold x_X8_say at hx
  obtain ⟨_, _, hx⟩ := ob hx
  refine jj_entry RX8 rfl (by decide) (Nat.le_of_ble_eq_true rfl) (fun X _ _ C => ?_)
  show J X G (0, 0, some (.int res.1), n, res.2) (0, 0, n) h 0 [(0, .ref l0), (1, .int l1)] []
  refine jj_iload_n C 1 1 dX8_say_0 rfl rfl ?_
  refine jj_iconst (v := 0) C dX8_say_1 (by decide) ?_
  refine jj_iconst (v := 2) C dX8_say_2 (by decide) ?_
  obtain ⟨v1, ev1, hx⟩ := ob hx
  refine jj_callS C [.int l1, .int 0, .int 2] lk_X8_83 (mc_X8_within X.2.1 G F n ev1) rfl rfl (Nat.le_of_ble_eq_true rfl) ⟨Nat.le_of_ble_eq_true rfl, Nat.le_of_ble_eq_true rfl⟩ ⟨Nat.zero_le _, Nat.zero_le _⟩ rfl dX8_say_3 rfl rfl ?_
  refine jj_if_ne (tgt := 12) C dX8_say_6 (by decide) (fun q6 => ?_) (fun q6 => ?_)
  · rw [if_neg q6] at hx
    refine jj_aload_n C 0 0 dX8_say_12 rfl rfl ?_
    obtain ⟨v2, ev2, hx⟩ := ob hx
    refine jj_getI C fd_X8_87 dX8_say_13 ev2 ?_
    refine jj_if_ne (tgt := 22) C dX8_say_16 (by decide) (fun q16 => ?_) (fun q16 => ?_)
    · rw [if_neg q16] at hx
      refine jj_aload_n C 0 0 dX8_say_22 rfl rfl ?_
      obtain ⟨v3, ev3, hx⟩ := ob hx
      refine jj_getI C fd_X8_114 dX8_say_23 ev3 ?_
      refine jj_bipush (v := 60) C dX8_say_26 (by decide) ?_
      refine jj_icmp_ne (tgt := 34) C dX8_say_28 (by decide) (fun q28 => ?_) (fun q28 => ?_)
      · rw [if_neg q28] at hx
        refine jj_aload_n C 0 0 dX8_say_34 rfl rfl ?_
        obtain ⟨v4, ev4, hx⟩ := ob hx
        refine jj_getR C fd_X8_28 dX8_say_35 ev4 ?_
        refine jj_aload_n C 0 0 dX8_say_38 rfl rfl ?_
        obtain ⟨v5, ev5, hx⟩ := ob hx
        refine jj_getI C fd_X8_114 dX8_say_39 ev5 ?_
        refine jj_iload_n C 1 1 dX8_say_42 rfl rfl ?_
        obtain ⟨v6, ev6, hx⟩ := ob hx
        refine jj_iast C dX8_say_43 ev6 ?_
        refine jj_aload_n C 0 0 dX8_say_44 rfl rfl ?_
        refine jj_dup C dX8_say_45 rfl ?_
        obtain ⟨v7, ev7, hx⟩ := ob hx
        refine jj_getI C fd_X8_114 dX8_say_46 ev7 ?_
        refine jj_iconst (v := 1) C dX8_say_49 (by decide) ?_
        refine jj_iadd C dX8_say_50 ?_
        obtain ⟨v8, ev8, hx⟩ := ob hx
        refine jj_put C fd_X8_114 rfl rfl dX8_say_51 ev8 ?_
        refine jj_aload_n C 0 0 dX8_say_54 rfl rfl ?_
        obtain ⟨v9, ev9, hx⟩ := ob hx
        refine jj_callV C [] lk_X8_145 (mc_X8_lookAtSaid X.2.1 G F n ev9) (o_X8_lookAtSaid ev9) rfl rfl (Nat.le_of_ble_eq_true rfl) ⟨Nat.le_of_ble_eq_true rfl, Nat.le_of_ble_eq_true rfl⟩ ⟨Nat.zero_le _, Nat.zero_le _⟩ rfl dX8_say_55 rfl rfl ?_
        refine jj_aload_n C 0 0 dX8_say_58 rfl rfl ?_
        refine jj_aload_n C 0 0 dX8_say_59 rfl rfl ?_
        obtain ⟨v10, ev10, hx⟩ := ob hx
        refine jj_getI C fd_X8_114 dX8_say_60 ev10 ?_
        obtain ⟨v11, ev11, hx⟩ := ob hx
        refine jj_callV C [.int v10] lk_X8_148 (mc_X8_heardBehind X.2.1 G F n ev11) (o_X8_heardBehind ev11) rfl rfl (Nat.le_of_ble_eq_true rfl) ⟨Nat.le_of_ble_eq_true rfl, Nat.le_of_ble_eq_true rfl⟩ ⟨Nat.zero_le _, Nat.zero_le _⟩ rfl dX8_say_63 rfl rfl ?_
        obtain rfl := Option.some.inj hx
        exact jj_iret C dX8_say_66 rfl
      · rw [if_pos q28] at hx
        refine jj_bipush (v := (-4)) C dX8_say_31 (by decide) ?_
        obtain rfl := Option.some.inj hx
        exact jj_iret C dX8_say_33 rfl
    · rw [if_pos q16] at hx
      refine jj_bipush (v := (-3)) C dX8_say_19 (by decide) ?_
      obtain rfl := Option.some.inj hx
      exact jj_iret C dX8_say_21 rfl
  · rw [if_pos q6] at hx
    refine jj_bipush (v := (-2)) C dX8_say_9 (by decide) ?_
    obtain rfl := Option.some.inj hx
    exact jj_iret C dX8_say_11 rfl
def s_X8_sheet_57 (F : Nat)  (l0 : Nat) (l1 : Int32) (k57 : pH → Int32 → Option (Int32 × pH)) (h : pH) (l4 : Int32) : Option (Int32 × pH) :=
  if 60 ≤ l4 then
    some ((1 : Int32), h)
  else
    (getR 8 h l0 4).bind fun v1 =>
    (astI 0 h v1 (((60 : Int32) * l1) + l4) 0).bind fun v2 =>
    k57 v2 (l4 + 1)
def x_X8_sheet_57 (F : Nat)  (l0 : Nat) (l1 : Int32) : Nat → pH → Int32 → Option (Int32 × pH)
  | 0, _, _ => none
  | m + 1, h, l4 => s_X8_sheet_57 F l0 l1 (x_X8_sheet_57 F l0 l1 m) h l4
theorem ts_X8_sheet_57 {X : pX} {G : pG} {n : Nat} {res : (Int32 × pH)} (C : Cx X G RX8 cX8_sheet 5 (rmD 2 0 0) n (some (FieldType.int))) (F : Nat) {l0 : Nat} {l1 : Int32} {k57 : pH → Int32 → Option (Int32 × pH)} (hk57 : ∀ (h : pH) (l4 : Int32), k57 h l4 = some res → J X G (0, 0, some (.int res.1), n, res.2) (0, 0, n) h 57 [(0, .ref l0), (1, .int l1), (4, .int l4)] []) {h : pH} {l4 : Int32} (hx : s_X8_sheet_57 F l0 l1 k57 h l4 = some res) : J X G (0, 0, some (.int res.1), n, res.2) (0, 0, n) h 57 [(0, .ref l0), (1, .int l1), (4, .int l4)] [] := by
  unfold s_X8_sheet_57 at hx
  refine jj_iload C 4 2 dX8_sheet_57 rfl ?_
  refine jj_bipush (v := 60) C dX8_sheet_59 (by decide) ?_
  refine jj_icmp_ge (tgt := 83) C dX8_sheet_61 (by decide) (fun q61 => ?_) (fun q61 => ?_)
  · rw [if_pos q61] at hx
    refine jj_iconst (v := 1) C dX8_sheet_83 (by decide) ?_
    obtain rfl := Option.some.inj hx
    exact jj_iret C dX8_sheet_84 rfl
  · rw [if_neg q61] at hx
    refine jj_aload_n C 0 0 dX8_sheet_64 rfl rfl ?_
    obtain ⟨v1, ev1, hx⟩ := ob hx
    refine jj_getR C fd_X8_16 dX8_sheet_65 ev1 ?_
    refine jj_bipush (v := 60) C dX8_sheet_68 (by decide) ?_
    refine jj_iload_n C 1 1 dX8_sheet_70 rfl rfl ?_
    refine jj_imul C dX8_sheet_71 ?_
    refine jj_iload C 4 2 dX8_sheet_72 rfl ?_
    refine jj_iadd C dX8_sheet_74 ?_
    refine jj_iconst (v := 0) C dX8_sheet_75 (by decide) ?_
    obtain ⟨v2, ev2, hx⟩ := ob hx
    refine jj_iast C dX8_sheet_76 ev2 ?_
    refine jj_iinc (v := l4 + 1) C 4 2 dX8_sheet_77 rfl rfl rfl (by decide) ?_
    refine jj_goto (tgt := 57) C dX8_sheet_80 (by decide) ?_
    refine jj_sub [1, 2, 0] rfl ?_
    exact hk57 _ _ hx
theorem t_X8_sheet_57 {X : pX} {G : pG} {n : Nat} {res : (Int32 × pH)} (C : Cx X G RX8 cX8_sheet 5 (rmD 2 0 0) n (some (FieldType.int))) (F : Nat) {l0 : Nat} {l1 : Int32} : ∀ (m : Nat) (h : pH) (l4 : Int32), x_X8_sheet_57 F l0 l1 m h l4 = some res → J X G (0, 0, some (.int res.1), n, res.2) (0, 0, n) h 57 [(0, .ref l0), (1, .int l1), (4, .int l4)] [] := by
  intro m
  induction m with
  | zero => intro h l4 hx; exact nomatch (show (none : Option (Int32 × pH)) = some res from hx)
  | succ m ih => intro h l4 hx; exact ts_X8_sheet_57 C F  ih hx
def x_X8_sheet (F : Nat) (h : pH) (l0 : Nat) (l1 : Int32) (l2 : Int32) (l3 : Int32) : Option (Int32 × pH) :=
  (chk 8 h l0).bind fun _ =>
  (putV 8 h l0 0 (.int 0)).bind fun v1 =>
  (x_X8_isSheet F v1 l1).bind fun v2 =>
  if v2 = 0 then
    some ((-1 : Int32), v1)
  else
    (x_X8_isSort F v1 l2).bind fun v3 =>
    if v3 = 0 then
      some ((-2 : Int32), v1)
    else
      if l3 ≤ 60 then
        if 0 ≤ l3 then
          (getR 8 v1 l0 2).bind fun v4 =>
          (astI 0 v1 v4 l1 l2).bind fun v5 =>
          (getR 8 v5 l0 3).bind fun v6 =>
          (astI 0 v5 v6 l1 l3).bind fun v7 =>
          x_X8_sheet_57 F l0 l1 F v7 0
        else
          (x_X8_fails F v1 l0 4).bind fun v8 =>
          some (v8.1, v8.2)
      else
        some ((-2 : Int32), v1)
theorem o_X8_sheet {F : Nat} {h : pH} {l0 : Nat} {l1 : Int32} {l2 : Int32} {l3 : Int32} {res : (Int32 × pH)} (hx : x_X8_sheet F h l0 l1 l2 l3 = some res) : chk 8 h l0 = some () := by
  unfold x_X8_sheet at hx
  obtain ⟨_, e, _⟩ := ob hx
  exact e
theorem mc_X8_sheet (l : Launch) (G : pG) (F n : Nat) {h : pH} {l0 : Nat} {l1 : Int32} {l2 : Int32} {l3 : Int32} {res : (Int32 × pH)} (hx : x_X8_sheet F h l0 l1 l2 l3 = some res) : MC l yX8_sheet cX8_sheet 5 (some (FieldType.int)) (rmD 2 0 0) G [.ref l0, .int l1, .int l2, .int l3] n h (some (.int res.1)) n res.2 := by
  unfold x_X8_sheet at hx
  obtain ⟨_, _, hx⟩ := ob hx
  refine jj_entry RX8 rfl (by decide) (Nat.le_of_ble_eq_true rfl) (fun X _ _ C => ?_)
  show J X G (0, 0, some (.int res.1), n, res.2) (0, 0, n) h 0 [(0, .ref l0), (1, .int l1), (2, .int l2), (3, .int l3)] []
  refine jj_aload_n C 0 0 dX8_sheet_0 rfl rfl ?_
  refine jj_iconst (v := 0) C dX8_sheet_1 (by decide) ?_
  obtain ⟨v1, ev1, hx⟩ := ob hx
  refine jj_put C fd_X8_77 rfl rfl dX8_sheet_2 ev1 ?_
  refine jj_iload_n C 1 1 dX8_sheet_5 rfl rfl ?_
  obtain ⟨v2, ev2, hx⟩ := ob hx
  refine jj_callS C [.int l1] lk_X8_93 (mc_X8_isSheet X.2.1 G F n ev2) rfl rfl (Nat.le_of_ble_eq_true rfl) ⟨Nat.le_of_ble_eq_true rfl, Nat.le_of_ble_eq_true rfl⟩ ⟨Nat.zero_le _, Nat.zero_le _⟩ rfl dX8_sheet_6 rfl rfl ?_
  refine jj_if_ne (tgt := 14) C dX8_sheet_9 (by decide) (fun q9 => ?_) (fun q9 => ?_)
  · rw [if_neg q9] at hx
    refine jj_iload_n C 2 2 dX8_sheet_14 rfl rfl ?_
    obtain ⟨v3, ev3, hx⟩ := ob hx
    refine jj_callS C [.int l2] lk_X8_97 (mc_X8_isSort X.2.1 G F n ev3) rfl rfl (Nat.le_of_ble_eq_true rfl) ⟨Nat.le_of_ble_eq_true rfl, Nat.le_of_ble_eq_true rfl⟩ ⟨Nat.zero_le _, Nat.zero_le _⟩ rfl dX8_sheet_15 rfl rfl ?_
    refine jj_if_eq (tgt := 27) C dX8_sheet_18 (by decide) (fun q18 => ?_) (fun q18 => ?_)
    · rw [if_pos q18] at hx
      refine jj_bipush (v := (-2)) C dX8_sheet_27 (by decide) ?_
      obtain rfl := Option.some.inj hx
      exact jj_iret C dX8_sheet_29 rfl
    · rw [if_neg q18] at hx
      refine jj_iload_n C 3 3 dX8_sheet_21 rfl rfl ?_
      refine jj_bipush (v := 60) C dX8_sheet_22 (by decide) ?_
      refine jj_icmp_le (tgt := 30) C dX8_sheet_24 (by decide) (fun q24 => ?_) (fun q24 => ?_)
      · rw [if_pos q24] at hx
        refine jj_iload_n C 3 3 dX8_sheet_30 rfl rfl ?_
        refine jj_if_ge (tgt := 40) C dX8_sheet_31 (by decide) (fun q31 => ?_) (fun q31 => ?_)
        · rw [if_pos q31] at hx
          refine jj_aload_n C 0 0 dX8_sheet_40 rfl rfl ?_
          obtain ⟨v4, ev4, hx⟩ := ob hx
          refine jj_getR C fd_X8_9 dX8_sheet_41 ev4 ?_
          refine jj_iload_n C 1 1 dX8_sheet_44 rfl rfl ?_
          refine jj_iload_n C 2 2 dX8_sheet_45 rfl rfl ?_
          obtain ⟨v5, ev5, hx⟩ := ob hx
          refine jj_iast C dX8_sheet_46 ev5 ?_
          refine jj_aload_n C 0 0 dX8_sheet_47 rfl rfl ?_
          obtain ⟨v6, ev6, hx⟩ := ob hx
          refine jj_getR C fd_X8_13 dX8_sheet_48 ev6 ?_
          refine jj_iload_n C 1 1 dX8_sheet_51 rfl rfl ?_
          refine jj_iload_n C 3 3 dX8_sheet_52 rfl rfl ?_
          obtain ⟨v7, ev7, hx⟩ := ob hx
          refine jj_iast C dX8_sheet_53 ev7 ?_
          refine jj_iconst (v := 0) C dX8_sheet_54 (by decide) ?_
          refine jj_istore C 4 dX8_sheet_55 rfl (by decide) ?_
          refine jj_sub [1, 2, 0] rfl ?_
          exact t_X8_sheet_57 C F F _ _ hx
        · rw [if_neg q31] at hx
          refine jj_aload_n C 0 0 dX8_sheet_34 rfl rfl ?_
          refine jj_iconst (v := 4) C dX8_sheet_35 (by decide) ?_
          obtain ⟨v8, ev8, hx⟩ := ob hx
          refine jj_callV C [.int 4] lk_X8_104 (mc_X8_fails X.2.1 G F n ev8) (o_X8_fails ev8) rfl rfl (Nat.le_of_ble_eq_true rfl) ⟨Nat.le_of_ble_eq_true rfl, Nat.le_of_ble_eq_true rfl⟩ ⟨Nat.zero_le _, Nat.zero_le _⟩ rfl dX8_sheet_36 rfl rfl ?_
          obtain rfl := Option.some.inj hx
          exact jj_iret C dX8_sheet_39 rfl
      · rw [if_neg q24] at hx
        refine jj_bipush (v := (-2)) C dX8_sheet_27 (by decide) ?_
        obtain rfl := Option.some.inj hx
        exact jj_iret C dX8_sheet_29 rfl
  · rw [if_pos q9] at hx
    refine jj_iconst (v := (-1)) C dX8_sheet_12 (by decide) ?_
    obtain rfl := Option.some.inj hx
    exact jj_iret C dX8_sheet_13 rfl
def x_X8_spare_54 (F : Nat) (k14 : pH → Int32 → Int32 → Option (Int32 × pH)) (k24 : pH → Int32 → Int32 → Option (Int32 × pH)) (h : pH) (l0 : Nat) (l2 : Int32) (l3 : Int32) (s0 : Int32) (s1 : Int32) : Option (Int32 × pH) :=
  k24 h (s1 ||| s0) (l3 + 1)
theorem t_X8_spare_54 {X : pX} {G : pG} {n : Nat} {res : (Int32 × pH)} (C : Cx X G RX8 cX8_spare 4 (rmD 4 0 0) n (some (FieldType.int))) (F : Nat) {h : pH} {l0 : Nat} {l2 : Int32} {l3 : Int32} {s0 : Int32} {s1 : Int32} {k14 : pH → Int32 → Int32 → Option (Int32 × pH)} (hk14 : ∀ (h : pH) (l1 : Int32) (l2 : Int32), k14 h l1 l2 = some res → J X G (0, 0, some (.int res.1), n, res.2) (0, 0, n) h 14 [(0, .ref l0), (1, .int l1), (2, .int l2)] []) {k24 : pH → Int32 → Int32 → Option (Int32 × pH)} (hk24 : ∀ (h : pH) (l1 : Int32) (l3 : Int32), k24 h l1 l3 = some res → J X G (0, 0, some (.int res.1), n, res.2) (0, 0, n) h 24 [(0, .ref l0), (1, .int l1), (2, .int l2), (3, .int l3)] []) (hx : x_X8_spare_54 F k14 k24 h l0 l2 l3 s0 s1 = some res) : J X G (0, 0, some (.int res.1), n, res.2) (0, 0, n) h 54 [(0, .ref l0), (2, .int l2), (3, .int l3)] [.int s0, .int s1] := by
  unfold x_X8_spare_54 at hx
  refine jj_ior C dX8_spare_54 ?_
  refine jj_istore_n C 1 dX8_spare_55 rfl rfl (by decide) ?_
  refine jj_iinc (v := l3 + 1) C 3 3 dX8_spare_56 rfl rfl rfl (by decide) ?_
  refine jj_goto (tgt := 24) C dX8_spare_59 (by decide) ?_
  refine jj_sub [2, 1, 3, 0] rfl ?_
  exact hk24 _ _ _ hx
def x_X8_spare_53 (F : Nat) (k14 : pH → Int32 → Int32 → Option (Int32 × pH)) (k24 : pH → Int32 → Int32 → Option (Int32 × pH)) (h : pH) (l0 : Nat) (l2 : Int32) (l3 : Int32) (s0 : Int32) : Option (Int32 × pH) :=
  x_X8_spare_54 F k14 k24 h l0 l2 l3 0 s0
theorem t_X8_spare_53 {X : pX} {G : pG} {n : Nat} {res : (Int32 × pH)} (C : Cx X G RX8 cX8_spare 4 (rmD 4 0 0) n (some (FieldType.int))) (F : Nat) {h : pH} {l0 : Nat} {l2 : Int32} {l3 : Int32} {s0 : Int32} {k14 : pH → Int32 → Int32 → Option (Int32 × pH)} (hk14 : ∀ (h : pH) (l1 : Int32) (l2 : Int32), k14 h l1 l2 = some res → J X G (0, 0, some (.int res.1), n, res.2) (0, 0, n) h 14 [(0, .ref l0), (1, .int l1), (2, .int l2)] []) {k24 : pH → Int32 → Int32 → Option (Int32 × pH)} (hk24 : ∀ (h : pH) (l1 : Int32) (l3 : Int32), k24 h l1 l3 = some res → J X G (0, 0, some (.int res.1), n, res.2) (0, 0, n) h 24 [(0, .ref l0), (1, .int l1), (2, .int l2), (3, .int l3)] []) (hx : x_X8_spare_53 F k14 k24 h l0 l2 l3 s0 = some res) : J X G (0, 0, some (.int res.1), n, res.2) (0, 0, n) h 53 [(0, .ref l0), (2, .int l2), (3, .int l3)] [.int s0] := by
  unfold x_X8_spare_53 at hx
  refine jj_iconst (v := 0) C dX8_spare_53 (by decide) ?_
  exact t_X8_spare_54 C F hk14 hk24 hx
def s_X8_spare_24 (F : Nat) (k14 : pH → Int32 → Int32 → Option (Int32 × pH)) (l0 : Nat) (l2 : Int32) (k24 : pH → Int32 → Int32 → Option (Int32 × pH)) (h : pH) (l1 : Int32) (l3 : Int32) : Option (Int32 × pH) :=
  (getI 8 h l0 5).bind fun v1 =>
  if v1 ≤ l3 then
    k14 h l1 (l2 + 1)
  else
    if l3 = l2 then
      x_X8_spare_53 F k14 k24 h l0 l2 l3 l1
    else
      (x_X8_isIn F h l0 l2 l3).bind fun v2 =>
      if v2.1 = 0 then
        x_X8_spare_53 F k14 k24 v2.2 l0 l2 l3 l1
      else
        x_X8_spare_54 F k14 k24 v2.2 l0 l2 l3 ((1 : Int32) <<< (l2 &&& 31)) l1
def x_X8_spare_24 (F : Nat) (k14 : pH → Int32 → Int32 → Option (Int32 × pH)) (l0 : Nat) (l2 : Int32) : Nat → pH → Int32 → Int32 → Option (Int32 × pH)
  | 0, _, _, _ => none
  | m + 1, h, l1, l3 => s_X8_spare_24 F k14 l0 l2 (x_X8_spare_24 F k14 l0 l2 m) h l1 l3
theorem ts_X8_spare_24 {X : pX} {G : pG} {n : Nat} {res : (Int32 × pH)} (C : Cx X G RX8 cX8_spare 4 (rmD 4 0 0) n (some (FieldType.int))) (F : Nat) {l0 : Nat} {l2 : Int32} {k14 : pH → Int32 → Int32 → Option (Int32 × pH)} (hk14 : ∀ (h : pH) (l1 : Int32) (l2 : Int32), k14 h l1 l2 = some res → J X G (0, 0, some (.int res.1), n, res.2) (0, 0, n) h 14 [(0, .ref l0), (1, .int l1), (2, .int l2)] []) {k24 : pH → Int32 → Int32 → Option (Int32 × pH)} (hk24 : ∀ (h : pH) (l1 : Int32) (l3 : Int32), k24 h l1 l3 = some res → J X G (0, 0, some (.int res.1), n, res.2) (0, 0, n) h 24 [(0, .ref l0), (1, .int l1), (2, .int l2), (3, .int l3)] []) {h : pH} {l1 : Int32} {l3 : Int32} (hx : s_X8_spare_24 F k14 l0 l2 k24 h l1 l3 = some res) : J X G (0, 0, some (.int res.1), n, res.2) (0, 0, n) h 24 [(0, .ref l0), (1, .int l1), (2, .int l2), (3, .int l3)] [] := by
  unfold s_X8_spare_24 at hx
  refine jj_iload_n C 3 3 dX8_spare_24 rfl rfl ?_
  refine jj_aload_n C 0 0 dX8_spare_25 rfl rfl ?_
  obtain ⟨v1, ev1, hx⟩ := ob hx
  refine jj_getI C fd_X8_87 dX8_spare_26 ev1 ?_
  refine jj_icmp_ge (tgt := 62) C dX8_spare_29 (by decide) (fun q29 => ?_) (fun q29 => ?_)
  · rw [if_pos q29] at hx
    refine jj_iinc (v := l2 + 1) C 2 2 dX8_spare_62 rfl rfl rfl (by decide) ?_
    refine jj_goto (tgt := 14) C dX8_spare_65 (by decide) ?_
    refine jj_sub [1, 2, 0] rfl ?_
    exact hk14 _ _ _ hx
  · rw [if_neg q29] at hx
    refine jj_iload_n C 1 1 dX8_spare_32 rfl rfl ?_
    refine jj_iload_n C 3 3 dX8_spare_33 rfl rfl ?_
    refine jj_iload_n C 2 2 dX8_spare_34 rfl rfl ?_
    refine jj_icmp_eq (tgt := 53) C dX8_spare_35 (by decide) (fun q35 => ?_) (fun q35 => ?_)
    · rw [if_pos q35] at hx
      refine jj_sub [0, 2, 3] rfl ?_
      exact t_X8_spare_53 C F hk14 hk24 hx
    · rw [if_neg q35] at hx
      refine jj_aload_n C 0 0 dX8_spare_38 rfl rfl ?_
      refine jj_iload_n C 2 2 dX8_spare_39 rfl rfl ?_
      refine jj_iload_n C 3 3 dX8_spare_40 rfl rfl ?_
      obtain ⟨v2, ev2, hx⟩ := ob hx
      refine jj_callV C [.int l2, .int l3] lk_X8_197 (mc_X8_isIn X.2.1 G F n ev2) (o_X8_isIn ev2) rfl rfl (Nat.le_of_ble_eq_true rfl) ⟨Nat.le_of_ble_eq_true rfl, Nat.le_of_ble_eq_true rfl⟩ ⟨Nat.zero_le _, Nat.zero_le _⟩ rfl dX8_spare_41 rfl rfl ?_
      refine jj_if_eq (tgt := 53) C dX8_spare_44 (by decide) (fun q44 => ?_) (fun q44 => ?_)
      · rw [if_pos q44] at hx
        refine jj_sub [0, 2, 3] rfl ?_
        exact t_X8_spare_53 C F hk14 hk24 hx
      · rw [if_neg q44] at hx
        refine jj_iconst (v := 1) C dX8_spare_47 (by decide) ?_
        refine jj_iload_n C 2 2 dX8_spare_48 rfl rfl ?_
        refine jj_ishl C dX8_spare_49 ?_
        refine jj_goto (tgt := 54) C dX8_spare_50 (by decide) ?_
        refine jj_sub [0, 2, 3] rfl ?_
        exact t_X8_spare_54 C F hk14 hk24 hx
theorem t_X8_spare_24 {X : pX} {G : pG} {n : Nat} {res : (Int32 × pH)} (C : Cx X G RX8 cX8_spare 4 (rmD 4 0 0) n (some (FieldType.int))) (F : Nat) {l0 : Nat} {l2 : Int32} {k14 : pH → Int32 → Int32 → Option (Int32 × pH)} (hk14 : ∀ (h : pH) (l1 : Int32) (l2 : Int32), k14 h l1 l2 = some res → J X G (0, 0, some (.int res.1), n, res.2) (0, 0, n) h 14 [(0, .ref l0), (1, .int l1), (2, .int l2)] []) : ∀ (m : Nat) (h : pH) (l1 : Int32) (l3 : Int32), x_X8_spare_24 F k14 l0 l2 m h l1 l3 = some res → J X G (0, 0, some (.int res.1), n, res.2) (0, 0, n) h 24 [(0, .ref l0), (1, .int l1), (2, .int l2), (3, .int l3)] [] := by
  intro m
  induction m with
  | zero => intro h l1 l3 hx; exact nomatch (show (none : Option (Int32 × pH)) = some res from hx)
  | succ m ih => intro h l1 l3 hx; exact ts_X8_spare_24 C F hk14 ih hx
def s_X8_spare_14 (F : Nat)  (l0 : Nat) (k14 : pH → Int32 → Int32 → Option (Int32 × pH)) (h : pH) (l1 : Int32) (l2 : Int32) : Option (Int32 × pH) :=
  (getI 8 h l0 5).bind fun v1 =>
  if v1 ≤ l2 then
    some (l1, h)
  else
    x_X8_spare_24 F k14 l0 l2 F h l1 0
def x_X8_spare_14 (F : Nat)  (l0 : Nat) : Nat → pH → Int32 → Int32 → Option (Int32 × pH)
  | 0, _, _, _ => none
  | m + 1, h, l1, l2 => s_X8_spare_14 F l0 (x_X8_spare_14 F l0 m) h l1 l2
theorem ts_X8_spare_14 {X : pX} {G : pG} {n : Nat} {res : (Int32 × pH)} (C : Cx X G RX8 cX8_spare 4 (rmD 4 0 0) n (some (FieldType.int))) (F : Nat) {l0 : Nat} {k14 : pH → Int32 → Int32 → Option (Int32 × pH)} (hk14 : ∀ (h : pH) (l1 : Int32) (l2 : Int32), k14 h l1 l2 = some res → J X G (0, 0, some (.int res.1), n, res.2) (0, 0, n) h 14 [(0, .ref l0), (1, .int l1), (2, .int l2)] []) {h : pH} {l1 : Int32} {l2 : Int32} (hx : s_X8_spare_14 F l0 k14 h l1 l2 = some res) : J X G (0, 0, some (.int res.1), n, res.2) (0, 0, n) h 14 [(0, .ref l0), (1, .int l1), (2, .int l2)] [] := by
  unfold s_X8_spare_14 at hx
  refine jj_iload_n C 2 2 dX8_spare_14 rfl rfl ?_
  refine jj_aload_n C 0 0 dX8_spare_15 rfl rfl ?_
  obtain ⟨v1, ev1, hx⟩ := ob hx
  refine jj_getI C fd_X8_87 dX8_spare_16 ev1 ?_
  refine jj_icmp_ge (tgt := 68) C dX8_spare_19 (by decide) (fun q19 => ?_) (fun q19 => ?_)
  · rw [if_pos q19] at hx
    refine jj_iload_n C 1 1 dX8_spare_68 rfl rfl ?_
    obtain rfl := Option.some.inj hx
    exact jj_iret C dX8_spare_69 rfl
  · rw [if_neg q19] at hx
    refine jj_iconst (v := 0) C dX8_spare_22 (by decide) ?_
    refine jj_istore_n C 3 dX8_spare_23 rfl rfl (by decide) ?_
    refine jj_sub [1, 2, 3, 0] rfl ?_
    exact t_X8_spare_24 C F hk14 F _ _ _ hx
theorem t_X8_spare_14 {X : pX} {G : pG} {n : Nat} {res : (Int32 × pH)} (C : Cx X G RX8 cX8_spare 4 (rmD 4 0 0) n (some (FieldType.int))) (F : Nat) {l0 : Nat} : ∀ (m : Nat) (h : pH) (l1 : Int32) (l2 : Int32), x_X8_spare_14 F l0 m h l1 l2 = some res → J X G (0, 0, some (.int res.1), n, res.2) (0, 0, n) h 14 [(0, .ref l0), (1, .int l1), (2, .int l2)] [] := by
  intro m
  induction m with
  | zero => intro h l1 l2 hx; exact nomatch (show (none : Option (Int32 × pH)) = some res from hx)
  | succ m ih => intro h l1 l2 hx; exact ts_X8_spare_14 C F  ih hx
def x_X8_spare (F : Nat) (h : pH) (l0 : Nat) : Option (Int32 × pH) :=
  (chk 8 h l0).bind fun _ =>
  (getI 8 h l0 5).bind fun v1 =>
  if v1 = 0 then
    some ((-3 : Int32), h)
  else
    x_X8_spare_14 F l0 F h 0 0
theorem o_X8_spare {F : Nat} {h : pH} {l0 : Nat} {res : (Int32 × pH)} (hx : x_X8_spare F h l0 = some res) : chk 8 h l0 = some () := by
  unfold x_X8_spare at hx
  obtain ⟨_, e, _⟩ := ob hx
  exact e
theorem mc_X8_spare (l : Launch) (G : pG) (F n : Nat) {h : pH} {l0 : Nat} {res : (Int32 × pH)} (hx : x_X8_spare F h l0 = some res) : MC l yX8_spare cX8_spare 4 (some (FieldType.int)) (rmD 4 0 0) G [.ref l0] n h (some (.int res.1)) n res.2 := by
  unfold x_X8_spare at hx
  obtain ⟨_, _, hx⟩ := ob hx
  refine jj_entry RX8 rfl (by decide) (Nat.le_of_ble_eq_true rfl) (fun X _ _ C => ?_)
  show J X G (0, 0, some (.int res.1), n, res.2) (0, 0, n) h 0 [(0, .ref l0)] []
  refine jj_aload_n C 0 0 dX8_spare_0 rfl rfl ?_
  obtain ⟨v1, ev1, hx⟩ := ob hx
  refine jj_getI C fd_X8_87 dX8_spare_1 ev1 ?_
  refine jj_if_ne (tgt := 10) C dX8_spare_4 (by decide) (fun q4 => ?_) (fun q4 => ?_)
  · rw [if_neg q4] at hx
    refine jj_iconst (v := 0) C dX8_spare_10 (by decide) ?_
    refine jj_istore_n C 1 dX8_spare_11 rfl rfl (by decide) ?_
    refine jj_iconst (v := 0) C dX8_spare_12 (by decide) ?_
    refine jj_istore_n C 2 dX8_spare_13 rfl rfl (by decide) ?_
    refine jj_sub [2, 1, 0] rfl ?_
    exact t_X8_spare_14 C F F _ _ _ hx
  · rw [if_pos q4] at hx
    refine jj_bipush (v := (-3)) C dX8_spare_7 (by decide) ?_
    obtain rfl := Option.some.inj hx
    exact jj_iret C dX8_spare_9 rfl
def x_X8_spell (F : Nat) (h : pH) (l0 : Nat) (l1 : Int32) (l2 : Int32) (l3 : Int32) : Option (Int32 × pH) :=
  (chk 8 h l0).bind fun _ =>
  (x_X8_isWord F h l0 l1).bind fun v1 =>
  if v1 = 0 then
    some ((-1 : Int32), h)
  else
    (getR 8 h l0 8).bind fun v2 =>
    (aldI 0 h v2 l1).bind fun v3 =>
    (x_X8_within F h l2 0 (v3 - (1 : Int32))).bind fun v4 =>
    if v4 = 0 then
      some ((-1 : Int32), h)
    else
      (x_X8_within F h l3 0 2).bind fun v5 =>
      if v5 = 0 then
        some ((-2 : Int32), h)
      else
        (getR 8 h l0 9).bind fun v6 =>
        (aldI 0 h v6 (((4 : Int32) * l1) + l2)).bind fun v7 =>
        (getR 8 h l0 9).bind fun v8 =>
        (astI 0 h v8 (((4 : Int32) * l1) + l2) l3).bind fun v9 =>
        some (v7, v9)
theorem o_X8_spell {F : Nat} {h : pH} {l0 : Nat} {l1 : Int32} {l2 : Int32} {l3 : Int32} {res : (Int32 × pH)} (hx : x_X8_spell F h l0 l1 l2 l3 = some res) : chk 8 h l0 = some () := by
  unfold x_X8_spell at hx
  obtain ⟨_, e, _⟩ := ob hx
  exact e
theorem mc_X8_spell (l : Launch) (G : pG) (F n : Nat) {h : pH} {l0 : Nat} {l1 : Int32} {l2 : Int32} {l3 : Int32} {res : (Int32 × pH)} (hx : x_X8_spell F h l0 l1 l2 l3 = some res) : MC l yX8_spell cX8_spell 5 (some (FieldType.int)) (rmD 1 0 0) G [.ref l0, .int l1, .int l2, .int l3] n h (some (.int res.1)) n res.2 := by
  unfold x_X8_spell at hx
  obtain ⟨_, _, hx⟩ := ob hx
  refine jj_entry RX8 rfl (by decide) (Nat.le_of_ble_eq_true rfl) (fun X _ _ C => ?_)
  show J X G (0, 0, some (.int res.1), n, res.2) (0, 0, n) h 0 [(0, .ref l0), (1, .int l1), (2, .int l2), (3, .int l3)] []
  refine jj_aload_n C 0 0 dX8_spell_0 rfl rfl ?_
  refine jj_iload_n C 1 1 dX8_spell_1 rfl rfl ?_
  obtain ⟨v1, ev1, hx⟩ := ob hx
  refine jj_callV C [.int l1] lk_X8_139 (mc_X8_isWord X.2.1 G F n ev1) (o_X8_isWord ev1) rfl rfl (Nat.le_of_ble_eq_true rfl) ⟨Nat.le_of_ble_eq_true rfl, Nat.le_of_ble_eq_true rfl⟩ ⟨Nat.zero_le _, Nat.zero_le _⟩ rfl dX8_spell_2 rfl rfl ?_
  refine jj_if_eq (tgt := 24) C dX8_spell_5 (by decide) (fun q5 => ?_) (fun q5 => ?_)
  · rw [if_pos q5] at hx
    refine jj_iconst (v := (-1)) C dX8_spell_24 (by decide) ?_
    obtain rfl := Option.some.inj hx
    exact jj_iret C dX8_spell_25 rfl
  · rw [if_neg q5] at hx
    refine jj_iload_n C 2 2 dX8_spell_8 rfl rfl ?_
    refine jj_iconst (v := 0) C dX8_spell_9 (by decide) ?_
    refine jj_aload_n C 0 0 dX8_spell_10 rfl rfl ?_
    obtain ⟨v2, ev2, hx⟩ := ob hx
    refine jj_getR C fd_X8_22 dX8_spell_11 ev2 ?_
    refine jj_iload_n C 1 1 dX8_spell_14 rfl rfl ?_
    obtain ⟨v3, ev3, hx⟩ := ob hx
    refine jj_iald C dX8_spell_15 ev3 ?_
    refine jj_iconst (v := 1) C dX8_spell_16 (by decide) ?_
    refine jj_isub C dX8_spell_17 ?_
    obtain ⟨v4, ev4, hx⟩ := ob hx
    refine jj_callS C [.int l2, .int 0, .int (v3 - (1 : Int32))] lk_X8_83 (mc_X8_within X.2.1 G F n ev4) rfl rfl (Nat.le_of_ble_eq_true rfl) ⟨Nat.le_of_ble_eq_true rfl, Nat.le_of_ble_eq_true rfl⟩ ⟨Nat.zero_le _, Nat.zero_le _⟩ rfl dX8_spell_18 rfl rfl ?_
    refine jj_if_ne (tgt := 26) C dX8_spell_21 (by decide) (fun q21 => ?_) (fun q21 => ?_)
    · rw [if_neg q21] at hx
      refine jj_iload_n C 3 3 dX8_spell_26 rfl rfl ?_
      refine jj_iconst (v := 0) C dX8_spell_27 (by decide) ?_
      refine jj_iconst (v := 2) C dX8_spell_28 (by decide) ?_
      obtain ⟨v5, ev5, hx⟩ := ob hx
      refine jj_callS C [.int l3, .int 0, .int 2] lk_X8_83 (mc_X8_within X.2.1 G F n ev5) rfl rfl (Nat.le_of_ble_eq_true rfl) ⟨Nat.le_of_ble_eq_true rfl, Nat.le_of_ble_eq_true rfl⟩ ⟨Nat.zero_le _, Nat.zero_le _⟩ rfl dX8_spell_29 rfl rfl ?_
      refine jj_if_ne (tgt := 38) C dX8_spell_32 (by decide) (fun q32 => ?_) (fun q32 => ?_)
      · rw [if_neg q32] at hx
        refine jj_aload_n C 0 0 dX8_spell_38 rfl rfl ?_
        obtain ⟨v6, ev6, hx⟩ := ob hx
        refine jj_getR C fd_X8_25 dX8_spell_39 ev6 ?_
        refine jj_iconst (v := 4) C dX8_spell_42 (by decide) ?_
        refine jj_iload_n C 1 1 dX8_spell_43 rfl rfl ?_
        refine jj_imul C dX8_spell_44 ?_
        refine jj_iload_n C 2 2 dX8_spell_45 rfl rfl ?_
        refine jj_iadd C dX8_spell_46 ?_
        obtain ⟨v7, ev7, hx⟩ := ob hx
        refine jj_iald C dX8_spell_47 ev7 ?_
        refine jj_istore C 4 dX8_spell_48 rfl (by decide) ?_
        refine jj_aload_n C 0 1 dX8_spell_50 rfl rfl ?_
        obtain ⟨v8, ev8, hx⟩ := ob hx
        refine jj_getR C fd_X8_25 dX8_spell_51 ev8 ?_
        refine jj_iconst (v := 4) C dX8_spell_54 (by decide) ?_
        refine jj_iload_n C 1 2 dX8_spell_55 rfl rfl ?_
        refine jj_imul C dX8_spell_56 ?_
        refine jj_iload_n C 2 3 dX8_spell_57 rfl rfl ?_
        refine jj_iadd C dX8_spell_58 ?_
        refine jj_iload_n C 3 4 dX8_spell_59 rfl rfl ?_
        obtain ⟨v9, ev9, hx⟩ := ob hx
        refine jj_iast C dX8_spell_60 ev9 ?_
        refine jj_iload C 4 0 dX8_spell_61 rfl ?_
        obtain rfl := Option.some.inj hx
        exact jj_iret C dX8_spell_63 rfl
      · rw [if_pos q32] at hx
        refine jj_bipush (v := (-2)) C dX8_spell_35 (by decide) ?_
        obtain rfl := Option.some.inj hx
        exact jj_iret C dX8_spell_37 rfl
    · rw [if_pos q21] at hx
      refine jj_iconst (v := (-1)) C dX8_spell_24 (by decide) ?_
      obtain rfl := Option.some.inj hx
      exact jj_iret C dX8_spell_25 rfl
def x_X8_spelt_26 (F : Nat)  (h : pH) (l0 : Nat) (l1 : Int32) (s0 : Int32) (s1 : Nat) : Option (Int32 × pH) :=
  (x_X8_begins F h s1 s0).bind fun v1 =>
  (getR 8 v1 l0 7).bind fun v2 =>
  (aldI 0 v1 v2 l1).bind fun v3 =>
  if v3 = 2 then
    some ((30 : Int32), v1)
  else
    (getR 8 v1 l0 9).bind fun v4 =>
    (aldI 0 v1 v4 ((4 : Int32) * l1)).bind fun v5 =>
    some (v5, v1)
theorem t_X8_spelt_26 {X : pX} {G : pG} {n : Nat} {res : (Int32 × pH)} (C : Cx X G RX8 cX8_spelt 2 (rmD 1 0 0) n (some (FieldType.int))) (F : Nat) {h : pH} {l0 : Nat} {l1 : Int32} {s0 : Int32} {s1 : Nat} (hx : x_X8_spelt_26 F h l0 l1 s0 s1 = some res) : J X G (0, 0, some (.int res.1), n, res.2) (0, 0, n) h 26 [(0, .ref l0), (1, .int l1)] [.int s0, .ref s1] := by
  unfold x_X8_spelt_26 at hx
  obtain ⟨v1, ev1, hx⟩ := ob hx
  refine jj_callV C [.int s0] lk_X8_215 (mc_X8_begins X.2.1 G F n ev1) (o_X8_begins ev1) rfl rfl (Nat.le_of_ble_eq_true rfl) ⟨Nat.le_of_ble_eq_true rfl, Nat.le_of_ble_eq_true rfl⟩ ⟨Nat.zero_le _, Nat.zero_le _⟩ rfl dX8_spelt_26 rfl rfl ?_
  refine jj_aload_n C 0 0 dX8_spelt_29 rfl rfl ?_
  obtain ⟨v2, ev2, hx⟩ := ob hx
  refine jj_getR C fd_X8_19 dX8_spelt_30 ev2 ?_
  refine jj_iload_n C 1 1 dX8_spelt_33 rfl rfl ?_
  obtain ⟨v3, ev3, hx⟩ := ob hx
  refine jj_iald C dX8_spelt_34 ev3 ?_
  refine jj_iconst (v := 2) C dX8_spelt_35 (by decide) ?_
  refine jj_icmp_ne (tgt := 44) C dX8_spelt_36 (by decide) (fun q36 => ?_) (fun q36 => ?_)
  · rw [if_neg q36] at hx
    refine jj_aload_n C 0 0 dX8_spelt_44 rfl rfl ?_
    obtain ⟨v4, ev4, hx⟩ := ob hx
    refine jj_getR C fd_X8_25 dX8_spelt_45 ev4 ?_
    refine jj_iconst (v := 4) C dX8_spelt_48 (by decide) ?_
    refine jj_iload_n C 1 1 dX8_spelt_49 rfl rfl ?_
    refine jj_imul C dX8_spelt_50 ?_
    obtain ⟨v5, ev5, hx⟩ := ob hx
    refine jj_iald C dX8_spelt_51 ev5 ?_
    obtain rfl := Option.some.inj hx
    exact jj_iret C dX8_spelt_52 rfl
  · rw [if_pos q36] at hx
    refine jj_bipush (v := 30) C dX8_spelt_39 (by decide) ?_
    refine jj_goto (tgt := 52) C dX8_spelt_41 (by decide) ?_
    obtain rfl := Option.some.inj hx
    exact jj_iret C dX8_spelt_52 rfl
def x_X8_spelt (F : Nat) (h : pH) (l0 : Nat) (l1 : Int32) : Option (Int32 × pH) :=
  (chk 8 h l0).bind fun _ =>
  (x_X8_isWord F h l0 l1).bind fun v1 =>
  if v1 = 0 then
    some ((-1 : Int32), h)
  else
    (getR 8 h l0 7).bind fun v2 =>
    (aldI 0 h v2 l1).bind fun v3 =>
    if v3 = 2 then
      x_X8_spelt_26 F h l0 l1 5 l0
    else
      x_X8_spelt_26 F h l0 l1 4 l0
theorem o_X8_spelt {F : Nat} {h : pH} {l0 : Nat} {l1 : Int32} {res : (Int32 × pH)} (hx : x_X8_spelt F h l0 l1 = some res) : chk 8 h l0 = some () := by
  unfold x_X8_spelt at hx
  obtain ⟨_, e, _⟩ := ob hx
  exact e
theorem mc_X8_spelt (l : Launch) (G : pG) (F n : Nat) {h : pH} {l0 : Nat} {l1 : Int32} {res : (Int32 × pH)} (hx : x_X8_spelt F h l0 l1 = some res) : MC l yX8_spelt cX8_spelt 2 (some (FieldType.int)) (rmD 1 0 0) G [.ref l0, .int l1] n h (some (.int res.1)) n res.2 := by
  unfold x_X8_spelt at hx
  obtain ⟨_, _, hx⟩ := ob hx
  refine jj_entry RX8 rfl (by decide) (Nat.le_of_ble_eq_true rfl) (fun X _ _ C => ?_)
  show J X G (0, 0, some (.int res.1), n, res.2) (0, 0, n) h 0 [(0, .ref l0), (1, .int l1)] []
  refine jj_aload_n C 0 0 dX8_spelt_0 rfl rfl ?_
  refine jj_iload_n C 1 1 dX8_spelt_1 rfl rfl ?_
  obtain ⟨v1, ev1, hx⟩ := ob hx
  refine jj_callV C [.int l1] lk_X8_139 (mc_X8_isWord X.2.1 G F n ev1) (o_X8_isWord ev1) rfl rfl (Nat.le_of_ble_eq_true rfl) ⟨Nat.le_of_ble_eq_true rfl, Nat.le_of_ble_eq_true rfl⟩ ⟨Nat.zero_le _, Nat.zero_le _⟩ rfl dX8_spelt_2 rfl rfl ?_
  refine jj_if_ne (tgt := 10) C dX8_spelt_5 (by decide) (fun q5 => ?_) (fun q5 => ?_)
  · rw [if_neg q5] at hx
    refine jj_aload_n C 0 0 dX8_spelt_10 rfl rfl ?_
    refine jj_aload_n C 0 0 dX8_spelt_11 rfl rfl ?_
    obtain ⟨v2, ev2, hx⟩ := ob hx
    refine jj_getR C fd_X8_19 dX8_spelt_12 ev2 ?_
    refine jj_iload_n C 1 1 dX8_spelt_15 rfl rfl ?_
    obtain ⟨v3, ev3, hx⟩ := ob hx
    refine jj_iald C dX8_spelt_16 ev3 ?_
    refine jj_iconst (v := 2) C dX8_spelt_17 (by decide) ?_
    refine jj_icmp_ne (tgt := 25) C dX8_spelt_18 (by decide) (fun q18 => ?_) (fun q18 => ?_)
    · rw [if_neg q18] at hx
      refine jj_iconst (v := 4) C dX8_spelt_25 (by decide) ?_
      exact t_X8_spelt_26 C F hx
    · rw [if_pos q18] at hx
      refine jj_iconst (v := 5) C dX8_spelt_21 (by decide) ?_
      refine jj_goto (tgt := 26) C dX8_spelt_22 (by decide) ?_
      exact t_X8_spelt_26 C F hx
  · rw [if_pos q5] at hx
    refine jj_iconst (v := (-1)) C dX8_spelt_8 (by decide) ?_
    obtain rfl := Option.some.inj hx
    exact jj_iret C dX8_spelt_9 rfl
def x_X8_tell (F : Nat) (h : pH) (l0 : Nat) (l1 : Int32) : Option (Int32 × pH) :=
  (chk 8 h l0).bind fun _ =>
  (x_X8_isWord F h l0 l1).bind fun v1 =>
  if v1 = 0 then
    some ((-1 : Int32), h)
  else
    (getR 8 h l0 8).bind fun v2 =>
    (aldI 0 h v2 l1).bind fun v3 =>
    (getR 8 h l0 7).bind fun v4 =>
    (aldI 0 h v4 l1).bind fun v5 =>
    if v5 = 1 then
      (x_X8_begins F h l0 2).bind fun v6 =>
      (x_X8_begins F v6 l0 1).bind fun v7 =>
      some ((v3 + (100 : Int32)), v7)
    else
      if v5 = 2 then
        (x_X8_begins F h l0 3).bind fun v8 =>
        (x_X8_begins F v8 l0 2).bind fun v9 =>
        (x_X8_begins F v9 l0 1).bind fun v10 =>
        (x_X8_begins F v10 l0 1).bind fun v11 =>
        some ((((2 : Int32) * v3) + (100 : Int32)), v11)
      else
        (x_X8_begins F h l0 1).bind fun v12 =>
        some (v3, v12)
theorem o_X8_tell {F : Nat} {h : pH} {l0 : Nat} {l1 : Int32} {res : (Int32 × pH)} (hx : x_X8_tell F h l0 l1 = some res) : chk 8 h l0 = some () := by
  unfold x_X8_tell at hx
  obtain ⟨_, e, _⟩ := ob hx
  exact e
theorem mc_X8_tell (l : Launch) (G : pG) (F n : Nat) {h : pH} {l0 : Nat} {l1 : Int32} {res : (Int32 × pH)} (hx : x_X8_tell F h l0 l1 = some res) : MC l yX8_tell cX8_tell 3 (some (FieldType.int)) (rmD 1 0 0) G [.ref l0, .int l1] n h (some (.int res.1)) n res.2 := by
  unfold x_X8_tell at hx
  obtain ⟨_, _, hx⟩ := ob hx
  refine jj_entry RX8 rfl (by decide) (Nat.le_of_ble_eq_true rfl) (fun X _ _ C => ?_)
  show J X G (0, 0, some (.int res.1), n, res.2) (0, 0, n) h 0 [(0, .ref l0), (1, .int l1)] []
  refine jj_aload_n C 0 0 dX8_tell_0 rfl rfl ?_
  refine jj_iload_n C 1 1 dX8_tell_1 rfl rfl ?_
  obtain ⟨v1, ev1, hx⟩ := ob hx
  refine jj_callV C [.int l1] lk_X8_139 (mc_X8_isWord X.2.1 G F n ev1) (o_X8_isWord ev1) rfl rfl (Nat.le_of_ble_eq_true rfl) ⟨Nat.le_of_ble_eq_true rfl, Nat.le_of_ble_eq_true rfl⟩ ⟨Nat.zero_le _, Nat.zero_le _⟩ rfl dX8_tell_2 rfl rfl ?_
  refine jj_if_ne (tgt := 10) C dX8_tell_5 (by decide) (fun q5 => ?_) (fun q5 => ?_)
  · rw [if_neg q5] at hx
    refine jj_aload_n C 0 0 dX8_tell_10 rfl rfl ?_
    obtain ⟨v2, ev2, hx⟩ := ob hx
    refine jj_getR C fd_X8_22 dX8_tell_11 ev2 ?_
    refine jj_iload_n C 1 1 dX8_tell_14 rfl rfl ?_
    obtain ⟨v3, ev3, hx⟩ := ob hx
    refine jj_iald C dX8_tell_15 ev3 ?_
    refine jj_istore_n C 2 dX8_tell_16 rfl rfl (by decide) ?_
    refine jj_aload_n C 0 1 dX8_tell_17 rfl rfl ?_
    obtain ⟨v4, ev4, hx⟩ := ob hx
    refine jj_getR C fd_X8_19 dX8_tell_18 ev4 ?_
    refine jj_iload_n C 1 2 dX8_tell_21 rfl rfl ?_
    obtain ⟨v5, ev5, hx⟩ := ob hx
    refine jj_iald C dX8_tell_22 ev5 ?_
    by_cases q23_0 : v5 = 1
    · rw [if_pos q23_0] at hx
      refine jj_lookup (off := 25) (tgt := 48) C dX8_tell_23 (by decide) (by first | (rw [q23_0]; done) | (rw [q23_0]; rfl)) (by decide) ?_
      refine jj_aload_n C 0 1 dX8_tell_48 rfl rfl ?_
      refine jj_iconst (v := 2) C dX8_tell_49 (by decide) ?_
      obtain ⟨v6, ev6, hx⟩ := ob hx
      refine jj_callV C [.int 2] lk_X8_215 (mc_X8_begins X.2.1 G F n ev6) (o_X8_begins ev6) rfl rfl (Nat.le_of_ble_eq_true rfl) ⟨Nat.le_of_ble_eq_true rfl, Nat.le_of_ble_eq_true rfl⟩ ⟨Nat.zero_le _, Nat.zero_le _⟩ rfl dX8_tell_50 rfl rfl ?_
      refine jj_aload_n C 0 1 dX8_tell_53 rfl rfl ?_
      refine jj_iconst (v := 1) C dX8_tell_54 (by decide) ?_
      obtain ⟨v7, ev7, hx⟩ := ob hx
      refine jj_callV C [.int 1] lk_X8_215 (mc_X8_begins X.2.1 G F n ev7) (o_X8_begins ev7) rfl rfl (Nat.le_of_ble_eq_true rfl) ⟨Nat.le_of_ble_eq_true rfl, Nat.le_of_ble_eq_true rfl⟩ ⟨Nat.zero_le _, Nat.zero_le _⟩ rfl dX8_tell_55 rfl rfl ?_
      refine jj_iload_n C 2 0 dX8_tell_58 rfl rfl ?_
      refine jj_bipush (v := 100) C dX8_tell_59 (by decide) ?_
      refine jj_iadd C dX8_tell_61 ?_
      obtain rfl := Option.some.inj hx
      exact jj_iret C dX8_tell_62 rfl
    · rw [if_neg q23_0] at hx
      by_cases q23_1 : v5 = 2
      · rw [if_pos q23_1] at hx
        refine jj_lookup (off := 40) (tgt := 63) C dX8_tell_23 (by decide) (by first | (rw [q23_1]; done) | (rw [q23_1]; rfl)) (by decide) ?_
        refine jj_aload_n C 0 1 dX8_tell_63 rfl rfl ?_
        refine jj_iconst (v := 3) C dX8_tell_64 (by decide) ?_
        obtain ⟨v8, ev8, hx⟩ := ob hx
        refine jj_callV C [.int 3] lk_X8_215 (mc_X8_begins X.2.1 G F n ev8) (o_X8_begins ev8) rfl rfl (Nat.le_of_ble_eq_true rfl) ⟨Nat.le_of_ble_eq_true rfl, Nat.le_of_ble_eq_true rfl⟩ ⟨Nat.zero_le _, Nat.zero_le _⟩ rfl dX8_tell_65 rfl rfl ?_
        refine jj_aload_n C 0 1 dX8_tell_68 rfl rfl ?_
        refine jj_iconst (v := 2) C dX8_tell_69 (by decide) ?_
        obtain ⟨v9, ev9, hx⟩ := ob hx
        refine jj_callV C [.int 2] lk_X8_215 (mc_X8_begins X.2.1 G F n ev9) (o_X8_begins ev9) rfl rfl (Nat.le_of_ble_eq_true rfl) ⟨Nat.le_of_ble_eq_true rfl, Nat.le_of_ble_eq_true rfl⟩ ⟨Nat.zero_le _, Nat.zero_le _⟩ rfl dX8_tell_70 rfl rfl ?_
        refine jj_aload_n C 0 1 dX8_tell_73 rfl rfl ?_
        refine jj_iconst (v := 1) C dX8_tell_74 (by decide) ?_
        obtain ⟨v10, ev10, hx⟩ := ob hx
        refine jj_callV C [.int 1] lk_X8_215 (mc_X8_begins X.2.1 G F n ev10) (o_X8_begins ev10) rfl rfl (Nat.le_of_ble_eq_true rfl) ⟨Nat.le_of_ble_eq_true rfl, Nat.le_of_ble_eq_true rfl⟩ ⟨Nat.zero_le _, Nat.zero_le _⟩ rfl dX8_tell_75 rfl rfl ?_
        refine jj_aload_n C 0 1 dX8_tell_78 rfl rfl ?_
        refine jj_iconst (v := 1) C dX8_tell_79 (by decide) ?_
        obtain ⟨v11, ev11, hx⟩ := ob hx
        refine jj_callV C [.int 1] lk_X8_215 (mc_X8_begins X.2.1 G F n ev11) (o_X8_begins ev11) rfl rfl (Nat.le_of_ble_eq_true rfl) ⟨Nat.le_of_ble_eq_true rfl, Nat.le_of_ble_eq_true rfl⟩ ⟨Nat.zero_le _, Nat.zero_le _⟩ rfl dX8_tell_80 rfl rfl ?_
        refine jj_iconst (v := 2) C dX8_tell_83 (by decide) ?_
        refine jj_iload_n C 2 0 dX8_tell_84 rfl rfl ?_
        refine jj_imul C dX8_tell_85 ?_
        refine jj_bipush (v := 100) C dX8_tell_86 (by decide) ?_
        refine jj_iadd C dX8_tell_88 ?_
        obtain rfl := Option.some.inj hx
        exact jj_iret C dX8_tell_89 rfl
      · rw [if_neg q23_1] at hx
        refine jj_lookup (off := 67) (tgt := 90) C dX8_tell_23 (by decide) (by first | (rw [lv_osw q23_0 (by decide), lv_osw q23_1 (by decide)]; done) | (rw [lv_osw q23_0 (by decide), lv_osw q23_1 (by decide)]; rfl)) (by decide) ?_
        refine jj_aload_n C 0 1 dX8_tell_90 rfl rfl ?_
        refine jj_iconst (v := 1) C dX8_tell_91 (by decide) ?_
        obtain ⟨v12, ev12, hx⟩ := ob hx
        refine jj_callV C [.int 1] lk_X8_215 (mc_X8_begins X.2.1 G F n ev12) (o_X8_begins ev12) rfl rfl (Nat.le_of_ble_eq_true rfl) ⟨Nat.le_of_ble_eq_true rfl, Nat.le_of_ble_eq_true rfl⟩ ⟨Nat.zero_le _, Nat.zero_le _⟩ rfl dX8_tell_92 rfl rfl ?_
        refine jj_iload_n C 2 0 dX8_tell_95 rfl rfl ?_
        obtain rfl := Option.some.inj hx
        exact jj_iret C dX8_tell_96 rfl
  · rw [if_pos q5] at hx
    refine jj_iconst (v := (-1)) C dX8_tell_8 (by decide) ?_
    obtain rfl := Option.some.inj hx
    exact jj_iret C dX8_tell_9 rfl
def x_X8_trace (F : Nat) (h : pH) (l0 : Nat) : Option Int32 :=
  (chk 8 h l0).bind fun _ =>
  (getI 8 h l0 1).bind fun v1 =>
  some v1
theorem o_X8_trace {F : Nat} {h : pH} {l0 : Nat} {res : Int32} (hx : x_X8_trace F h l0 = some res) : chk 8 h l0 = some () := by
  unfold x_X8_trace at hx
  obtain ⟨_, e, _⟩ := ob hx
  exact e
theorem mc_X8_trace (l : Launch) (G : pG) (F n : Nat) {h : pH} {l0 : Nat} {res : Int32} (hx : x_X8_trace F h l0 = some res) : MC l yX8_trace cX8_trace 1 (some (FieldType.int)) (rmD 0 0 0) G [.ref l0] n h (some (.int res)) n h := by
  unfold x_X8_trace at hx
  obtain ⟨_, _, hx⟩ := ob hx
  refine jj_entry RX8 rfl (by decide) (Nat.le_of_ble_eq_true rfl) (fun X _ _ C => ?_)
  show J X G (0, 0, some (.int res), n, h) (0, 0, n) h 0 [(0, .ref l0)] []
  refine jj_aload_n C 0 0 dX8_trace_0 rfl rfl ?_
  obtain ⟨v1, ev1, hx⟩ := ob hx
  refine jj_getI C fd_X8_212 dX8_trace_1 ev1 ?_
  obtain rfl := Option.some.inj hx
  exact jj_iret C dX8_trace_4 rfl
def s_X8_words_135 (F : Nat) (k95 : pH → Int32 → Option (Int32 × pH)) (l0 : Nat) (l7 : Int32) (k135 : pH → Int32 → Option (Int32 × pH)) (h : pH) (l8 : Int32) : Option (Int32 × pH) :=
  if 4 ≤ l8 then
    k95 h (l7 + 1)
  else
    (getR 8 h l0 9).bind fun v1 =>
    (getR 8 h l0 15).bind fun v2 =>
    (aldI 0 h v2 (((4 : Int32) * l7) + l8)).bind fun v3 =>
    (astI 0 h v1 (((4 : Int32) * l7) + l8) v3).bind fun v4 =>
    k135 v4 (l8 + 1)
def x_X8_words_135 (F : Nat) (k95 : pH → Int32 → Option (Int32 × pH)) (l0 : Nat) (l7 : Int32) : Nat → pH → Int32 → Option (Int32 × pH)
  | 0, _, _ => none
  | m + 1, h, l8 => s_X8_words_135 F k95 l0 l7 (x_X8_words_135 F k95 l0 l7 m) h l8
theorem ts_X8_words_135 {X : pX} {G : pG} {n : Nat} {res : (Int32 × pH)} (C : Cx X G RX8 cX8_words 9 (rmD 3 0 0) n (some (FieldType.int))) (F : Nat) {l0 : Nat} {l7 : Int32} {k95 : pH → Int32 → Option (Int32 × pH)} (hk95 : ∀ (h : pH) (l7 : Int32), k95 h l7 = some res → J X G (0, 0, some (.int res.1), n, res.2) (0, 0, n) h 95 [(0, .ref l0), (7, .int l7)] []) {k135 : pH → Int32 → Option (Int32 × pH)} (hk135 : ∀ (h : pH) (l8 : Int32), k135 h l8 = some res → J X G (0, 0, some (.int res.1), n, res.2) (0, 0, n) h 135 [(0, .ref l0), (7, .int l7), (8, .int l8)] []) {h : pH} {l8 : Int32} (hx : s_X8_words_135 F k95 l0 l7 k135 h l8 = some res) : J X G (0, 0, some (.int res.1), n, res.2) (0, 0, n) h 135 [(0, .ref l0), (7, .int l7), (8, .int l8)] [] := by
  unfold s_X8_words_135 at hx
  refine jj_iload C 8 2 dX8_words_135 rfl ?_
  refine jj_iconst (v := 4) C dX8_words_137 (by decide) ?_
  refine jj_icmp_ge (tgt := 171) C dX8_words_138 (by decide) (fun q138 => ?_) (fun q138 => ?_)
  · rw [if_pos q138] at hx
    refine jj_iinc (v := l7 + 1) C 7 1 dX8_words_171 rfl rfl rfl (by decide) ?_
    refine jj_goto (tgt := 95) C dX8_words_174 (by decide) ?_
    refine jj_sub [1, 0] rfl ?_
    exact hk95 _ _ hx
  · rw [if_neg q138] at hx
    refine jj_aload_n C 0 0 dX8_words_141 rfl rfl ?_
    obtain ⟨v1, ev1, hx⟩ := ob hx
    refine jj_getR C fd_X8_25 dX8_words_142 ev1 ?_
    refine jj_iconst (v := 4) C dX8_words_145 (by decide) ?_
    refine jj_iload C 7 1 dX8_words_146 rfl ?_
    refine jj_imul C dX8_words_148 ?_
    refine jj_iload C 8 2 dX8_words_149 rfl ?_
    refine jj_iadd C dX8_words_151 ?_
    refine jj_aload_n C 0 0 dX8_words_152 rfl rfl ?_
    obtain ⟨v2, ev2, hx⟩ := ob hx
    refine jj_getR C fd_X8_37 dX8_words_153 ev2 ?_
    refine jj_iconst (v := 4) C dX8_words_156 (by decide) ?_
    refine jj_iload C 7 1 dX8_words_157 rfl ?_
    refine jj_imul C dX8_words_159 ?_
    refine jj_iload C 8 2 dX8_words_160 rfl ?_
    refine jj_iadd C dX8_words_162 ?_
    obtain ⟨v3, ev3, hx⟩ := ob hx
    refine jj_iald C dX8_words_163 ev3 ?_
    obtain ⟨v4, ev4, hx⟩ := ob hx
    refine jj_iast C dX8_words_164 ev4 ?_
    refine jj_iinc (v := l8 + 1) C 8 2 dX8_words_165 rfl rfl rfl (by decide) ?_
    refine jj_goto (tgt := 135) C dX8_words_168 (by decide) ?_
    refine jj_sub [1, 2, 0] rfl ?_
    exact hk135 _ _ hx
theorem t_X8_words_135 {X : pX} {G : pG} {n : Nat} {res : (Int32 × pH)} (C : Cx X G RX8 cX8_words 9 (rmD 3 0 0) n (some (FieldType.int))) (F : Nat) {l0 : Nat} {l7 : Int32} {k95 : pH → Int32 → Option (Int32 × pH)} (hk95 : ∀ (h : pH) (l7 : Int32), k95 h l7 = some res → J X G (0, 0, some (.int res.1), n, res.2) (0, 0, n) h 95 [(0, .ref l0), (7, .int l7)] []) : ∀ (m : Nat) (h : pH) (l8 : Int32), x_X8_words_135 F k95 l0 l7 m h l8 = some res → J X G (0, 0, some (.int res.1), n, res.2) (0, 0, n) h 135 [(0, .ref l0), (7, .int l7), (8, .int l8)] [] := by
  intro m
  induction m with
  | zero => intro h l8 hx; exact nomatch (show (none : Option (Int32 × pH)) = some res from hx)
  | succ m ih => intro h l8 hx; exact ts_X8_words_135 C F hk95 ih hx
def s_X8_words_95 (F : Nat)  (l0 : Nat) (k95 : pH → Int32 → Option (Int32 × pH)) (h : pH) (l7 : Int32) : Option (Int32 × pH) :=
  (getI 8 h l0 5).bind fun v1 =>
  if v1 ≤ l7 then
    (putV 8 h l0 6 (.int 0)).bind fun v2 =>
    (putV 8 v2 l0 25 (.int 0)).bind fun v3 =>
    (getI 8 v3 l0 5).bind fun v4 =>
    some (v4, v3)
  else
    (getR 8 h l0 7).bind fun v5 =>
    (getR 8 h l0 13).bind fun v6 =>
    (aldI 0 h v6 l7).bind fun v7 =>
    (astI 0 h v5 l7 v7).bind fun v8 =>
    (getR 8 v8 l0 8).bind fun v9 =>
    (getR 8 v8 l0 14).bind fun v10 =>
    (aldI 0 v8 v10 l7).bind fun v11 =>
    (astI 0 v8 v9 l7 v11).bind fun v12 =>
    x_X8_words_135 F k95 l0 l7 F v12 0
def x_X8_words_95 (F : Nat)  (l0 : Nat) : Nat → pH → Int32 → Option (Int32 × pH)
  | 0, _, _ => none
  | m + 1, h, l7 => s_X8_words_95 F l0 (x_X8_words_95 F l0 m) h l7
theorem ts_X8_words_95 {X : pX} {G : pG} {n : Nat} {res : (Int32 × pH)} (C : Cx X G RX8 cX8_words 9 (rmD 3 0 0) n (some (FieldType.int))) (F : Nat) {l0 : Nat} {k95 : pH → Int32 → Option (Int32 × pH)} (hk95 : ∀ (h : pH) (l7 : Int32), k95 h l7 = some res → J X G (0, 0, some (.int res.1), n, res.2) (0, 0, n) h 95 [(0, .ref l0), (7, .int l7)] []) {h : pH} {l7 : Int32} (hx : s_X8_words_95 F l0 k95 h l7 = some res) : J X G (0, 0, some (.int res.1), n, res.2) (0, 0, n) h 95 [(0, .ref l0), (7, .int l7)] [] := by
  unfold s_X8_words_95 at hx
  refine jj_iload C 7 1 dX8_words_95 rfl ?_
  refine jj_aload_n C 0 0 dX8_words_97 rfl rfl ?_
  obtain ⟨v1, ev1, hx⟩ := ob hx
  refine jj_getI C fd_X8_87 dX8_words_98 ev1 ?_
  refine jj_icmp_ge (tgt := 177) C dX8_words_101 (by decide) (fun q101 => ?_) (fun q101 => ?_)
  · rw [if_pos q101] at hx
    refine jj_aload_n C 0 0 dX8_words_177 rfl rfl ?_
    refine jj_iconst (v := 0) C dX8_words_178 (by decide) ?_
    obtain ⟨v2, ev2, hx⟩ := ob hx
    refine jj_put C fd_X8_114 rfl rfl dX8_words_179 ev2 ?_
    refine jj_aload_n C 0 0 dX8_words_182 rfl rfl ?_
    refine jj_iconst (v := 0) C dX8_words_183 (by decide) ?_
    obtain ⟨v3, ev3, hx⟩ := ob hx
    refine jj_put C fd_X8_117 rfl rfl dX8_words_184 ev3 ?_
    refine jj_aload_n C 0 0 dX8_words_187 rfl rfl ?_
    obtain ⟨v4, ev4, hx⟩ := ob hx
    refine jj_getI C fd_X8_87 dX8_words_188 ev4 ?_
    obtain rfl := Option.some.inj hx
    exact jj_iret C dX8_words_191 rfl
  · rw [if_neg q101] at hx
    refine jj_aload_n C 0 0 dX8_words_104 rfl rfl ?_
    obtain ⟨v5, ev5, hx⟩ := ob hx
    refine jj_getR C fd_X8_19 dX8_words_105 ev5 ?_
    refine jj_iload C 7 1 dX8_words_108 rfl ?_
    refine jj_aload_n C 0 0 dX8_words_110 rfl rfl ?_
    obtain ⟨v6, ev6, hx⟩ := ob hx
    refine jj_getR C fd_X8_31 dX8_words_111 ev6 ?_
    refine jj_iload C 7 1 dX8_words_114 rfl ?_
    obtain ⟨v7, ev7, hx⟩ := ob hx
    refine jj_iald C dX8_words_116 ev7 ?_
    obtain ⟨v8, ev8, hx⟩ := ob hx
    refine jj_iast C dX8_words_117 ev8 ?_
    refine jj_aload_n C 0 0 dX8_words_118 rfl rfl ?_
    obtain ⟨v9, ev9, hx⟩ := ob hx
    refine jj_getR C fd_X8_22 dX8_words_119 ev9 ?_
    refine jj_iload C 7 1 dX8_words_122 rfl ?_
    refine jj_aload_n C 0 0 dX8_words_124 rfl rfl ?_
    obtain ⟨v10, ev10, hx⟩ := ob hx
    refine jj_getR C fd_X8_34 dX8_words_125 ev10 ?_
    refine jj_iload C 7 1 dX8_words_128 rfl ?_
    obtain ⟨v11, ev11, hx⟩ := ob hx
    refine jj_iald C dX8_words_130 ev11 ?_
    obtain ⟨v12, ev12, hx⟩ := ob hx
    refine jj_iast C dX8_words_131 ev12 ?_
    refine jj_iconst (v := 0) C dX8_words_132 (by decide) ?_
    refine jj_istore C 8 dX8_words_133 rfl (by decide) ?_
    refine jj_sub [1, 2, 0] rfl ?_
    exact t_X8_words_135 C F hk95 F _ _ hx
theorem t_X8_words_95 {X : pX} {G : pG} {n : Nat} {res : (Int32 × pH)} (C : Cx X G RX8 cX8_words 9 (rmD 3 0 0) n (some (FieldType.int))) (F : Nat) {l0 : Nat} : ∀ (m : Nat) (h : pH) (l7 : Int32), x_X8_words_95 F l0 m h l7 = some res → J X G (0, 0, some (.int res.1), n, res.2) (0, 0, n) h 95 [(0, .ref l0), (7, .int l7)] [] := by
  intro m
  induction m with
  | zero => intro h l7 hx; exact nomatch (show (none : Option (Int32 × pH)) = some res from hx)
  | succ m ih => intro h l7 hx; exact ts_X8_words_95 C F  ih hx
def x_X8_words (F : Nat) (h : pH) (l0 : Nat) (l1 : Int32) (l2 : Int32) (l3 : Int32) (l4 : Int32) : Option (Int32 × pH) :=
  (chk 8 h l0).bind fun _ =>
  (putV 8 h l0 0 (.int 0)).bind fun v1 =>
  (x_X8_isSheet F v1 l1).bind fun v2 =>
  if v2 = 0 then
    some ((-1 : Int32), v1)
  else
    (x_X8_isSort F v1 l2).bind fun v3 =>
    if v3 = 0 then
      some ((-2 : Int32), v1)
    else
      (x_X8_against F v1 l0 l1 l2 l3 l4).bind fun v4 =>
      if v4 = 0 then
        (putV 8 v1 l0 11 (.int (((60 : Int32) * l1) + l3))).bind fun v5 =>
        (x_X8_readAll F v5 l0 ((((60 : Int32) * l1) + l3) + l4)).bind fun v6 =>
        if v6.1 = 0 then
          (getI 8 v6.2 l0 11).bind fun v9 =>
          some (((-100 : Int32) - (v9 - (((60 : Int32) * l1) + l3))), v6.2)
        else
          (getI 8 v6.2 l0 12).bind fun v7 =>
          (putV 8 v6.2 l0 5 (.int v7)).bind fun v8 =>
          x_X8_words_95 F l0 F v8 0
      else
        (x_X8_fails F v1 l0 v4).bind fun v10 =>
        some (v10.1, v10.2)
theorem o_X8_words {F : Nat} {h : pH} {l0 : Nat} {l1 : Int32} {l2 : Int32} {l3 : Int32} {l4 : Int32} {res : (Int32 × pH)} (hx : x_X8_words F h l0 l1 l2 l3 l4 = some res) : chk 8 h l0 = some () := by
  unfold x_X8_words at hx
  obtain ⟨_, e, _⟩ := ob hx
  exact e
theorem mc_X8_words (l : Launch) (G : pG) (F n : Nat) {h : pH} {l0 : Nat} {l1 : Int32} {l2 : Int32} {l3 : Int32} {l4 : Int32} {res : (Int32 × pH)} (hx : x_X8_words F h l0 l1 l2 l3 l4 = some res) : MC l yX8_words cX8_words 9 (some (FieldType.int)) (rmD 3 0 0) G [.ref l0, .int l1, .int l2, .int l3, .int l4] n h (some (.int res.1)) n res.2 := by
  unfold x_X8_words at hx
  obtain ⟨_, _, hx⟩ := ob hx
  refine jj_entry RX8 rfl (by decide) (Nat.le_of_ble_eq_true rfl) (fun X _ _ C => ?_)
  show J X G (0, 0, some (.int res.1), n, res.2) (0, 0, n) h 0 [(0, .ref l0), (1, .int l1), (2, .int l2), (3, .int l3), (4, .int l4)] []
  refine jj_aload_n C 0 0 dX8_words_0 rfl rfl ?_
  refine jj_iconst (v := 0) C dX8_words_1 (by decide) ?_
  obtain ⟨v1, ev1, hx⟩ := ob hx
  refine jj_put C fd_X8_77 rfl rfl dX8_words_2 ev1 ?_
  refine jj_iload_n C 1 1 dX8_words_5 rfl rfl ?_
  obtain ⟨v2, ev2, hx⟩ := ob hx
  refine jj_callS C [.int l1] lk_X8_93 (mc_X8_isSheet X.2.1 G F n ev2) rfl rfl (Nat.le_of_ble_eq_true rfl) ⟨Nat.le_of_ble_eq_true rfl, Nat.le_of_ble_eq_true rfl⟩ ⟨Nat.zero_le _, Nat.zero_le _⟩ rfl dX8_words_6 rfl rfl ?_
  refine jj_if_ne (tgt := 14) C dX8_words_9 (by decide) (fun q9 => ?_) (fun q9 => ?_)
  · rw [if_neg q9] at hx
    refine jj_iload_n C 2 2 dX8_words_14 rfl rfl ?_
    obtain ⟨v3, ev3, hx⟩ := ob hx
    refine jj_callS C [.int l2] lk_X8_97 (mc_X8_isSort X.2.1 G F n ev3) rfl rfl (Nat.le_of_ble_eq_true rfl) ⟨Nat.le_of_ble_eq_true rfl, Nat.le_of_ble_eq_true rfl⟩ ⟨Nat.zero_le _, Nat.zero_le _⟩ rfl dX8_words_15 rfl rfl ?_
    refine jj_if_ne (tgt := 24) C dX8_words_18 (by decide) (fun q18 => ?_) (fun q18 => ?_)
    · rw [if_neg q18] at hx
      refine jj_aload_n C 0 0 dX8_words_24 rfl rfl ?_
      refine jj_iload_n C 1 1 dX8_words_25 rfl rfl ?_
      refine jj_iload_n C 2 2 dX8_words_26 rfl rfl ?_
      refine jj_iload_n C 3 3 dX8_words_27 rfl rfl ?_
      refine jj_iload C 4 4 dX8_words_28 rfl ?_
      obtain ⟨v4, ev4, hx⟩ := ob hx
      refine jj_callV C [.int l1, .int l2, .int l3, .int l4] lk_X8_100 (mc_X8_against X.2.1 G F n ev4) (o_X8_against ev4) rfl rfl (Nat.le_of_ble_eq_true rfl) ⟨Nat.le_of_ble_eq_true rfl, Nat.le_of_ble_eq_true rfl⟩ ⟨Nat.zero_le _, Nat.zero_le _⟩ rfl dX8_words_30 rfl rfl ?_
      refine jj_istore C 5 dX8_words_33 rfl (by decide) ?_
      refine jj_iload C 5 0 dX8_words_35 rfl ?_
      refine jj_if_eq (tgt := 47) C dX8_words_37 (by decide) (fun q37 => ?_) (fun q37 => ?_)
      · rw [if_pos q37] at hx
        refine jj_bipush (v := 60) C dX8_words_47 (by decide) ?_
        refine jj_iload_n C 1 2 dX8_words_49 rfl rfl ?_
        refine jj_imul C dX8_words_50 ?_
        refine jj_iload_n C 3 4 dX8_words_51 rfl rfl ?_
        refine jj_iadd C dX8_words_52 ?_
        refine jj_istore C 6 dX8_words_53 rfl (by decide) ?_
        refine jj_aload_n C 0 2 dX8_words_55 rfl rfl ?_
        refine jj_iload C 6 0 dX8_words_56 rfl ?_
        obtain ⟨v5, ev5, hx⟩ := ob hx
        refine jj_put C fd_X8_90 rfl rfl dX8_words_58 ev5 ?_
        refine jj_aload_n C 0 2 dX8_words_61 rfl rfl ?_
        refine jj_iload C 6 0 dX8_words_62 rfl ?_
        refine jj_iload C 4 6 dX8_words_64 rfl ?_
        refine jj_iadd C dX8_words_66 ?_
        obtain ⟨v6, ev6, hx⟩ := ob hx
        refine jj_callV C [.int ((((60 : Int32) * l1) + l3) + l4)] lk_X8_108 (mc_X8_readAll X.2.1 G F n ev6) (o_X8_readAll ev6) rfl rfl (Nat.le_of_ble_eq_true rfl) ⟨Nat.le_of_ble_eq_true rfl, Nat.le_of_ble_eq_true rfl⟩ ⟨Nat.zero_le _, Nat.zero_le _⟩ rfl dX8_words_67 rfl rfl ?_
        refine jj_if_ne (tgt := 84) C dX8_words_70 (by decide) (fun q70 => ?_) (fun q70 => ?_)
        · rw [if_neg q70] at hx
          refine jj_aload_n C 0 2 dX8_words_84 rfl rfl ?_
          refine jj_aload_n C 0 2 dX8_words_85 rfl rfl ?_
          obtain ⟨v7, ev7, hx⟩ := ob hx
          refine jj_getI C fd_X8_111 dX8_words_86 ev7 ?_
          obtain ⟨v8, ev8, hx⟩ := ob hx
          refine jj_put C fd_X8_87 rfl rfl dX8_words_89 ev8 ?_
          refine jj_iconst (v := 0) C dX8_words_92 (by decide) ?_
          refine jj_istore C 7 dX8_words_93 rfl (by decide) ?_
          refine jj_sub [3, 0] rfl ?_
          exact t_X8_words_95 C F F _ _ hx
        · rw [if_pos q70] at hx
          refine jj_bipush (v := (-100)) C dX8_words_73 (by decide) ?_
          refine jj_aload_n C 0 2 dX8_words_75 rfl rfl ?_
          obtain ⟨v9, ev9, hx⟩ := ob hx
          refine jj_getI C fd_X8_90 dX8_words_76 ev9 ?_
          refine jj_iload C 6 0 dX8_words_79 rfl ?_
          refine jj_isub C dX8_words_81 ?_
          refine jj_isub C dX8_words_82 ?_
          obtain rfl := Option.some.inj hx
          exact jj_iret C dX8_words_83 rfl
      · rw [if_neg q37] at hx
        refine jj_aload_n C 0 1 dX8_words_40 rfl rfl ?_
        refine jj_iload C 5 0 dX8_words_41 rfl ?_
        obtain ⟨v10, ev10, hx⟩ := ob hx
        refine jj_callV C [.int v4] lk_X8_104 (mc_X8_fails X.2.1 G F n ev10) (o_X8_fails ev10) rfl rfl (Nat.le_of_ble_eq_true rfl) ⟨Nat.le_of_ble_eq_true rfl, Nat.le_of_ble_eq_true rfl⟩ ⟨Nat.zero_le _, Nat.zero_le _⟩ rfl dX8_words_43 rfl rfl ?_
        obtain rfl := Option.some.inj hx
        exact jj_iret C dX8_words_46 rfl
    · rw [if_pos q18] at hx
      refine jj_bipush (v := (-2)) C dX8_words_21 (by decide) ?_
      obtain rfl := Option.some.inj hx
      exact jj_iret C dX8_words_23 rfl
  · rw [if_pos q9] at hx
    refine jj_iconst (v := (-1)) C dX8_words_12 (by decide) ?_
    obtain rfl := Option.some.inj hx
    exact jj_iret C dX8_words_13 rfl
