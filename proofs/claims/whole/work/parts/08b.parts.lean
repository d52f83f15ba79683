def x_X0_addLetter_81 (F : Nat) (k25 : pH → Int32 → Option pH) (h : pH) (l0 : Nat) (l1 : Nat) (l2 : Int32) : Option pH :=
  k25 h (l2 + 1)
theorem t_X0_addLetter_81 {X : pX} {G : pG} {n : Nat} {res : pH} (C : Cx X G RX0 cX0_addLetter 6 (rmD 0 0 0) n none) (F : Nat) {h : pH} {l0 : Nat} {l1 : Nat} {l2 : Int32} {k25 : pH → Int32 → Option pH} (hk25 : ∀ (h : pH) (l2 : Int32), k25 h l2 = some res → J X G (0, 0, none, n, res) (0, 0, n) h 25 [(0, .ref l0), (1, .ref l1), (2, .int l2)] []) (hx : x_X0_addLetter_81 F k25 h l0 l1 l2 = some res) : J X G (0, 0, none, n, res) (0, 0, n) h 81 [(0, .ref l0), (1, .ref l1), (2, .int l2)] [] := by
  unfold x_X0_addLetter_81 at hx
  refine jj_iinc (v := l2 + 1) C 2 2 dX0_addLetter_81 rfl rfl rfl (by decide) ?_
  refine jj_goto (tgt := 25) C dX0_addLetter_84 (by decide) ?_
  refine jj_sub [1, 2, 0] rfl ?_
  exact hk25 _ _ hx
def s_X0_addLetter_43 (F : Nat) (k25 : pH → Int32 → Option pH) (l0 : Nat) (l1 : Nat) (l2 : Int32) (l3 : Int64) (k43 : pH → Int32 → Option pH) (h : pH) (l5 : Int32) : Option pH :=
  if 3 ≤ l5 then
    x_X0_addLetter_81 F k25 h l0 l1 l2
  else
    if (lg_cmp l3 0) ≤ 0 then
      x_X0_addLetter_81 F k25 h l0 l1 l2
    else
      (getR 0 h l0 3).bind fun v1 =>
      (getR 2 h l1 3).bind fun v2 =>
      (aldI 0 h v2 (((3 : Int32) * l2) + l5)).bind fun v3 =>
      (aldL h v1 v3).bind fun v4 =>
      (astL h v1 v3 (v4 + l3)).bind fun v5 =>
      k43 v5 (l5 + 1)
def x_X0_addLetter_43 (F : Nat) (k25 : pH → Int32 → Option pH) (l0 : Nat) (l1 : Nat) (l2 : Int32) (l3 : Int64) : Nat → pH → Int32 → Option pH
  | 0, _, _ => none
  | m + 1, h, l5 => s_X0_addLetter_43 F k25 l0 l1 l2 l3 (x_X0_addLetter_43 F k25 l0 l1 l2 l3 m) h l5
theorem ts_X0_addLetter_43 {X : pX} {G : pG} {n : Nat} {res : pH} (C : Cx X G RX0 cX0_addLetter 6 (rmD 0 0 0) n none) (F : Nat) {l0 : Nat} {l1 : Nat} {l2 : Int32} {l3 : Int64} {k25 : pH → Int32 → Option pH} (hk25 : ∀ (h : pH) (l2 : Int32), k25 h l2 = some res → J X G (0, 0, none, n, res) (0, 0, n) h 25 [(0, .ref l0), (1, .ref l1), (2, .int l2)] []) {k43 : pH → Int32 → Option pH} (hk43 : ∀ (h : pH) (l5 : Int32), k43 h l5 = some res → J X G (0, 0, none, n, res) (0, 0, n) h 43 [(0, .ref l0), (1, .ref l1), (2, .int l2), (3, .long l3), (5, .int l5)] []) {h : pH} {l5 : Int32} (hx : s_X0_addLetter_43 F k25 l0 l1 l2 l3 k43 h l5 = some res) : J X G (0, 0, none, n, res) (0, 0, n) h 43 [(0, .ref l0), (1, .ref l1), (2, .int l2), (3, .long l3), (5, .int l5)] [] := by
  unfold s_X0_addLetter_43 at hx
  refine jj_iload C 5 4 dX0_addLetter_43 rfl ?_
  refine jj_iconst (v := 3) C dX0_addLetter_45 (by decide) ?_
  refine jj_icmp_ge (tgt := 81) C dX0_addLetter_46 (by decide) (fun q46 => ?_) (fun q46 => ?_)
  · rw [if_pos q46] at hx
    refine jj_sub [0, 1, 2] rfl ?_
    exact t_X0_addLetter_81 C F hk25 hx
  · rw [if_neg q46] at hx
    refine jj_lload_n C 3 3 dX0_addLetter_49 rfl rfl ?_
    refine jj_lconst (v := 0) C dX0_addLetter_50 (by decide) ?_
    refine jj_lcmp C dX0_addLetter_51 ?_
    refine jj_if_le (tgt := 81) C dX0_addLetter_52 (by decide) (fun q52 => ?_) (fun q52 => ?_)
    · rw [if_pos q52] at hx
      refine jj_sub [0, 1, 2] rfl ?_
      exact t_X0_addLetter_81 C F hk25 hx
    · rw [if_neg q52] at hx
      refine jj_aload_n C 0 0 dX0_addLetter_55 rfl rfl ?_
      obtain ⟨v1, ev1, hx⟩ := ob hx
      refine jj_getR C fd_X0_23 dX0_addLetter_56 ev1 ?_
      refine jj_aload_n C 1 1 dX0_addLetter_59 rfl rfl ?_
      obtain ⟨v2, ev2, hx⟩ := ob hx
      refine jj_getR C fd_X0_46 dX0_addLetter_60 ev2 ?_
      refine jj_iconst (v := 3) C dX0_addLetter_63 (by decide) ?_
      refine jj_iload_n C 2 2 dX0_addLetter_64 rfl rfl ?_
      refine jj_imul C dX0_addLetter_65 ?_
      refine jj_iload C 5 4 dX0_addLetter_66 rfl ?_
      refine jj_iadd C dX0_addLetter_68 ?_
      obtain ⟨v3, ev3, hx⟩ := ob hx
      refine jj_iald C dX0_addLetter_69 ev3 ?_
      refine jj_dup2 C dX0_addLetter_70 rfl rfl ?_
      obtain ⟨v4, ev4, hx⟩ := ob hx
      refine jj_lald C dX0_addLetter_71 ev4 ?_
      refine jj_lload_n C 3 3 dX0_addLetter_72 rfl rfl ?_
      refine jj_ladd C dX0_addLetter_73 ?_
      obtain ⟨v5, ev5, hx⟩ := ob hx
      refine jj_last C dX0_addLetter_74 ev5 ?_
      refine jj_iinc (v := l5 + 1) C 5 4 dX0_addLetter_75 rfl rfl rfl (by decide) ?_
      refine jj_goto (tgt := 43) C dX0_addLetter_78 (by decide) ?_
      refine jj_sub [1, 2, 3, 4, 0] rfl ?_
      exact hk43 _ _ hx
theorem t_X0_addLetter_43 {X : pX} {G : pG} {n : Nat} {res : pH} (C : Cx X G RX0 cX0_addLetter 6 (rmD 0 0 0) n none) (F : Nat) {l0 : Nat} {l1 : Nat} {l2 : Int32} {l3 : Int64} {k25 : pH → Int32 → Option pH} (hk25 : ∀ (h : pH) (l2 : Int32), k25 h l2 = some res → J X G (0, 0, none, n, res) (0, 0, n) h 25 [(0, .ref l0), (1, .ref l1), (2, .int l2)] []) : ∀ (m : Nat) (h : pH) (l5 : Int32), x_X0_addLetter_43 F k25 l0 l1 l2 l3 m h l5 = some res → J X G (0, 0, none, n, res) (0, 0, n) h 43 [(0, .ref l0), (1, .ref l1), (2, .int l2), (3, .long l3), (5, .int l5)] [] := by
  intro m
  induction m with
  | zero => intro h l5 hx; exact nomatch (show (none : Option pH) = some res from hx)
  | succ m ih => intro h l5 hx; exact ts_X0_addLetter_43 C F hk25 ih hx
def s_X0_addLetter_25 (F : Nat)  (l0 : Nat) (l1 : Nat) (k25 : pH → Int32 → Option pH) (h : pH) (l2 : Int32) : Option pH :=
  (getI 2 h l1 5).bind fun v1 =>
  if v1 ≤ l2 then
    (getR 0 h l0 2).bind fun v2 =>
    (getR 0 h l0 3).bind fun v3 =>
    (putV 0 h l0 2 (.ref v3)).bind fun v4 =>
    (putV 0 v4 l0 3 (.ref v2)).bind fun v5 =>
    some v5
  else
    (getR 0 h l0 2).bind fun v6 =>
    (aldL h v6 l2).bind fun v7 =>
    x_X0_addLetter_43 F k25 l0 l1 l2 v7 F h 0
def x_X0_addLetter_25 (F : Nat)  (l0 : Nat) (l1 : Nat) : Nat → pH → Int32 → Option pH
  | 0, _, _ => none
  | m + 1, h, l2 => s_X0_addLetter_25 F l0 l1 (x_X0_addLetter_25 F l0 l1 m) h l2
theorem ts_X0_addLetter_25 {X : pX} {G : pG} {n : Nat} {res : pH} (C : Cx X G RX0 cX0_addLetter 6 (rmD 0 0 0) n none) (F : Nat) {l0 : Nat} {l1 : Nat} {k25 : pH → Int32 → Option pH} (hk25 : ∀ (h : pH) (l2 : Int32), k25 h l2 = some res → J X G (0, 0, none, n, res) (0, 0, n) h 25 [(0, .ref l0), (1, .ref l1), (2, .int l2)] []) {h : pH} {l2 : Int32} (hx : s_X0_addLetter_25 F l0 l1 k25 h l2 = some res) : J X G (0, 0, none, n, res) (0, 0, n) h 25 [(0, .ref l0), (1, .ref l1), (2, .int l2)] [] := by
  unfold s_X0_addLetter_25 at hx
  refine jj_iload_n C 2 2 dX0_addLetter_25 rfl rfl ?_
  refine jj_aload_n C 1 1 dX0_addLetter_26 rfl rfl ?_
  obtain ⟨v1, ev1, hx⟩ := ob hx
  refine jj_getI C fd_X0_43 dX0_addLetter_27 ev1 ?_
  refine jj_icmp_ge (tgt := 87) C dX0_addLetter_30 (by decide) (fun q30 => ?_) (fun q30 => ?_)
  · rw [if_pos q30] at hx
    refine jj_aload_n C 0 0 dX0_addLetter_87 rfl rfl ?_
    obtain ⟨v2, ev2, hx⟩ := ob hx
    refine jj_getR C fd_X0_20 dX0_addLetter_88 ev2 ?_
    refine jj_astore_n C 2 dX0_addLetter_91 rfl rfl (by decide) ?_
    refine jj_aload_n C 0 1 dX0_addLetter_92 rfl rfl ?_
    refine jj_aload_n C 0 1 dX0_addLetter_93 rfl rfl ?_
    obtain ⟨v3, ev3, hx⟩ := ob hx
    refine jj_getR C fd_X0_23 dX0_addLetter_94 ev3 ?_
    obtain ⟨v4, ev4, hx⟩ := ob hx
    refine jj_put C fd_X0_20 rfl rfl dX0_addLetter_97 ev4 ?_
    refine jj_aload_n C 0 1 dX0_addLetter_100 rfl rfl ?_
    refine jj_aload_n C 2 0 dX0_addLetter_101 rfl rfl ?_
    obtain ⟨v5, ev5, hx⟩ := ob hx
    refine jj_put C fd_X0_23 rfl rfl dX0_addLetter_102 ev5 ?_
    obtain rfl := Option.some.inj hx
    exact jj_vret C dX0_addLetter_105 rfl
  · rw [if_neg q30] at hx
    refine jj_aload_n C 0 0 dX0_addLetter_33 rfl rfl ?_
    obtain ⟨v6, ev6, hx⟩ := ob hx
    refine jj_getR C fd_X0_20 dX0_addLetter_34 ev6 ?_
    refine jj_iload_n C 2 2 dX0_addLetter_37 rfl rfl ?_
    obtain ⟨v7, ev7, hx⟩ := ob hx
    refine jj_lald C dX0_addLetter_38 ev7 ?_
    refine jj_lstore_n C 3 dX0_addLetter_39 rfl rfl (by decide) ?_
    refine jj_iconst (v := 0) C dX0_addLetter_40 (by decide) ?_
    refine jj_istore C 5 dX0_addLetter_41 rfl (by decide) ?_
    refine jj_sub [2, 3, 4, 1, 0] rfl ?_
    exact t_X0_addLetter_43 C F hk25 F _ _ hx
theorem t_X0_addLetter_25 {X : pX} {G : pG} {n : Nat} {res : pH} (C : Cx X G RX0 cX0_addLetter 6 (rmD 0 0 0) n none) (F : Nat) {l0 : Nat} {l1 : Nat} : ∀ (m : Nat) (h : pH) (l2 : Int32), x_X0_addLetter_25 F l0 l1 m h l2 = some res → J X G (0, 0, none, n, res) (0, 0, n) h 25 [(0, .ref l0), (1, .ref l1), (2, .int l2)] [] := by
  intro m
  induction m with
  | zero => intro h l2 hx; exact nomatch (show (none : Option pH) = some res from hx)
  | succ m ih => intro h l2 hx; exact ts_X0_addLetter_25 C F  ih hx
def s_X0_addLetter_2 (F : Nat)  (l0 : Nat) (l1 : Nat) (k2 : pH → Int32 → Option pH) (h : pH) (l2 : Int32) : Option pH :=
  (getI 2 h l1 5).bind fun v1 =>
  if v1 ≤ l2 then
    x_X0_addLetter_25 F l0 l1 F h 0
  else
    (getR 0 h l0 3).bind fun v2 =>
    (astL h v2 l2 0).bind fun v3 =>
    k2 v3 (l2 + 1)
def x_X0_addLetter_2 (F : Nat)  (l0 : Nat) (l1 : Nat) : Nat → pH → Int32 → Option pH
  | 0, _, _ => none
  | m + 1, h, l2 => s_X0_addLetter_2 F l0 l1 (x_X0_addLetter_2 F l0 l1 m) h l2
theorem ts_X0_addLetter_2 {X : pX} {G : pG} {n : Nat} {res : pH} (C : Cx X G RX0 cX0_addLetter 6 (rmD 0 0 0) n none) (F : Nat) {l0 : Nat} {l1 : Nat} {k2 : pH → Int32 → Option pH} (hk2 : ∀ (h : pH) (l2 : Int32), k2 h l2 = some res → J X G (0, 0, none, n, res) (0, 0, n) h 2 [(0, .ref l0), (1, .ref l1), (2, .int l2)] []) {h : pH} {l2 : Int32} (hx : s_X0_addLetter_2 F l0 l1 k2 h l2 = some res) : J X G (0, 0, none, n, res) (0, 0, n) h 2 [(0, .ref l0), (1, .ref l1), (2, .int l2)] [] := by
  unfold s_X0_addLetter_2 at hx
  refine jj_iload_n C 2 2 dX0_addLetter_2 rfl rfl ?_
  refine jj_aload_n C 1 1 dX0_addLetter_3 rfl rfl ?_
  obtain ⟨v1, ev1, hx⟩ := ob hx
  refine jj_getI C fd_X0_43 dX0_addLetter_4 ev1 ?_
  refine jj_icmp_ge (tgt := 23) C dX0_addLetter_7 (by decide) (fun q7 => ?_) (fun q7 => ?_)
  · rw [if_pos q7] at hx
    refine jj_iconst (v := 0) C dX0_addLetter_23 (by decide) ?_
    refine jj_istore_n C 2 dX0_addLetter_24 rfl rfl (by decide) ?_
    refine jj_sub [1, 2, 0] rfl ?_
    exact t_X0_addLetter_25 C F F _ _ hx
  · rw [if_neg q7] at hx
    refine jj_aload_n C 0 0 dX0_addLetter_10 rfl rfl ?_
    obtain ⟨v2, ev2, hx⟩ := ob hx
    refine jj_getR C fd_X0_23 dX0_addLetter_11 ev2 ?_
    refine jj_iload_n C 2 2 dX0_addLetter_14 rfl rfl ?_
    refine jj_lconst (v := 0) C dX0_addLetter_15 (by decide) ?_
    obtain ⟨v3, ev3, hx⟩ := ob hx
    refine jj_last C dX0_addLetter_16 ev3 ?_
    refine jj_iinc (v := l2 + 1) C 2 2 dX0_addLetter_17 rfl rfl rfl (by decide) ?_
    refine jj_goto (tgt := 2) C dX0_addLetter_20 (by decide) ?_
    refine jj_sub [1, 2, 0] rfl ?_
    exact hk2 _ _ hx
theorem t_X0_addLetter_2 {X : pX} {G : pG} {n : Nat} {res : pH} (C : Cx X G RX0 cX0_addLetter 6 (rmD 0 0 0) n none) (F : Nat) {l0 : Nat} {l1 : Nat} : ∀ (m : Nat) (h : pH) (l2 : Int32), x_X0_addLetter_2 F l0 l1 m h l2 = some res → J X G (0, 0, none, n, res) (0, 0, n) h 2 [(0, .ref l0), (1, .ref l1), (2, .int l2)] [] := by
  intro m
  induction m with
  | zero => intro h l2 hx; exact nomatch (show (none : Option pH) = some res from hx)
  | succ m ih => intro h l2 hx; exact ts_X0_addLetter_2 C F  ih hx
def x_X0_addLetter (F : Nat) (h : pH) (l0 : Nat) (l1 : Nat) : Option pH :=
  (chk 0 h l0).bind fun _ =>
  x_X0_addLetter_2 F l0 l1 F h 0
theorem o_X0_addLetter {F : Nat} {h : pH} {l0 : Nat} {l1 : Nat} {res : pH} (hx : x_X0_addLetter F h l0 l1 = some res) : chk 0 h l0 = some () := by
  unfold x_X0_addLetter at hx
  obtain ⟨_, e, _⟩ := ob hx
  exact e
theorem mc_X0_addLetter (l : Launch) (G : pG) (F n : Nat) {h : pH} {l0 : Nat} {l1 : Nat} {res : pH} (hx : x_X0_addLetter F h l0 l1 = some res) : MC l yX0_addLetter cX0_addLetter 6 none (rmD 0 0 0) G [.ref l0, .ref l1] n h (none) n res := by
  unfold x_X0_addLetter at hx
  obtain ⟨_, _, hx⟩ := ob hx
  refine jj_entry RX0 rfl (by decide) (Nat.le_of_ble_eq_true rfl) (fun X _ _ C => ?_)
  show J X G (0, 0, none, n, res) (0, 0, n) h 0 [(0, .ref l0), (1, .ref l1)] []
  refine jj_iconst (v := 0) C dX0_addLetter_0 (by decide) ?_
  refine jj_istore_n C 2 dX0_addLetter_1 rfl rfl (by decide) ?_
  refine jj_sub [1, 2, 0] rfl ?_
  exact t_X0_addLetter_2 C F F _ _ hx
def x_X2_isSilent (F : Nat) (h : pH) (l0 : Nat) (l1 : Int32) : Option Int32 :=
  (chk 2 h l0).bind fun _ =>
  (getR 2 h l0 1).bind fun v1 =>
  (aldI 0 h v1 l1).bind fun v2 =>
  if (v2 - v2 / (16 : Int32) * (16 : Int32)) = 0 then
    some (1 : Int32)
  else
    some (0 : Int32)
theorem o_X2_isSilent {F : Nat} {h : pH} {l0 : Nat} {l1 : Int32} {res : Int32} (hx : x_X2_isSilent F h l0 l1 = some res) : chk 2 h l0 = some () := by
  unfold x_X2_isSilent at hx
  obtain ⟨_, e, _⟩ := ob hx
  exact e
theorem mc_X2_isSilent (l : Launch) (G : pG) (F n : Nat) {h : pH} {l0 : Nat} {l1 : Int32} {res : Int32} (hx : x_X2_isSilent F h l0 l1 = some res) : MC l yX2_isSilent cX2_isSilent 2 (some (FieldType.boolean)) (rmD 0 0 0) G [.ref l0, .int l1] n h (some (.int res)) n h := by
  unfold x_X2_isSilent at hx
  obtain ⟨_, _, hx⟩ := ob hx
  refine jj_entry RX2 rfl (by decide) (Nat.le_of_ble_eq_true rfl) (fun X _ _ C => ?_)
  show J X G (0, 0, some (.int res), n, h) (0, 0, n) h 0 [(0, .ref l0), (1, .int l1)] []
  refine jj_aload_n C 0 0 dX2_isSilent_0 rfl rfl ?_
  obtain ⟨v1, ev1, hx⟩ := ob hx
  refine jj_getR C fd_X2_17 dX2_isSilent_1 ev1 ?_
  refine jj_iload_n C 1 1 dX2_isSilent_4 rfl rfl ?_
  obtain ⟨v2, ev2, hx⟩ := ob hx
  refine jj_iald C dX2_isSilent_5 ev2 ?_
  refine jj_bipush (v := 16) C dX2_isSilent_6 (by decide) ?_
  refine jj_irem C dX2_isSilent_8 (by decide) ?_
  refine jj_if_ne (tgt := 16) C dX2_isSilent_9 (by decide) (fun q9 => ?_) (fun q9 => ?_)
  · rw [if_neg q9] at hx
    refine jj_iconst (v := 0) C dX2_isSilent_16 (by decide) ?_
    obtain rfl := Option.some.inj hx
    exact jj_zret C (Or.inl rfl) dX2_isSilent_17 rfl
  · rw [if_pos q9] at hx
    refine jj_iconst (v := 1) C dX2_isSilent_12 (by decide) ?_
    refine jj_goto (tgt := 17) C dX2_isSilent_13 (by decide) ?_
    obtain rfl := Option.some.inj hx
    exact jj_zret C (Or.inr rfl) dX2_isSilent_17 rfl
def x_X0_addUp_33 (F : Nat) (k5 : Int64 → Int32 → Option pH) (h : pH) (l0 : Nat) (l1 : Nat) (l2 : Int64) (l4 : Int32) : Option pH :=
  k5 l2 (l4 + 1)
theorem t_X0_addUp_33 {X : pX} {G : pG} {n : Nat} {res : pH} (C : Cx X G RX0 cX0_addUp 5 (rmD 1 0 0) n none) (F : Nat) {h : pH} {l0 : Nat} {l1 : Nat} {l2 : Int64} {l4 : Int32} {k5 : Int64 → Int32 → Option pH} (hk5 : ∀ (l2 : Int64) (l4 : Int32), k5 l2 l4 = some res → J X G (0, 0, none, n, res) (0, 0, n) h 5 [(0, .ref l0), (1, .ref l1), (2, .long l2), (4, .int l4)] []) (hx : x_X0_addUp_33 F k5 h l0 l1 l2 l4 = some res) : J X G (0, 0, none, n, res) (0, 0, n) h 33 [(0, .ref l0), (1, .ref l1), (2, .long l2), (4, .int l4)] [] := by
  unfold x_X0_addUp_33 at hx
  refine jj_iinc (v := l4 + 1) C 4 3 dX0_addUp_33 rfl rfl rfl (by decide) ?_
  refine jj_goto (tgt := 5) C dX0_addUp_36 (by decide) ?_
  refine jj_sub [1, 2, 3, 0] rfl ?_
  exact hk5 _ _ hx
def s_X0_addUp_5 (F : Nat)  (h : pH) (l0 : Nat) (l1 : Nat) (k5 : Int64 → Int32 → Option pH) (l2 : Int64) (l4 : Int32) : Option pH :=
  (getI 2 h l1 5).bind fun v1 =>
  if v1 ≤ l4 then
    (getR 0 h l0 0).bind fun v2 =>
    (getI 0 h l0 4).bind fun v3 =>
    (getR 0 h l0 2).bind fun v4 =>
    (getI 2 h l1 6).bind fun v5 =>
    (aldL h v4 v5).bind fun v6 =>
    (astL h v2 v3 v6).bind fun v7 =>
    (getR 0 v7 l0 1).bind fun v8 =>
    (getI 0 v7 l0 4).bind fun v9 =>
    (astL v7 v8 v9 l2).bind fun v10 =>
    some v10
  else
    (x_X2_isSilent F h l1 l4).bind fun v11 =>
    if v11 = 0 then
      x_X0_addUp_33 F k5 h l0 l1 l2 l4
    else
      (getR 0 h l0 2).bind fun v12 =>
      (aldL h v12 l4).bind fun v13 =>
      x_X0_addUp_33 F k5 h l0 l1 (l2 + v13) l4
def x_X0_addUp_5 (F : Nat)  (h : pH) (l0 : Nat) (l1 : Nat) : Nat → Int64 → Int32 → Option pH
  | 0, _, _ => none
  | m + 1, l2, l4 => s_X0_addUp_5 F h l0 l1 (x_X0_addUp_5 F h l0 l1 m) l2 l4
theorem ts_X0_addUp_5 {X : pX} {G : pG} {n : Nat} {res : pH} (C : Cx X G RX0 cX0_addUp 5 (rmD 1 0 0) n none) (F : Nat) {h : pH} {l0 : Nat} {l1 : Nat} {k5 : Int64 → Int32 → Option pH} (hk5 : ∀ (l2 : Int64) (l4 : Int32), k5 l2 l4 = some res → J X G (0, 0, none, n, res) (0, 0, n) h 5 [(0, .ref l0), (1, .ref l1), (2, .long l2), (4, .int l4)] []) {l2 : Int64} {l4 : Int32} (hx : s_X0_addUp_5 F h l0 l1 k5 l2 l4 = some res) : J X G (0, 0, none, n, res) (0, 0, n) h 5 [(0, .ref l0), (1, .ref l1), (2, .long l2), (4, .int l4)] [] := by
  unfold s_X0_addUp_5 at hx
  refine jj_iload C 4 3 dX0_addUp_5 rfl ?_
  refine jj_aload_n C 1 1 dX0_addUp_7 rfl rfl ?_
  obtain ⟨v1, ev1, hx⟩ := ob hx
  refine jj_getI C fd_X0_43 dX0_addUp_8 ev1 ?_
  refine jj_icmp_ge (tgt := 39) C dX0_addUp_11 (by decide) (fun q11 => ?_) (fun q11 => ?_)
  · rw [if_pos q11] at hx
    refine jj_aload_n C 0 0 dX0_addUp_39 rfl rfl ?_
    obtain ⟨v2, ev2, hx⟩ := ob hx
    refine jj_getR C fd_X0_9 dX0_addUp_40 ev2 ?_
    refine jj_aload_n C 0 0 dX0_addUp_43 rfl rfl ?_
    obtain ⟨v3, ev3, hx⟩ := ob hx
    refine jj_getI C fd_X0_32 dX0_addUp_44 ev3 ?_
    refine jj_aload_n C 0 0 dX0_addUp_47 rfl rfl ?_
    obtain ⟨v4, ev4, hx⟩ := ob hx
    refine jj_getR C fd_X0_20 dX0_addUp_48 ev4 ?_
    refine jj_aload_n C 1 1 dX0_addUp_51 rfl rfl ?_
    obtain ⟨v5, ev5, hx⟩ := ob hx
    refine jj_getI C fd_X0_54 dX0_addUp_52 ev5 ?_
    obtain ⟨v6, ev6, hx⟩ := ob hx
    refine jj_lald C dX0_addUp_55 ev6 ?_
    obtain ⟨v7, ev7, hx⟩ := ob hx
    refine jj_last C dX0_addUp_56 ev7 ?_
    refine jj_aload_n C 0 0 dX0_addUp_57 rfl rfl ?_
    obtain ⟨v8, ev8, hx⟩ := ob hx
    refine jj_getR C fd_X0_15 dX0_addUp_58 ev8 ?_
    refine jj_aload_n C 0 0 dX0_addUp_61 rfl rfl ?_
    obtain ⟨v9, ev9, hx⟩ := ob hx
    refine jj_getI C fd_X0_32 dX0_addUp_62 ev9 ?_
    refine jj_lload_n C 2 2 dX0_addUp_65 rfl rfl ?_
    obtain ⟨v10, ev10, hx⟩ := ob hx
    refine jj_last C dX0_addUp_66 ev10 ?_
    obtain rfl := Option.some.inj hx
    exact jj_vret C dX0_addUp_67 rfl
  · rw [if_neg q11] at hx
    refine jj_aload_n C 1 1 dX0_addUp_14 rfl rfl ?_
    refine jj_iload C 4 3 dX0_addUp_15 rfl ?_
    obtain ⟨v11, ev11, hx⟩ := ob hx
    refine jj_callV C [.int l4] lk_X0_50 (mc_X2_isSilent X.2.1 G F n ev11) (o_X2_isSilent ev11) rfl rfl (Nat.le_of_ble_eq_true rfl) ⟨Nat.le_of_ble_eq_true rfl, Nat.le_of_ble_eq_true rfl⟩ ⟨Nat.zero_le _, Nat.zero_le _⟩ rfl dX0_addUp_17 rfl rfl ?_
    refine jj_if_eq (tgt := 33) C dX0_addUp_20 (by decide) (fun q20 => ?_) (fun q20 => ?_)
    · rw [if_pos q20] at hx
      exact t_X0_addUp_33 C F hk5 hx
    · rw [if_neg q20] at hx
      refine jj_lload_n C 2 2 dX0_addUp_23 rfl rfl ?_
      refine jj_aload_n C 0 0 dX0_addUp_24 rfl rfl ?_
      obtain ⟨v12, ev12, hx⟩ := ob hx
      refine jj_getR C fd_X0_20 dX0_addUp_25 ev12 ?_
      refine jj_iload C 4 3 dX0_addUp_28 rfl ?_
      obtain ⟨v13, ev13, hx⟩ := ob hx
      refine jj_lald C dX0_addUp_30 ev13 ?_
      refine jj_ladd C dX0_addUp_31 ?_
      refine jj_lstore_n C 2 dX0_addUp_32 rfl rfl (by decide) ?_
      refine jj_sub [1, 2, 0, 3] rfl ?_
      exact t_X0_addUp_33 C F hk5 hx
theorem t_X0_addUp_5 {X : pX} {G : pG} {n : Nat} {res : pH} (C : Cx X G RX0 cX0_addUp 5 (rmD 1 0 0) n none) (F : Nat) {h : pH} {l0 : Nat} {l1 : Nat} : ∀ (m : Nat) (l2 : Int64) (l4 : Int32), x_X0_addUp_5 F h l0 l1 m l2 l4 = some res → J X G (0, 0, none, n, res) (0, 0, n) h 5 [(0, .ref l0), (1, .ref l1), (2, .long l2), (4, .int l4)] [] := by
  intro m
  induction m with
  | zero => intro l2 l4 hx; exact nomatch (show (none : Option pH) = some res from hx)
  | succ m ih => intro l2 l4 hx; exact ts_X0_addUp_5 C F  ih hx
def x_X0_addUp (F : Nat) (h : pH) (l0 : Nat) (l1 : Nat) : Option pH :=
  (chk 0 h l0).bind fun _ =>
  x_X0_addUp_5 F h l0 l1 F 0 0
theorem o_X0_addUp {F : Nat} {h : pH} {l0 : Nat} {l1 : Nat} {res : pH} (hx : x_X0_addUp F h l0 l1 = some res) : chk 0 h l0 = some () := by
  unfold x_X0_addUp at hx
  obtain ⟨_, e, _⟩ := ob hx
  exact e
theorem mc_X0_addUp (l : Launch) (G : pG) (F n : Nat) {h : pH} {l0 : Nat} {l1 : Nat} {res : pH} (hx : x_X0_addUp F h l0 l1 = some res) : MC l yX0_addUp cX0_addUp 5 none (rmD 1 0 0) G [.ref l0, .ref l1] n h (none) n res := by
  unfold x_X0_addUp at hx
  obtain ⟨_, _, hx⟩ := ob hx
  refine jj_entry RX0 rfl (by decide) (Nat.le_of_ble_eq_true rfl) (fun X _ _ C => ?_)
  show J X G (0, 0, none, n, res) (0, 0, n) h 0 [(0, .ref l0), (1, .ref l1)] []
  refine jj_lconst (v := 0) C dX0_addUp_0 (by decide) ?_
  refine jj_lstore_n C 2 dX0_addUp_1 rfl rfl (by decide) ?_
  refine jj_iconst (v := 0) C dX0_addUp_2 (by decide) ?_
  refine jj_istore C 4 dX0_addUp_3 rfl (by decide) ?_
  refine jj_sub [2, 3, 1, 0] rfl ?_
  exact t_X0_addUp_5 C F F _ _ hx
def x_X0_begin (F : Nat) (h : pH) (l0 : Nat) (l1 : Nat) : Option pH :=
  (chk 0 h l0).bind fun _ =>
  (getR 0 h l0 2).bind fun v1 =>
  (x_J7_fill_d0a16 F h v1 0).bind fun v2 =>
  (getR 0 v2 l0 2).bind fun v3 =>
  (astL v2 v3 0 1).bind fun v4 =>
  (putV 0 v4 l0 4 (.int 0)).bind fun v5 =>
  (x_X0_addUp F v5 l0 l1).bind fun v6 =>
  some v6
theorem o_X0_begin {F : Nat} {h : pH} {l0 : Nat} {l1 : Nat} {res : pH} (hx : x_X0_begin F h l0 l1 = some res) : chk 0 h l0 = some () := by
  unfold x_X0_begin at hx
  obtain ⟨_, e, _⟩ := ob hx
  exact e
theorem mc_X0_begin (l : Launch) (G : pG) (F n : Nat) {h : pH} {l0 : Nat} {l1 : Nat} {res : pH} (hx : x_X0_begin F h l0 l1 = some res) : MC l yX0_begin cX0_begin 2 none (rmD 2 0 0) G [.ref l0, .ref l1] n h (none) n res := by
  unfold x_X0_begin at hx
  obtain ⟨_, _, hx⟩ := ob hx
  refine jj_entry RX0 rfl (by decide) (Nat.le_of_ble_eq_true rfl) (fun X _ _ C => ?_)
  show J X G (0, 0, none, n, res) (0, 0, n) h 0 [(0, .ref l0), (1, .ref l1)] []
  refine jj_aload_n C 0 0 dX0_begin_0 rfl rfl ?_
  obtain ⟨v1, ev1, hx⟩ := ob hx
  refine jj_getR C fd_X0_20 dX0_begin_1 ev1 ?_
  refine jj_lconst (v := 0) C dX0_begin_4 (by decide) ?_
  obtain ⟨v2, ev2, hx⟩ := ob hx
  refine jj_callS C [.ref v1, .long 0] lk_X0_26 (mc_J7_fill_d0a16 X.2.1 G F n ev2) rfl rfl (Nat.le_of_ble_eq_true rfl) ⟨Nat.le_of_ble_eq_true rfl, Nat.le_of_ble_eq_true rfl⟩ ⟨Nat.zero_le _, Nat.zero_le _⟩ rfl dX0_begin_5 rfl rfl ?_
  refine jj_aload_n C 0 0 dX0_begin_8 rfl rfl ?_
  obtain ⟨v3, ev3, hx⟩ := ob hx
  refine jj_getR C fd_X0_20 dX0_begin_9 ev3 ?_
  refine jj_iconst (v := 0) C dX0_begin_12 (by decide) ?_
  refine jj_lconst (v := 1) C dX0_begin_13 (by decide) ?_
  obtain ⟨v4, ev4, hx⟩ := ob hx
  refine jj_last C dX0_begin_14 ev4 ?_
  refine jj_aload_n C 0 0 dX0_begin_15 rfl rfl ?_
  refine jj_iconst (v := 0) C dX0_begin_16 (by decide) ?_
  obtain ⟨v5, ev5, hx⟩ := ob hx
  refine jj_put C fd_X0_32 rfl rfl dX0_begin_17 ev5 ?_
  refine jj_aload_n C 0 0 dX0_begin_20 rfl rfl ?_
  refine jj_aload_n C 1 1 dX0_begin_21 rfl rfl ?_
  obtain ⟨v6, ev6, hx⟩ := ob hx
  refine jj_callV C [.ref l1] lk_X0_36 (mc_X0_addUp X.2.1 G F n ev6) (o_X0_addUp ev6) rfl rfl (Nat.le_of_ble_eq_true rfl) ⟨Nat.le_of_ble_eq_true rfl, Nat.le_of_ble_eq_true rfl⟩ ⟨Nat.zero_le _, Nat.zero_le _⟩ rfl dX0_begin_22 rfl rfl ?_
  obtain rfl := Option.some.inj hx
  exact jj_vret C dX0_begin_25 rfl
def s_X0_countTo_0 (F : Nat)  (l0 : Nat) (l1 : Nat) (l2 : Int32) (k0 : pH → Option pH) (h : pH) : Option pH :=
  (getI 0 h l0 4).bind fun v1 =>
  if l2 ≤ v1 then
    some h
  else
    (getI 0 h l0 4).bind fun v2 =>
    if 30 ≤ v2 then
      some h
    else
      (x_X0_addLetter F h l0 l1).bind fun v3 =>
      (getI 0 v3 l0 4).bind fun v4 =>
      (putV 0 v3 l0 4 (.int (v4 + (1 : Int32)))).bind fun v5 =>
      (x_X0_addUp F v5 l0 l1).bind fun v6 =>
      k0 v6
def x_X0_countTo_0 (F : Nat)  (l0 : Nat) (l1 : Nat) (l2 : Int32) : Nat → pH → Option pH
  | 0, _ => none
  | m + 1, h => s_X0_countTo_0 F l0 l1 l2 (x_X0_countTo_0 F l0 l1 l2 m) h
theorem ts_X0_countTo_0 {X : pX} {G : pG} {n : Nat} {res : pH} (C : Cx X G RX0 cX0_countTo 3 (rmD 2 0 0) n none) (F : Nat) {l0 : Nat} {l1 : Nat} {l2 : Int32} {k0 : pH → Option pH} (hk0 : ∀ (h : pH), k0 h = some res → J X G (0, 0, none, n, res) (0, 0, n) h 0 [(0, .ref l0), (1, .ref l1), (2, .int l2)] []) {h : pH} (hx : s_X0_countTo_0 F l0 l1 l2 k0 h = some res) : J X G (0, 0, none, n, res) (0, 0, n) h 0 [(0, .ref l0), (1, .ref l1), (2, .int l2)] [] := by
  unfold s_X0_countTo_0 at hx
  refine jj_aload_n C 0 0 dX0_countTo_0 rfl rfl ?_
  obtain ⟨v1, ev1, hx⟩ := ob hx
  refine jj_getI C fd_X0_32 dX0_countTo_1 ev1 ?_
  refine jj_iload_n C 2 2 dX0_countTo_4 rfl rfl ?_
  refine jj_icmp_ge (tgt := 40) C dX0_countTo_5 (by decide) (fun q5 => ?_) (fun q5 => ?_)
  · rw [if_pos q5] at hx
    obtain rfl := Option.some.inj hx
    exact jj_vret C dX0_countTo_40 rfl
  · rw [if_neg q5] at hx
    refine jj_aload_n C 0 0 dX0_countTo_8 rfl rfl ?_
    obtain ⟨v2, ev2, hx⟩ := ob hx
    refine jj_getI C fd_X0_32 dX0_countTo_9 ev2 ?_
    refine jj_bipush (v := 30) C dX0_countTo_12 (by decide) ?_
    refine jj_icmp_ge (tgt := 40) C dX0_countTo_14 (by decide) (fun q14 => ?_) (fun q14 => ?_)
    · rw [if_pos q14] at hx
      obtain rfl := Option.some.inj hx
      exact jj_vret C dX0_countTo_40 rfl
    · rw [if_neg q14] at hx
      refine jj_aload_n C 0 0 dX0_countTo_17 rfl rfl ?_
      refine jj_aload_n C 1 1 dX0_countTo_18 rfl rfl ?_
      obtain ⟨v3, ev3, hx⟩ := ob hx
      refine jj_callV C [.ref l1] lk_X0_40 (mc_X0_addLetter X.2.1 G F n ev3) (o_X0_addLetter ev3) rfl rfl (Nat.le_of_ble_eq_true rfl) ⟨Nat.le_of_ble_eq_true rfl, Nat.le_of_ble_eq_true rfl⟩ ⟨Nat.zero_le _, Nat.zero_le _⟩ rfl dX0_countTo_19 rfl rfl ?_
      refine jj_aload_n C 0 0 dX0_countTo_22 rfl rfl ?_
      refine jj_dup C dX0_countTo_23 rfl ?_
      obtain ⟨v4, ev4, hx⟩ := ob hx
      refine jj_getI C fd_X0_32 dX0_countTo_24 ev4 ?_
      refine jj_iconst (v := 1) C dX0_countTo_27 (by decide) ?_
      refine jj_iadd C dX0_countTo_28 ?_
      obtain ⟨v5, ev5, hx⟩ := ob hx
      refine jj_put C fd_X0_32 rfl rfl dX0_countTo_29 ev5 ?_
      refine jj_aload_n C 0 0 dX0_countTo_32 rfl rfl ?_
      refine jj_aload_n C 1 1 dX0_countTo_33 rfl rfl ?_
      obtain ⟨v6, ev6, hx⟩ := ob hx
      refine jj_callV C [.ref l1] lk_X0_36 (mc_X0_addUp X.2.1 G F n ev6) (o_X0_addUp ev6) rfl rfl (Nat.le_of_ble_eq_true rfl) ⟨Nat.le_of_ble_eq_true rfl, Nat.le_of_ble_eq_true rfl⟩ ⟨Nat.zero_le _, Nat.zero_le _⟩ rfl dX0_countTo_34 rfl rfl ?_
      refine jj_goto (tgt := 0) C dX0_countTo_37 (by decide) ?_
      exact hk0 _ hx
theorem t_X0_countTo_0 {X : pX} {G : pG} {n : Nat} {res : pH} (C : Cx X G RX0 cX0_countTo 3 (rmD 2 0 0) n none) (F : Nat) {l0 : Nat} {l1 : Nat} {l2 : Int32} : ∀ (m : Nat) (h : pH), x_X0_countTo_0 F l0 l1 l2 m h = some res → J X G (0, 0, none, n, res) (0, 0, n) h 0 [(0, .ref l0), (1, .ref l1), (2, .int l2)] [] := by
  intro m
  induction m with
  | zero => intro h hx; exact nomatch (show (none : Option pH) = some res from hx)
  | succ m ih => intro h hx; exact ts_X0_countTo_0 C F  ih hx
def x_X0_countTo (F : Nat) (h : pH) (l0 : Nat) (l1 : Nat) (l2 : Int32) : Option pH :=
  (chk 0 h l0).bind fun _ =>
  x_X0_countTo_0 F l0 l1 l2 F h
theorem o_X0_countTo {F : Nat} {h : pH} {l0 : Nat} {l1 : Nat} {l2 : Int32} {res : pH} (hx : x_X0_countTo F h l0 l1 l2 = some res) : chk 0 h l0 = some () := by
  unfold x_X0_countTo at hx
  obtain ⟨_, e, _⟩ := ob hx
  exact e
theorem mc_X0_countTo (l : Launch) (G : pG) (F n : Nat) {h : pH} {l0 : Nat} {l1 : Nat} {l2 : Int32} {res : pH} (hx : x_X0_countTo F h l0 l1 l2 = some res) : MC l yX0_countTo cX0_countTo 3 none (rmD 2 0 0) G [.ref l0, .ref l1, .int l2] n h (none) n res := by
  unfold x_X0_countTo at hx
  obtain ⟨_, _, hx⟩ := ob hx
  refine jj_entry RX0 rfl (by decide) (Nat.le_of_ble_eq_true rfl) (fun X _ _ C => ?_)
  show J X G (0, 0, none, n, res) (0, 0, n) h 0 [(0, .ref l0), (1, .ref l1), (2, .int l2)] []
  exact t_X0_countTo_0 C F F _ hx
def x_X1_behind (F : Nat) (h : pH) (l0 : Int32) (l1 : Int32) : Option Int32 :=
  some ((((3 : Int32) * l0) + (1 : Int32)) + l1)
theorem mc_X1_behind (l : Launch) (G : pG) (F n : Nat) {h : pH} {l0 : Int32} {l1 : Int32} {res : Int32} (hx : x_X1_behind F h l0 l1 = some res) : MC l yX1_behind cX1_behind 2 (some (FieldType.int)) (rmD 0 0 0) G [.int l0, .int l1] n h (some (.int res)) n h := by
  unfold x_X1_behind at hx
  refine jj_entry RX1 rfl (by decide) (Nat.le_of_ble_eq_true rfl) (fun X _ _ C => ?_)
  show J X G (0, 0, some (.int res), n, h) (0, 0, n) h 0 [(0, .int l0), (1, .int l1)] []
  refine jj_iconst (v := 3) C dX1_behind_0 (by decide) ?_
  refine jj_iload_n C 0 0 dX1_behind_1 rfl rfl ?_
  refine jj_imul C dX1_behind_2 ?_
  refine jj_iconst (v := 1) C dX1_behind_3 (by decide) ?_
  refine jj_iadd C dX1_behind_4 ?_
  refine jj_iload_n C 1 1 dX1_behind_5 rfl rfl ?_
  refine jj_iadd C dX1_behind_6 ?_
  obtain rfl := Option.some.inj hx
  exact jj_iret C dX1_behind_7 rfl
def s_X1_layTrail_32 (F : Nat)  (l0 : Nat) (l2 : Int32) (k32 : pH → Int32 → Int32 → Option (Int32 × pH)) (h : pH) (l3 : Int32) (l4 : Int32) : Option (Int32 × pH) :=
  if l4 < 0 then
    some (l2, h)
  else
    (getR 1 h l0 4).bind fun v1 =>
    (astI 0 h v1 l4 ((l3 - (1 : Int32)) - (l3 - (1 : Int32)) / (3 : Int32) * (3 : Int32))).bind fun v2 =>
    k32 v2 ((l3 - (1 : Int32)) / (3 : Int32)) (l4 + (-1))
def x_X1_layTrail_32 (F : Nat)  (l0 : Nat) (l2 : Int32) : Nat → pH → Int32 → Int32 → Option (Int32 × pH)
  | 0, _, _, _ => none
  | m + 1, h, l3, l4 => s_X1_layTrail_32 F l0 l2 (x_X1_layTrail_32 F l0 l2 m) h l3 l4
theorem ts_X1_layTrail_32 {X : pX} {G : pG} {n : Nat} {res : (Int32 × pH)} (C : Cx X G RX1 cX1_layTrail 5 (rmD 0 0 0) n (some (FieldType.int))) (F : Nat) {l0 : Nat} {l2 : Int32} {k32 : pH → Int32 → Int32 → Option (Int32 × pH)} (hk32 : ∀ (h : pH) (l3 : Int32) (l4 : Int32), k32 h l3 l4 = some res → J X G (0, 0, some (.int res.1), n, res.2) (0, 0, n) h 32 [(0, .ref l0), (2, .int l2), (3, .int l3), (4, .int l4)] []) {h : pH} {l3 : Int32} {l4 : Int32} (hx : s_X1_layTrail_32 F l0 l2 k32 h l3 l4 = some res) : J X G (0, 0, some (.int res.1), n, res.2) (0, 0, n) h 32 [(0, .ref l0), (2, .int l2), (3, .int l3), (4, .int l4)] [] := by
  unfold s_X1_layTrail_32 at hx
  refine jj_iload C 4 3 dX1_layTrail_32 rfl ?_
  refine jj_if_lt (tgt := 61) C dX1_layTrail_34 (by decide) (fun q34 => ?_) (fun q34 => ?_)
  · rw [if_pos q34] at hx
    refine jj_iload_n C 2 1 dX1_layTrail_61 rfl rfl ?_
    obtain rfl := Option.some.inj hx
    exact jj_iret C dX1_layTrail_62 rfl
  · rw [if_neg q34] at hx
    refine jj_aload_n C 0 0 dX1_layTrail_37 rfl rfl ?_
    obtain ⟨v1, ev1, hx⟩ := ob hx
    refine jj_getR C fd_X1_25 dX1_layTrail_38 ev1 ?_
    refine jj_iload C 4 3 dX1_layTrail_41 rfl ?_
    refine jj_iload_n C 3 2 dX1_layTrail_43 rfl rfl ?_
    refine jj_iconst (v := 1) C dX1_layTrail_44 (by decide) ?_
    refine jj_isub C dX1_layTrail_45 ?_
    refine jj_iconst (v := 3) C dX1_layTrail_46 (by decide) ?_
    refine jj_irem C dX1_layTrail_47 (by decide) ?_
    obtain ⟨v2, ev2, hx⟩ := ob hx
    refine jj_iast C dX1_layTrail_48 ev2 ?_
    refine jj_iload_n C 3 2 dX1_layTrail_49 rfl rfl ?_
    refine jj_iconst (v := 1) C dX1_layTrail_50 (by decide) ?_
    refine jj_isub C dX1_layTrail_51 ?_
    refine jj_iconst (v := 3) C dX1_layTrail_52 (by decide) ?_
    refine jj_idiv C dX1_layTrail_53 (by decide) ?_
    refine jj_istore_n C 3 dX1_layTrail_54 rfl rfl (by decide) ?_
    refine jj_iinc (v := l4 + (-1)) C 4 3 dX1_layTrail_55 rfl rfl rfl (by decide) ?_
    refine jj_goto (tgt := 32) C dX1_layTrail_58 (by decide) ?_
    refine jj_sub [2, 3, 1, 0] rfl ?_
    exact hk32 _ _ _ hx
theorem t_X1_layTrail_32 {X : pX} {G : pG} {n : Nat} {res : (Int32 × pH)} (C : Cx X G RX1 cX1_layTrail 5 (rmD 0 0 0) n (some (FieldType.int))) (F : Nat) {l0 : Nat} {l2 : Int32} : ∀ (m : Nat) (h : pH) (l3 : Int32) (l4 : Int32), x_X1_layTrail_32 F l0 l2 m h l3 l4 = some res → J X G (0, 0, some (.int res.1), n, res.2) (0, 0, n) h 32 [(0, .ref l0), (2, .int l2), (3, .int l3), (4, .int l4)] [] := by
  intro m
  induction m with
  | zero => intro h l3 l4 hx; exact nomatch (show (none : Option (Int32 × pH)) = some res from hx)
  | succ m ih => intro h l3 l4 hx; exact ts_X1_layTrail_32 C F  ih hx
def x_X1_layTrail_25 (F : Nat)  (h : pH) (l0 : Nat) (l1 : Int32) (l2 : Int32) : Option (Int32 × pH) :=
  x_X1_layTrail_32 F l0 l2 F h l1 (l2 - (1 : Int32))
theorem t_X1_layTrail_25 {X : pX} {G : pG} {n : Nat} {res : (Int32 × pH)} (C : Cx X G RX1 cX1_layTrail 5 (rmD 0 0 0) n (some (FieldType.int))) (F : Nat) {h : pH} {l0 : Nat} {l1 : Int32} {l2 : Int32} (hx : x_X1_layTrail_25 F h l0 l1 l2 = some res) : J X G (0, 0, some (.int res.1), n, res.2) (0, 0, n) h 25 [(0, .ref l0), (1, .int l1), (2, .int l2)] [] := by
  unfold x_X1_layTrail_25 at hx
  refine jj_iload_n C 1 1 dX1_layTrail_25 rfl rfl ?_
  refine jj_istore_n C 3 dX1_layTrail_26 rfl rfl (by decide) ?_
  refine jj_iload_n C 2 3 dX1_layTrail_27 rfl rfl ?_
  refine jj_iconst (v := 1) C dX1_layTrail_28 (by decide) ?_
  refine jj_isub C dX1_layTrail_29 ?_
  refine jj_istore C 4 dX1_layTrail_30 rfl (by decide) ?_
  refine jj_sub [2, 4, 1, 0] rfl ?_
  exact t_X1_layTrail_32 C F F _ _ _ hx
def s_X1_layTrail_4 (F : Nat)  (h : pH) (l0 : Nat) (l1 : Int32) (k4 : Int32 → Int32 → Option (Int32 × pH)) (l2 : Int32) (l3 : Int32) : Option (Int32 × pH) :=
  if l3 ≤ 0 then
    x_X1_layTrail_25 F h l0 l1 l2
  else
    if 4 ≤ l2 then
      x_X1_layTrail_25 F h l0 l1 l2
    else
      k4 (l2 + 1) ((l3 - (1 : Int32)) / (3 : Int32))
def x_X1_layTrail_4 (F : Nat)  (h : pH) (l0 : Nat) (l1 : Int32) : Nat → Int32 → Int32 → Option (Int32 × pH)
  | 0, _, _ => none
  | m + 1, l2, l3 => s_X1_layTrail_4 F h l0 l1 (x_X1_layTrail_4 F h l0 l1 m) l2 l3
theorem ts_X1_layTrail_4 {X : pX} {G : pG} {n : Nat} {res : (Int32 × pH)} (C : Cx X G RX1 cX1_layTrail 5 (rmD 0 0 0) n (some (FieldType.int))) (F : Nat) {h : pH} {l0 : Nat} {l1 : Int32} {k4 : Int32 → Int32 → Option (Int32 × pH)} (hk4 : ∀ (l2 : Int32) (l3 : Int32), k4 l2 l3 = some res → J X G (0, 0, some (.int res.1), n, res.2) (0, 0, n) h 4 [(0, .ref l0), (1, .int l1), (2, .int l2), (3, .int l3)] []) {l2 : Int32} {l3 : Int32} (hx : s_X1_layTrail_4 F h l0 l1 k4 l2 l3 = some res) : J X G (0, 0, some (.int res.1), n, res.2) (0, 0, n) h 4 [(0, .ref l0), (1, .int l1), (2, .int l2), (3, .int l3)] [] := by
  unfold s_X1_layTrail_4 at hx
  refine jj_iload_n C 3 3 dX1_layTrail_4 rfl rfl ?_
  refine jj_if_le (tgt := 25) C dX1_layTrail_5 (by decide) (fun q5 => ?_) (fun q5 => ?_)
  · rw [if_pos q5] at hx
    refine jj_sub [0, 1, 2] rfl ?_
    exact t_X1_layTrail_25 C F hx
  · rw [if_neg q5] at hx
    refine jj_iload_n C 2 2 dX1_layTrail_8 rfl rfl ?_
    refine jj_iconst (v := 4) C dX1_layTrail_9 (by decide) ?_
    refine jj_icmp_ge (tgt := 25) C dX1_layTrail_10 (by decide) (fun q10 => ?_) (fun q10 => ?_)
    · rw [if_pos q10] at hx
      refine jj_sub [0, 1, 2] rfl ?_
      exact t_X1_layTrail_25 C F hx
    · rw [if_neg q10] at hx
      refine jj_iinc (v := l2 + 1) C 2 2 dX1_layTrail_13 rfl rfl rfl (by decide) ?_
      refine jj_iload_n C 3 3 dX1_layTrail_16 rfl rfl ?_
      refine jj_iconst (v := 1) C dX1_layTrail_17 (by decide) ?_
      refine jj_isub C dX1_layTrail_18 ?_
      refine jj_iconst (v := 3) C dX1_layTrail_19 (by decide) ?_
      refine jj_idiv C dX1_layTrail_20 (by decide) ?_
      refine jj_istore_n C 3 dX1_layTrail_21 rfl rfl (by decide) ?_
      refine jj_goto (tgt := 4) C dX1_layTrail_22 (by decide) ?_
      refine jj_sub [2, 3, 1, 0] rfl ?_
      exact hk4 _ _ hx
theorem t_X1_layTrail_4 {X : pX} {G : pG} {n : Nat} {res : (Int32 × pH)} (C : Cx X G RX1 cX1_layTrail 5 (rmD 0 0 0) n (some (FieldType.int))) (F : Nat) {h : pH} {l0 : Nat} {l1 : Int32} : ∀ (m : Nat) (l2 : Int32) (l3 : Int32), x_X1_layTrail_4 F h l0 l1 m l2 l3 = some res → J X G (0, 0, some (.int res.1), n, res.2) (0, 0, n) h 4 [(0, .ref l0), (1, .int l1), (2, .int l2), (3, .int l3)] [] := by
  intro m
  induction m with
  | zero => intro l2 l3 hx; exact nomatch (show (none : Option (Int32 × pH)) = some res from hx)
  | succ m ih => intro l2 l3 hx; exact ts_X1_layTrail_4 C F  ih hx
def x_X1_layTrail (F : Nat) (h : pH) (l0 : Nat) (l1 : Int32) : Option (Int32 × pH) :=
  (chk 1 h l0).bind fun _ =>
  x_X1_layTrail_4 F h l0 l1 F 0 l1
theorem o_X1_layTrail {F : Nat} {h : pH} {l0 : Nat} {l1 : Int32} {res : (Int32 × pH)} (hx : x_X1_layTrail F h l0 l1 = some res) : chk 1 h l0 = some () := by
  unfold x_X1_layTrail at hx
  obtain ⟨_, e, _⟩ := ob hx
  exact e
theorem mc_X1_layTrail (l : Launch) (G : pG) (F n : Nat) {h : pH} {l0 : Nat} {l1 : Int32} {res : (Int32 × pH)} (hx : x_X1_layTrail F h l0 l1 = some res) : MC l yX1_layTrail cX1_layTrail 5 (some (FieldType.int)) (rmD 0 0 0) G [.ref l0, .int l1] n h (some (.int res.1)) n res.2 := by
  unfold x_X1_layTrail at hx
  obtain ⟨_, _, hx⟩ := ob hx
  refine jj_entry RX1 rfl (by decide) (Nat.le_of_ble_eq_true rfl) (fun X _ _ C => ?_)
  show J X G (0, 0, some (.int res.1), n, res.2) (0, 0, n) h 0 [(0, .ref l0), (1, .int l1)] []
  refine jj_iconst (v := 0) C dX1_layTrail_0 (by decide) ?_
  refine jj_istore_n C 2 dX1_layTrail_1 rfl rfl (by decide) ?_
  refine jj_iload_n C 1 2 dX1_layTrail_2 rfl rfl ?_
  refine jj_istore_n C 3 dX1_layTrail_3 rfl rfl (by decide) ?_
  refine jj_sub [2, 3, 1, 0] rfl ?_
  exact t_X1_layTrail_4 C F F _ _ hx
def x_X1_markBeginnings_41 (F : Nat) (k5 : pH → Int32 → Int32 → Option pH) (h : pH) (l0 : Nat) (l1 : Nat) (l2 : Int32) (l3 : Int32) (l4 : Int32) : Option pH :=
  k5 h l3 (l4 + 1)
theorem t_X1_markBeginnings_41 {X : pX} {G : pG} {n : Nat} {res : pH} (C : Cx X G RX1 cX1_markBeginnings 5 (rmD 1 0 0) n none) (F : Nat) {h : pH} {l0 : Nat} {l1 : Nat} {l2 : Int32} {l3 : Int32} {l4 : Int32} {k5 : pH → Int32 → Int32 → Option pH} (hk5 : ∀ (h : pH) (l3 : Int32) (l4 : Int32), k5 h l3 l4 = some res → J X G (0, 0, none, n, res) (0, 0, n) h 5 [(0, .ref l0), (1, .ref l1), (2, .int l2), (3, .int l3), (4, .int l4)] []) (hx : x_X1_markBeginnings_41 F k5 h l0 l1 l2 l3 l4 = some res) : J X G (0, 0, none, n, res) (0, 0, n) h 41 [(0, .ref l0), (1, .ref l1), (2, .int l2), (3, .int l3), (4, .int l4)] [] := by
  unfold x_X1_markBeginnings_41 at hx
  refine jj_iinc (v := l4 + 1) C 4 4 dX1_markBeginnings_41 rfl rfl rfl (by decide) ?_
  refine jj_goto (tgt := 5) C dX1_markBeginnings_44 (by decide) ?_
  refine jj_sub [1, 2, 3, 4, 0] rfl ?_
  exact hk5 _ _ _ hx
def s_X1_markBeginnings_5 (F : Nat)  (l0 : Nat) (l1 : Nat) (l2 : Int32) (k5 : pH → Int32 → Int32 → Option pH) (h : pH) (l3 : Int32) (l4 : Int32) : Option pH :=
  (getI 6 h l1 1).bind fun v1 =>
  if v1 ≤ (l4 + (1 : Int32)) then
    some h
  else
    (x_X6_letterOf F h l1 l2 l4).bind fun v2 =>
    (x_X1_behind F h l3 v2).bind fun v3 =>
    if 40 ≤ v3 then
      x_X1_markBeginnings_41 F k5 h l0 l1 l2 v3 l4
    else
      (getR 1 h l0 3).bind fun v4 =>
      (astI 2 h v4 v3 (vp_nar .boolean 1)).bind fun v5 =>
      x_X1_markBeginnings_41 F k5 v5 l0 l1 l2 v3 l4
def x_X1_markBeginnings_5 (F : Nat)  (l0 : Nat) (l1 : Nat) (l2 : Int32) : Nat → pH → Int32 → Int32 → Option pH
  | 0, _, _, _ => none
  | m + 1, h, l3, l4 => s_X1_markBeginnings_5 F l0 l1 l2 (x_X1_markBeginnings_5 F l0 l1 l2 m) h l3 l4
theorem ts_X1_markBeginnings_5 {X : pX} {G : pG} {n : Nat} {res : pH} (C : Cx X G RX1 cX1_markBeginnings 5 (rmD 1 0 0) n none) (F : Nat) {l0 : Nat} {l1 : Nat} {l2 : Int32} {k5 : pH → Int32 → Int32 → Option pH} (hk5 : ∀ (h : pH) (l3 : Int32) (l4 : Int32), k5 h l3 l4 = some res → J X G (0, 0, none, n, res) (0, 0, n) h 5 [(0, .ref l0), (1, .ref l1), (2, .int l2), (3, .int l3), (4, .int l4)] []) {h : pH} {l3 : Int32} {l4 : Int32} (hx : s_X1_markBeginnings_5 F l0 l1 l2 k5 h l3 l4 = some res) : J X G (0, 0, none, n, res) (0, 0, n) h 5 [(0, .ref l0), (1, .ref l1), (2, .int l2), (3, .int l3), (4, .int l4)] [] := by
  unfold s_X1_markBeginnings_5 at hx
  refine jj_iload C 4 4 dX1_markBeginnings_5 rfl ?_
  refine jj_iconst (v := 1) C dX1_markBeginnings_7 (by decide) ?_
  refine jj_iadd C dX1_markBeginnings_8 ?_
  refine jj_aload_n C 1 1 dX1_markBeginnings_9 rfl rfl ?_
  obtain ⟨v1, ev1, hx⟩ := ob hx
  refine jj_getI C fd_X1_55 dX1_markBeginnings_10 ev1 ?_
  refine jj_icmp_ge (tgt := 47) C dX1_markBeginnings_13 (by decide) (fun q13 => ?_) (fun q13 => ?_)
  · rw [if_pos q13] at hx
    obtain rfl := Option.some.inj hx
    exact jj_vret C dX1_markBeginnings_47 rfl
  · rw [if_neg q13] at hx
    refine jj_iload_n C 3 3 dX1_markBeginnings_16 rfl rfl ?_
    refine jj_aload_n C 1 1 dX1_markBeginnings_17 rfl rfl ?_
    refine jj_iload_n C 2 2 dX1_markBeginnings_18 rfl rfl ?_
    refine jj_iload C 4 4 dX1_markBeginnings_19 rfl ?_
    obtain ⟨v2, ev2, hx⟩ := ob hx
    refine jj_callV C [.int l2, .int l4] lk_X1_60 (mc_X6_letterOf X.2.1 G F n ev2) (o_X6_letterOf ev2) rfl rfl (Nat.le_of_ble_eq_true rfl) ⟨Nat.le_of_ble_eq_true rfl, Nat.le_of_ble_eq_true rfl⟩ ⟨Nat.zero_le _, Nat.zero_le _⟩ rfl dX1_markBeginnings_21 rfl rfl ?_
    obtain ⟨v3, ev3, hx⟩ := ob hx
    refine jj_callS C [.int l3, .int v2] lk_X1_28 (mc_X1_behind X.2.1 G F n ev3) rfl rfl (Nat.le_of_ble_eq_true rfl) ⟨Nat.le_of_ble_eq_true rfl, Nat.le_of_ble_eq_true rfl⟩ ⟨Nat.zero_le _, Nat.zero_le _⟩ rfl dX1_markBeginnings_24 rfl rfl ?_
    refine jj_istore_n C 3 dX1_markBeginnings_27 rfl rfl (by decide) ?_
    refine jj_iload_n C 3 0 dX1_markBeginnings_28 rfl rfl ?_
    refine jj_bipush (v := 40) C dX1_markBeginnings_29 (by decide) ?_
    refine jj_icmp_ge (tgt := 41) C dX1_markBeginnings_31 (by decide) (fun q31 => ?_) (fun q31 => ?_)
    · rw [if_pos q31] at hx
      refine jj_sub [1, 2, 3, 0, 4] rfl ?_
      exact t_X1_markBeginnings_41 C F hk5 hx
    · rw [if_neg q31] at hx
      refine jj_aload_n C 0 1 dX1_markBeginnings_34 rfl rfl ?_
      obtain ⟨v4, ev4, hx⟩ := ob hx
      refine jj_getR C fd_X1_21 dX1_markBeginnings_35 ev4 ?_
      refine jj_iload_n C 3 0 dX1_markBeginnings_38 rfl rfl ?_
      refine jj_iconst (v := 1) C dX1_markBeginnings_39 (by decide) ?_
      obtain ⟨v5, ev5, hx⟩ := ob hx
      refine jj_zast C dX1_markBeginnings_40 ev5 ?_
      refine jj_sub [1, 2, 3, 0, 4] rfl ?_
      exact t_X1_markBeginnings_41 C F hk5 hx
theorem t_X1_markBeginnings_5 {X : pX} {G : pG} {n : Nat} {res : pH} (C : Cx X G RX1 cX1_markBeginnings 5 (rmD 1 0 0) n none) (F : Nat) {l0 : Nat} {l1 : Nat} {l2 : Int32} : ∀ (m : Nat) (h : pH) (l3 : Int32) (l4 : Int32), x_X1_markBeginnings_5 F l0 l1 l2 m h l3 l4 = some res → J X G (0, 0, none, n, res) (0, 0, n) h 5 [(0, .ref l0), (1, .ref l1), (2, .int l2), (3, .int l3), (4, .int l4)] [] := by
  intro m
  induction m with
  | zero => intro h l3 l4 hx; exact nomatch (show (none : Option pH) = some res from hx)
  | succ m ih => intro h l3 l4 hx; exact ts_X1_markBeginnings_5 C F  ih hx
def x_X1_markBeginnings (F : Nat) (h : pH) (l0 : Nat) (l1 : Nat) (l2 : Int32) : Option pH :=
  (chk 1 h l0).bind fun _ =>
  x_X1_markBeginnings_5 F l0 l1 l2 F h 0 0
theorem o_X1_markBeginnings {F : Nat} {h : pH} {l0 : Nat} {l1 : Nat} {l2 : Int32} {res : pH} (hx : x_X1_markBeginnings F h l0 l1 l2 = some res) : chk 1 h l0 = some () := by
  unfold x_X1_markBeginnings at hx
  obtain ⟨_, e, _⟩ := ob hx
  exact e
theorem mc_X1_markBeginnings (l : Launch) (G : pG) (F n : Nat) {h : pH} {l0 : Nat} {l1 : Nat} {l2 : Int32} {res : pH} (hx : x_X1_markBeginnings F h l0 l1 l2 = some res) : MC l yX1_markBeginnings cX1_markBeginnings 5 none (rmD 1 0 0) G [.ref l0, .ref l1, .int l2] n h (none) n res := by
  unfold x_X1_markBeginnings at hx
  obtain ⟨_, _, hx⟩ := ob hx
  refine jj_entry RX1 rfl (by decide) (Nat.le_of_ble_eq_true rfl) (fun X _ _ C => ?_)
  show J X G (0, 0, none, n, res) (0, 0, n) h 0 [(0, .ref l0), (1, .ref l1), (2, .int l2)] []
  refine jj_iconst (v := 0) C dX1_markBeginnings_0 (by decide) ?_
  refine jj_istore_n C 3 dX1_markBeginnings_1 rfl rfl (by decide) ?_
  refine jj_iconst (v := 0) C dX1_markBeginnings_2 (by decide) ?_
  refine jj_istore C 4 dX1_markBeginnings_3 rfl (by decide) ?_
  refine jj_sub [2, 3, 4, 1, 0] rfl ?_
  exact t_X1_markBeginnings_5 C F F _ _ _ hx
def x_X1_markStays_22 (F : Nat) (k2 : pH → Int32 → Option pH) (h : pH) (l0 : Nat) (l1 : Nat) (l2 : Int32) (l3 : Int32) (s0 : Int32) (s1 : Int32) (s2 : Nat) : Option pH :=
  (astI 2 h s2 s1 (vp_nar .boolean s0)).bind fun v1 =>
  k2 v1 (l3 + 1)
theorem t_X1_markStays_22 {X : pX} {G : pG} {n : Nat} {res : pH} (C : Cx X G RX1 cX1_markStays 5 (rmD 2 0 0) n none) (F : Nat) {h : pH} {l0 : Nat} {l1 : Nat} {l2 : Int32} {l3 : Int32} {s0 : Int32} {s1 : Int32} {s2 : Nat} {k2 : pH → Int32 → Option pH} (hk2 : ∀ (h : pH) (l3 : Int32), k2 h l3 = some res → J X G (0, 0, none, n, res) (0, 0, n) h 2 [(0, .ref l0), (1, .ref l1), (2, .int l2), (3, .int l3)] []) (hx : x_X1_markStays_22 F k2 h l0 l1 l2 l3 s0 s1 s2 = some res) : J X G (0, 0, none, n, res) (0, 0, n) h 22 [(0, .ref l0), (1, .ref l1), (2, .int l2), (3, .int l3)] [.int s0, .int s1, .ref s2] := by
  unfold x_X1_markStays_22 at hx
  obtain ⟨v1, ev1, hx⟩ := ob hx
  refine jj_zast C dX1_markStays_22 ev1 ?_
  refine jj_iinc (v := l3 + 1) C 3 3 dX1_markStays_23 rfl rfl rfl (by decide) ?_
  refine jj_goto (tgt := 2) C dX1_markStays_26 (by decide) ?_
  refine jj_sub [1, 2, 3, 0] rfl ?_
  exact hk2 _ _ hx
def s_X1_markStays_39 (F : Nat) (k31 : pH → Int32 → Option pH) (l0 : Nat) (l1 : Nat) (l2 : Int32) (l3 : Int32) (k39 : pH → Int32 → Option pH) (h : pH) (l4 : Int32) : Option pH :=
  if 2 ≤ l4 then
    k31 h (l3 + 1)
  else
    (aldR 4 h l1 l3).bind fun v1 =>
    (x_X1_markBeginnings F h l0 v1 l4).bind fun v2 =>
    k39 v2 (l4 + 1)
def x_X1_markStays_39 (F : Nat) (k31 : pH → Int32 → Option pH) (l0 : Nat) (l1 : Nat) (l2 : Int32) (l3 : Int32) : Nat → pH → Int32 → Option pH
  | 0, _, _ => none
  | m + 1, h, l4 => s_X1_markStays_39 F k31 l0 l1 l2 l3 (x_X1_markStays_39 F k31 l0 l1 l2 l3 m) h l4
theorem ts_X1_markStays_39 {X : pX} {G : pG} {n : Nat} {res : pH} (C : Cx X G RX1 cX1_markStays 5 (rmD 2 0 0) n none) (F : Nat) {l0 : Nat} {l1 : Nat} {l2 : Int32} {l3 : Int32} {k31 : pH → Int32 → Option pH} (hk31 : ∀ (h : pH) (l3 : Int32), k31 h l3 = some res → J X G (0, 0, none, n, res) (0, 0, n) h 31 [(0, .ref l0), (1, .ref l1), (2, .int l2), (3, .int l3)] []) {k39 : pH → Int32 → Option pH} (hk39 : ∀ (h : pH) (l4 : Int32), k39 h l4 = some res → J X G (0, 0, none, n, res) (0, 0, n) h 39 [(0, .ref l0), (1, .ref l1), (2, .int l2), (3, .int l3), (4, .int l4)] []) {h : pH} {l4 : Int32} (hx : s_X1_markStays_39 F k31 l0 l1 l2 l3 k39 h l4 = some res) : J X G (0, 0, none, n, res) (0, 0, n) h 39 [(0, .ref l0), (1, .ref l1), (2, .int l2), (3, .int l3), (4, .int l4)] [] := by
  unfold s_X1_markStays_39 at hx
  refine jj_iload C 4 4 dX1_markStays_39 rfl ?_
  refine jj_iconst (v := 2) C dX1_markStays_41 (by decide) ?_
  refine jj_icmp_ge (tgt := 60) C dX1_markStays_42 (by decide) (fun q42 => ?_) (fun q42 => ?_)
  · rw [if_pos q42] at hx
    refine jj_iinc (v := l3 + 1) C 3 3 dX1_markStays_60 rfl rfl rfl (by decide) ?_
    refine jj_goto (tgt := 31) C dX1_markStays_63 (by decide) ?_
    refine jj_sub [1, 2, 3, 0] rfl ?_
    exact hk31 _ _ hx
  · rw [if_neg q42] at hx
    refine jj_aload_n C 0 0 dX1_markStays_45 rfl rfl ?_
    refine jj_aload_n C 1 1 dX1_markStays_46 rfl rfl ?_
    refine jj_iload_n C 3 3 dX1_markStays_47 rfl rfl ?_
    obtain ⟨v1, ev1, hx⟩ := ob hx
    refine jj_aald C 4 rfl dX1_markStays_48 ev1 ?_
    refine jj_iload C 4 4 dX1_markStays_49 rfl ?_
    obtain ⟨v2, ev2, hx⟩ := ob hx
    refine jj_callV C [.ref v1, .int l4] lk_X1_51 (mc_X1_markBeginnings X.2.1 G F n ev2) (o_X1_markBeginnings ev2) rfl rfl (Nat.le_of_ble_eq_true rfl) ⟨Nat.le_of_ble_eq_true rfl, Nat.le_of_ble_eq_true rfl⟩ ⟨Nat.zero_le _, Nat.zero_le _⟩ rfl dX1_markStays_51 rfl rfl ?_
    refine jj_iinc (v := l4 + 1) C 4 4 dX1_markStays_54 rfl rfl rfl (by decide) ?_
    refine jj_goto (tgt := 39) C dX1_markStays_57 (by decide) ?_
    refine jj_sub [1, 2, 3, 4, 0] rfl ?_
    exact hk39 _ _ hx
theorem t_X1_markStays_39 {X : pX} {G : pG} {n : Nat} {res : pH} (C : Cx X G RX1 cX1_markStays 5 (rmD 2 0 0) n none) (F : Nat) {l0 : Nat} {l1 : Nat} {l2 : Int32} {l3 : Int32} {k31 : pH → Int32 → Option pH} (hk31 : ∀ (h : pH) (l3 : Int32), k31 h l3 = some res → J X G (0, 0, none, n, res) (0, 0, n) h 31 [(0, .ref l0), (1, .ref l1), (2, .int l2), (3, .int l3)] []) : ∀ (m : Nat) (h : pH) (l4 : Int32), x_X1_markStays_39 F k31 l0 l1 l2 l3 m h l4 = some res → J X G (0, 0, none, n, res) (0, 0, n) h 39 [(0, .ref l0), (1, .ref l1), (2, .int l2), (3, .int l3), (4, .int l4)] [] := by
  intro m
  induction m with
  | zero => intro h l4 hx; exact nomatch (show (none : Option pH) = some res from hx)
  | succ m ih => intro h l4 hx; exact ts_X1_markStays_39 C F hk31 ih hx
def s_X1_markStays_31 (F : Nat)  (l0 : Nat) (l1 : Nat) (l2 : Int32) (k31 : pH → Int32 → Option pH) (h : pH) (l3 : Int32) : Option pH :=
  if l2 ≤ l3 then
    some h
  else
    x_X1_markStays_39 F k31 l0 l1 l2 l3 F h 0
def x_X1_markStays_31 (F : Nat)  (l0 : Nat) (l1 : Nat) (l2 : Int32) : Nat → pH → Int32 → Option pH
  | 0, _, _ => none
  | m + 1, h, l3 => s_X1_markStays_31 F l0 l1 l2 (x_X1_markStays_31 F l0 l1 l2 m) h l3
theorem ts_X1_markStays_31 {X : pX} {G : pG} {n : Nat} {res : pH} (C : Cx X G RX1 cX1_markStays 5 (rmD 2 0 0) n none) (F : Nat) {l0 : Nat} {l1 : Nat} {l2 : Int32} {k31 : pH → Int32 → Option pH} (hk31 : ∀ (h : pH) (l3 : Int32), k31 h l3 = some res → J X G (0, 0, none, n, res) (0, 0, n) h 31 [(0, .ref l0), (1, .ref l1), (2, .int l2), (3, .int l3)] []) {h : pH} {l3 : Int32} (hx : s_X1_markStays_31 F l0 l1 l2 k31 h l3 = some res) : J X G (0, 0, none, n, res) (0, 0, n) h 31 [(0, .ref l0), (1, .ref l1), (2, .int l2), (3, .int l3)] [] := by
  unfold s_X1_markStays_31 at hx
  refine jj_iload_n C 3 3 dX1_markStays_31 rfl rfl ?_
  refine jj_iload_n C 2 2 dX1_markStays_32 rfl rfl ?_
  refine jj_icmp_ge (tgt := 66) C dX1_markStays_33 (by decide) (fun q33 => ?_) (fun q33 => ?_)
  · rw [if_pos q33] at hx
    obtain rfl := Option.some.inj hx
    exact jj_vret C dX1_markStays_66 rfl
  · rw [if_neg q33] at hx
    refine jj_iconst (v := 0) C dX1_markStays_36 (by decide) ?_
    refine jj_istore C 4 dX1_markStays_37 rfl (by decide) ?_
    refine jj_sub [1, 2, 3, 4, 0] rfl ?_
    exact t_X1_markStays_39 C F hk31 F _ _ hx
theorem t_X1_markStays_31 {X : pX} {G : pG} {n : Nat} {res : pH} (C : Cx X G RX1 cX1_markStays 5 (rmD 2 0 0) n none) (F : Nat) {l0 : Nat} {l1 : Nat} {l2 : Int32} : ∀ (m : Nat) (h : pH) (l3 : Int32), x_X1_markStays_31 F l0 l1 l2 m h l3 = some res → J X G (0, 0, none, n, res) (0, 0, n) h 31 [(0, .ref l0), (1, .ref l1), (2, .int l2), (3, .int l3)] [] := by
  intro m
  induction m with
  | zero => intro h l3 hx; exact nomatch (show (none : Option pH) = some res from hx)
  | succ m ih => intro h l3 hx; exact ts_X1_markStays_31 C F  ih hx
def s_X1_markStays_2 (F : Nat)  (l0 : Nat) (l1 : Nat) (l2 : Int32) (k2 : pH → Int32 → Option pH) (h : pH) (l3 : Int32) : Option pH :=
  if 40 ≤ l3 then
    x_X1_markStays_31 F l0 l1 l2 F h 0
  else
    (getR 1 h l0 3).bind fun v1 =>
    if l3 = 0 then
      x_X1_markStays_22 F k2 h l0 l1 l2 l3 1 l3 v1
    else
      x_X1_markStays_22 F k2 h l0 l1 l2 l3 0 l3 v1
def x_X1_markStays_2 (F : Nat)  (l0 : Nat) (l1 : Nat) (l2 : Int32) : Nat → pH → Int32 → Option pH
  | 0, _, _ => none
  | m + 1, h, l3 => s_X1_markStays_2 F l0 l1 l2 (x_X1_markStays_2 F l0 l1 l2 m) h l3
theorem ts_X1_markStays_2 {X : pX} {G : pG} {n : Nat} {res : pH} (C : Cx X G RX1 cX1_markStays 5 (rmD 2 0 0) n none) (F : Nat) {l0 : Nat} {l1 : Nat} {l2 : Int32} {k2 : pH → Int32 → Option pH} (hk2 : ∀ (h : pH) (l3 : Int32), k2 h l3 = some res → J X G (0, 0, none, n, res) (0, 0, n) h 2 [(0, .ref l0), (1, .ref l1), (2, .int l2), (3, .int l3)] []) {h : pH} {l3 : Int32} (hx : s_X1_markStays_2 F l0 l1 l2 k2 h l3 = some res) : J X G (0, 0, none, n, res) (0, 0, n) h 2 [(0, .ref l0), (1, .ref l1), (2, .int l2), (3, .int l3)] [] := by
  unfold s_X1_markStays_2 at hx
  refine jj_iload_n C 3 3 dX1_markStays_2 rfl rfl ?_
  refine jj_bipush (v := 40) C dX1_markStays_3 (by decide) ?_
  refine jj_icmp_ge (tgt := 29) C dX1_markStays_5 (by decide) (fun q5 => ?_) (fun q5 => ?_)
  · rw [if_pos q5] at hx
    refine jj_iconst (v := 0) C dX1_markStays_29 (by decide) ?_
    refine jj_istore_n C 3 dX1_markStays_30 rfl rfl (by decide) ?_
    refine jj_sub [1, 2, 3, 0] rfl ?_
    exact t_X1_markStays_31 C F F _ _ hx
  · rw [if_neg q5] at hx
    refine jj_aload_n C 0 0 dX1_markStays_8 rfl rfl ?_
    obtain ⟨v1, ev1, hx⟩ := ob hx
    refine jj_getR C fd_X1_21 dX1_markStays_9 ev1 ?_
    refine jj_iload_n C 3 3 dX1_markStays_12 rfl rfl ?_
    refine jj_iload_n C 3 3 dX1_markStays_13 rfl rfl ?_
    refine jj_if_ne (tgt := 21) C dX1_markStays_14 (by decide) (fun q14 => ?_) (fun q14 => ?_)
    · rw [if_neg q14] at hx
      refine jj_iconst (v := 0) C dX1_markStays_21 (by decide) ?_
      exact t_X1_markStays_22 C F hk2 hx
    · rw [if_pos q14] at hx
      refine jj_iconst (v := 1) C dX1_markStays_17 (by decide) ?_
      refine jj_goto (tgt := 22) C dX1_markStays_18 (by decide) ?_
      exact t_X1_markStays_22 C F hk2 hx
theorem t_X1_markStays_2 {X : pX} {G : pG} {n : Nat} {res : pH} (C : Cx X G RX1 cX1_markStays 5 (rmD 2 0 0) n none) (F : Nat) {l0 : Nat} {l1 : Nat} {l2 : Int32} : ∀ (m : Nat) (h : pH) (l3 : Int32), x_X1_markStays_2 F l0 l1 l2 m h l3 = some res → J X G (0, 0, none, n, res) (0, 0, n) h 2 [(0, .ref l0), (1, .ref l1), (2, .int l2), (3, .int l3)] [] := by
  intro m
  induction m with
  | zero => intro h l3 hx; exact nomatch (show (none : Option pH) = some res from hx)
  | succ m ih => intro h l3 hx; exact ts_X1_markStays_2 C F  ih hx
def x_X1_markStays (F : Nat) (h : pH) (l0 : Nat) (l1 : Nat) (l2 : Int32) : Option pH :=
  (chk 1 h l0).bind fun _ =>
  x_X1_markStays_2 F l0 l1 l2 F h 0
theorem o_X1_markStays {F : Nat} {h : pH} {l0 : Nat} {l1 : Nat} {l2 : Int32} {res : pH} (hx : x_X1_markStays F h l0 l1 l2 = some res) : chk 1 h l0 = some () := by
  unfold x_X1_markStays at hx
  obtain ⟨_, e, _⟩ := ob hx
  exact e
theorem mc_X1_markStays (l : Launch) (G : pG) (F n : Nat) {h : pH} {l0 : Nat} {l1 : Nat} {l2 : Int32} {res : pH} (hx : x_X1_markStays F h l0 l1 l2 = some res) : MC l yX1_markStays cX1_markStays 5 none (rmD 2 0 0) G [.ref l0, .ref l1, .int l2] n h (none) n res := by
  unfold x_X1_markStays at hx
  obtain ⟨_, _, hx⟩ := ob hx
  refine jj_entry RX1 rfl (by decide) (Nat.le_of_ble_eq_true rfl) (fun X _ _ C => ?_)
  show J X G (0, 0, none, n, res) (0, 0, n) h 0 [(0, .ref l0), (1, .ref l1), (2, .int l2)] []
  refine jj_iconst (v := 0) C dX1_markStays_0 (by decide) ?_
  refine jj_istore_n C 3 dX1_markStays_1 rfl rfl (by decide) ?_
  refine jj_sub [1, 2, 3, 0] rfl ?_
  exact t_X1_markStays_2 C F F _ _ hx
def x_X7_heardBy_33 (F : Nat) (k6 : Int32 → Int32 → Option Int32) (h : pH) (l0 : Nat) (l1 : Int32) (l2 : Nat) (l3 : Int32) (l4 : Int32) (l5 : Int32) : Option Int32 :=
  k6 l4 (l5 + 1)
theorem t_X7_heardBy_33 {X : pX} {G : pG} {n : Nat} {res : Int32} (C : Cx X G RX7 cX7_heardBy 6 (rmD 3 0 0) n (some (FieldType.int))) (F : Nat) {h : pH} {l0 : Nat} {l1 : Int32} {l2 : Nat} {l3 : Int32} {l4 : Int32} {l5 : Int32} {k6 : Int32 → Int32 → Option Int32} (hk6 : ∀ (l4 : Int32) (l5 : Int32), k6 l4 l5 = some res → J X G (0, 0, some (.int res), n, h) (0, 0, n) h 6 [(0, .ref l0), (1, .int l1), (2, .ref l2), (3, .int l3), (4, .int l4), (5, .int l5)] []) (hx : x_X7_heardBy_33 F k6 h l0 l1 l2 l3 l4 l5 = some res) : J X G (0, 0, some (.int res), n, h) (0, 0, n) h 33 [(0, .ref l0), (1, .int l1), (2, .ref l2), (3, .int l3), (4, .int l4), (5, .int l5)] [] := by
  unfold x_X7_heardBy_33 at hx
  refine jj_iinc (v := l5 + 1) C 5 5 dX7_heardBy_33 rfl rfl rfl (by decide) ?_
  refine jj_goto (tgt := 6) C dX7_heardBy_36 (by decide) ?_
  refine jj_sub [1, 2, 3, 4, 5, 0] rfl ?_
  exact hk6 _ _ hx
def s_X7_heardBy_6 (F : Nat)  (h : pH) (l0 : Nat) (l1 : Int32) (l2 : Nat) (l3 : Int32) (k6 : Int32 → Int32 → Option Int32) (l4 : Int32) (l5 : Int32) : Option Int32 :=
  if l1 ≤ l5 then
    some l4
  else
    (aldR 4 h l0 l5).bind fun v1 =>
    (x_X6_endsAt F h v1 l2 l3).bind fun v2 =>
    if v2 = 0 then
      x_X7_heardBy_33 F k6 h l0 l1 l2 l3 l4 l5
    else
      x_X7_heardBy_33 F k6 h l0 l1 l2 l3 (l4 ||| ((1 : Int32) <<< (l5 &&& 31))) l5
def x_X7_heardBy_6 (F : Nat)  (h : pH) (l0 : Nat) (l1 : Int32) (l2 : Nat) (l3 : Int32) : Nat → Int32 → Int32 → Option Int32
  | 0, _, _ => none
  | m + 1, l4, l5 => s_X7_heardBy_6 F h l0 l1 l2 l3 (x_X7_heardBy_6 F h l0 l1 l2 l3 m) l4 l5
theorem ts_X7_heardBy_6 {X : pX} {G : pG} {n : Nat} {res : Int32} (C : Cx X G RX7 cX7_heardBy 6 (rmD 3 0 0) n (some (FieldType.int))) (F : Nat) {h : pH} {l0 : Nat} {l1 : Int32} {l2 : Nat} {l3 : Int32} {k6 : Int32 → Int32 → Option Int32} (hk6 : ∀ (l4 : Int32) (l5 : Int32), k6 l4 l5 = some res → J X G (0, 0, some (.int res), n, h) (0, 0, n) h 6 [(0, .ref l0), (1, .int l1), (2, .ref l2), (3, .int l3), (4, .int l4), (5, .int l5)] []) {l4 : Int32} {l5 : Int32} (hx : s_X7_heardBy_6 F h l0 l1 l2 l3 k6 l4 l5 = some res) : J X G (0, 0, some (.int res), n, h) (0, 0, n) h 6 [(0, .ref l0), (1, .int l1), (2, .ref l2), (3, .int l3), (4, .int l4), (5, .int l5)] [] := by
  unfold s_X7_heardBy_6 at hx
  refine jj_iload C 5 5 dX7_heardBy_6 rfl ?_
  refine jj_iload_n C 1 1 dX7_heardBy_8 rfl rfl ?_
  refine jj_icmp_ge (tgt := 39) C dX7_heardBy_9 (by decide) (fun q9 => ?_) (fun q9 => ?_)
  · rw [if_pos q9] at hx
    refine jj_iload C 4 4 dX7_heardBy_39 rfl ?_
    obtain rfl := Option.some.inj hx
    exact jj_iret C dX7_heardBy_41 rfl
  · rw [if_neg q9] at hx
    refine jj_aload_n C 0 0 dX7_heardBy_12 rfl rfl ?_
    refine jj_iload C 5 5 dX7_heardBy_13 rfl ?_
    obtain ⟨v1, ev1, hx⟩ := ob hx
    refine jj_aald C 4 rfl dX7_heardBy_15 ev1 ?_
    refine jj_aload_n C 2 2 dX7_heardBy_16 rfl rfl ?_
    refine jj_iload_n C 3 3 dX7_heardBy_17 rfl rfl ?_
    obtain ⟨v2, ev2, hx⟩ := ob hx
    refine jj_callV C [.ref l2, .int l3] lk_X7_266 (mc_X6_endsAt X.2.1 G F n ev2) (o_X6_endsAt ev2) rfl rfl (Nat.le_of_ble_eq_true rfl) ⟨Nat.le_of_ble_eq_true rfl, Nat.le_of_ble_eq_true rfl⟩ ⟨Nat.zero_le _, Nat.zero_le _⟩ rfl dX7_heardBy_18 rfl rfl ?_
    refine jj_if_eq (tgt := 33) C dX7_heardBy_21 (by decide) (fun q21 => ?_) (fun q21 => ?_)
    · rw [if_pos q21] at hx
      exact t_X7_heardBy_33 C F hk6 hx
    · rw [if_neg q21] at hx
      refine jj_iload C 4 4 dX7_heardBy_24 rfl ?_
      refine jj_iconst (v := 1) C dX7_heardBy_26 (by decide) ?_
      refine jj_iload C 5 5 dX7_heardBy_27 rfl ?_
      refine jj_ishl C dX7_heardBy_29 ?_
      refine jj_ior C dX7_heardBy_30 ?_
      refine jj_istore C 4 dX7_heardBy_31 rfl (by decide) ?_
      refine jj_sub [1, 2, 3, 4, 0, 5] rfl ?_
      exact t_X7_heardBy_33 C F hk6 hx
theorem t_X7_heardBy_6 {X : pX} {G : pG} {n : Nat} {res : Int32} (C : Cx X G RX7 cX7_heardBy 6 (rmD 3 0 0) n (some (FieldType.int))) (F : Nat) {h : pH} {l0 : Nat} {l1 : Int32} {l2 : Nat} {l3 : Int32} : ∀ (m : Nat) (l4 : Int32) (l5 : Int32), x_X7_heardBy_6 F h l0 l1 l2 l3 m l4 l5 = some res → J X G (0, 0, some (.int res), n, h) (0, 0, n) h 6 [(0, .ref l0), (1, .int l1), (2, .ref l2), (3, .int l3), (4, .int l4), (5, .int l5)] [] := by
  intro m
  induction m with
  | zero => intro l4 l5 hx; exact nomatch (show (none : Option Int32) = some res from hx)
  | succ m ih => intro l4 l5 hx; exact ts_X7_heardBy_6 C F  ih hx
def x_X7_heardBy (F : Nat) (h : pH) (l0 : Nat) (l1 : Int32) (l2 : Nat) (l3 : Int32) : Option Int32 :=
  x_X7_heardBy_6 F h l0 l1 l2 l3 F 0 0
theorem mc_X7_heardBy (l : Launch) (G : pG) (F n : Nat) {h : pH} {l0 : Nat} {l1 : Int32} {l2 : Nat} {l3 : Int32} {res : Int32} (hx : x_X7_heardBy F h l0 l1 l2 l3 = some res) : MC l yX7_heardBy cX7_heardBy 6 (some (FieldType.int)) (rmD 3 0 0) G [.ref l0, .int l1, .ref l2, .int l3] n h (some (.int res)) n h := by
  unfold x_X7_heardBy at hx
  refine jj_entry RX7 rfl (by decide) (Nat.le_of_ble_eq_true rfl) (fun X _ _ C => ?_)
  show J X G (0, 0, some (.int res), n, h) (0, 0, n) h 0 [(0, .ref l0), (1, .int l1), (2, .ref l2), (3, .int l3)] []
  refine jj_iconst (v := 0) C dX7_heardBy_0 (by decide) ?_
  refine jj_istore C 4 dX7_heardBy_1 rfl (by decide) ?_
  refine jj_iconst (v := 0) C dX7_heardBy_3 (by decide) ?_
  refine jj_istore C 5 dX7_heardBy_4 rfl (by decide) ?_
  refine jj_sub [2, 3, 4, 5, 1, 0] rfl ?_
  exact t_X7_heardBy_6 C F F _ _ hx
def x_X1_stayAt_24 (F : Nat) (k4 : Int32 → Int32 → Option Int32) (h : pH) (l0 : Nat) (l2 : Int32) (l3 : Int32) : Option Int32 :=
  (getR 1 h l0 0).bind fun v1 =>
  (aldI 0 h v1 l2).bind fun v2 =>
  k4 v2 (l3 + 1)
theorem t_X1_stayAt_24 {X : pX} {G : pG} {n : Nat} {res : Int32} (C : Cx X G RX1 cX1_stayAt 4 (rmD 0 0 0) n (some (FieldType.int))) (F : Nat) {h : pH} {l0 : Nat} {l2 : Int32} {l3 : Int32} {k4 : Int32 → Int32 → Option Int32} (hk4 : ∀ (l2 : Int32) (l3 : Int32), k4 l2 l3 = some res → J X G (0, 0, some (.int res), n, h) (0, 0, n) h 4 [(0, .ref l0), (2, .int l2), (3, .int l3)] []) (hx : x_X1_stayAt_24 F k4 h l0 l2 l3 = some res) : J X G (0, 0, some (.int res), n, h) (0, 0, n) h 24 [(0, .ref l0), (2, .int l2), (3, .int l3)] [] := by
  unfold x_X1_stayAt_24 at hx
  refine jj_aload_n C 0 0 dX1_stayAt_24 rfl rfl ?_
  obtain ⟨v1, ev1, hx⟩ := ob hx
  refine jj_getR C fd_X1_11 dX1_stayAt_25 ev1 ?_
  refine jj_iload_n C 2 1 dX1_stayAt_28 rfl rfl ?_
  obtain ⟨v2, ev2, hx⟩ := ob hx
  refine jj_iald C dX1_stayAt_29 ev2 ?_
  refine jj_istore_n C 2 dX1_stayAt_30 rfl rfl (by decide) ?_
  refine jj_iinc (v := l3 + 1) C 3 2 dX1_stayAt_31 rfl rfl rfl (by decide) ?_
  refine jj_goto (tgt := 4) C dX1_stayAt_34 (by decide) ?_
  refine jj_sub [2, 1, 0] rfl ?_
  exact hk4 _ _ hx
def s_X1_stayAt_4 (F : Nat)  (h : pH) (l0 : Nat) (k4 : Int32 → Int32 → Option Int32) (l2 : Int32) (l3 : Int32) : Option Int32 :=
  if 4 ≤ l3 then
    some l2
  else
    if 40 ≤ l2 then
      x_X1_stayAt_24 F k4 h l0 l2 l3
    else
      (getR 1 h l0 3).bind fun v1 =>
      (aldI 2 h v1 l2).bind fun v2 =>
      if v2 = 0 then
        x_X1_stayAt_24 F k4 h l0 l2 l3
      else
        some l2
def x_X1_stayAt_4 (F : Nat)  (h : pH) (l0 : Nat) : Nat → Int32 → Int32 → Option Int32
  | 0, _, _ => none
  | m + 1, l2, l3 => s_X1_stayAt_4 F h l0 (x_X1_stayAt_4 F h l0 m) l2 l3
theorem ts_X1_stayAt_4 {X : pX} {G : pG} {n : Nat} {res : Int32} (C : Cx X G RX1 cX1_stayAt 4 (rmD 0 0 0) n (some (FieldType.int))) (F : Nat) {h : pH} {l0 : Nat} {k4 : Int32 → Int32 → Option Int32} (hk4 : ∀ (l2 : Int32) (l3 : Int32), k4 l2 l3 = some res → J X G (0, 0, some (.int res), n, h) (0, 0, n) h 4 [(0, .ref l0), (2, .int l2), (3, .int l3)] []) {l2 : Int32} {l3 : Int32} (hx : s_X1_stayAt_4 F h l0 k4 l2 l3 = some res) : J X G (0, 0, some (.int res), n, h) (0, 0, n) h 4 [(0, .ref l0), (2, .int l2), (3, .int l3)] [] := by
  unfold s_X1_stayAt_4 at hx
  refine jj_iload_n C 3 2 dX1_stayAt_4 rfl rfl ?_
  refine jj_iconst (v := 4) C dX1_stayAt_5 (by decide) ?_
  refine jj_icmp_ge (tgt := 37) C dX1_stayAt_6 (by decide) (fun q6 => ?_) (fun q6 => ?_)
  · rw [if_pos q6] at hx
    refine jj_iload_n C 2 1 dX1_stayAt_37 rfl rfl ?_
    obtain rfl := Option.some.inj hx
    exact jj_iret C dX1_stayAt_38 rfl
  · rw [if_neg q6] at hx
    refine jj_iload_n C 2 1 dX1_stayAt_9 rfl rfl ?_
    refine jj_bipush (v := 40) C dX1_stayAt_10 (by decide) ?_
    refine jj_icmp_ge (tgt := 24) C dX1_stayAt_12 (by decide) (fun q12 => ?_) (fun q12 => ?_)
    · rw [if_pos q12] at hx
      exact t_X1_stayAt_24 C F hk4 hx
    · rw [if_neg q12] at hx
      refine jj_aload_n C 0 0 dX1_stayAt_15 rfl rfl ?_
      obtain ⟨v1, ev1, hx⟩ := ob hx
      refine jj_getR C fd_X1_21 dX1_stayAt_16 ev1 ?_
      refine jj_iload_n C 2 1 dX1_stayAt_19 rfl rfl ?_
      obtain ⟨v2, ev2, hx⟩ := ob hx
      refine jj_zald C dX1_stayAt_20 ev2 ?_
      refine jj_if_ne (tgt := 37) C dX1_stayAt_21 (by decide) (fun q21 => ?_) (fun q21 => ?_)
      · rw [if_neg q21] at hx
        refine jj_iload_n C 2 1 dX1_stayAt_37 rfl rfl ?_
        obtain rfl := Option.some.inj hx
        exact jj_iret C dX1_stayAt_38 rfl
      · rw [if_pos q21] at hx
        exact t_X1_stayAt_24 C F hk4 hx
theorem t_X1_stayAt_4 {X : pX} {G : pG} {n : Nat} {res : Int32} (C : Cx X G RX1 cX1_stayAt 4 (rmD 0 0 0) n (some (FieldType.int))) (F : Nat) {h : pH} {l0 : Nat} : ∀ (m : Nat) (l2 : Int32) (l3 : Int32), x_X1_stayAt_4 F h l0 m l2 l3 = some res → J X G (0, 0, some (.int res), n, h) (0, 0, n) h 4 [(0, .ref l0), (2, .int l2), (3, .int l3)] [] := by
  intro m
  induction m with
  | zero => intro l2 l3 hx; exact nomatch (show (none : Option Int32) = some res from hx)
  | succ m ih => intro l2 l3 hx; exact ts_X1_stayAt_4 C F  ih hx
def x_X1_stayAt (F : Nat) (h : pH) (l0 : Nat) (l1 : Int32) : Option Int32 :=
  (chk 1 h l0).bind fun _ =>
  x_X1_stayAt_4 F h l0 F l1 0
theorem o_X1_stayAt {F : Nat} {h : pH} {l0 : Nat} {l1 : Int32} {res : Int32} (hx : x_X1_stayAt F h l0 l1 = some res) : chk 1 h l0 = some () := by
  unfold x_X1_stayAt at hx
  obtain ⟨_, e, _⟩ := ob hx
  exact e
theorem mc_X1_stayAt (l : Launch) (G : pG) (F n : Nat) {h : pH} {l0 : Nat} {l1 : Int32} {res : Int32} (hx : x_X1_stayAt F h l0 l1 = some res) : MC l yX1_stayAt cX1_stayAt 4 (some (FieldType.int)) (rmD 0 0 0) G [.ref l0, .int l1] n h (some (.int res)) n h := by
  unfold x_X1_stayAt at hx
  obtain ⟨_, _, hx⟩ := ob hx
  refine jj_entry RX1 rfl (by decide) (Nat.le_of_ble_eq_true rfl) (fun X _ _ C => ?_)
  show J X G (0, 0, some (.int res), n, h) (0, 0, n) h 0 [(0, .ref l0), (1, .int l1)] []
  refine jj_iload_n C 1 1 dX1_stayAt_0 rfl rfl ?_
  refine jj_istore_n C 2 dX1_stayAt_1 rfl rfl (by decide) ?_
  refine jj_iconst (v := 0) C dX1_stayAt_2 (by decide) ?_
  refine jj_istore_n C 3 dX1_stayAt_3 rfl rfl (by decide) ?_
  refine jj_sub [2, 1, 0] rfl ?_
  exact t_X1_stayAt_4 C F F _ _ hx
def x_X1_learn_90 (F : Nat) (k17 : pH → Int32 → Option pH) (h : pH) (l0 : Nat) (l1 : Nat) (l2 : Int32) (l3 : Int32) : Option pH :=
  k17 h (l3 + 1)
theorem t_X1_learn_90 {X : pX} {G : pG} {n : Nat} {res : pH} (C : Cx X G RX1 cX1_learn 6 (rmD 4 0 0) n none) (F : Nat) {h : pH} {l0 : Nat} {l1 : Nat} {l2 : Int32} {l3 : Int32} {k17 : pH → Int32 → Option pH} (hk17 : ∀ (h : pH) (l3 : Int32), k17 h l3 = some res → J X G (0, 0, none, n, res) (0, 0, n) h 17 [(0, .ref l0), (1, .ref l1), (2, .int l2), (3, .int l3)] []) (hx : x_X1_learn_90 F k17 h l0 l1 l2 l3 = some res) : J X G (0, 0, none, n, res) (0, 0, n) h 90 [(0, .ref l0), (1, .ref l1), (2, .int l2), (3, .int l3)] [] := by
  unfold x_X1_learn_90 at hx
  refine jj_iinc (v := l3 + 1) C 3 3 dX1_learn_90 rfl rfl rfl (by decide) ?_
  refine jj_goto (tgt := 17) C dX1_learn_93 (by decide) ?_
  refine jj_sub [1, 2, 3, 0] rfl ?_
  exact hk17 _ _ hx
def s_X1_learn_26 (F : Nat) (k17 : pH → Int32 → Option pH) (l0 : Nat) (l1 : Nat) (l2 : Int32) (l3 : Int32) (k26 : pH → Int32 → Option pH) (h : pH) (l4 : Int32) : Option pH :=
  if 3 ≤ l4 then
    x_X1_learn_90 F k17 h l0 l1 l2 l3
  else
    (getR 1 h l0 3).bind fun v1 =>
    (aldI 2 h v1 l3).bind fun v2 =>
    if v2 = 0 then
      x_X1_learn_90 F k17 h l0 l1 l2 l3
    else
      (x_X1_behind F h l3 l4).bind fun v3 =>
      (getR 1 h l0 1).bind fun v4 =>
      (getR 1 h l0 4).bind fun v5 =>
      (x_X1_layTrail F h l0 v3).bind fun v6 =>
      (x_X7_heardBy F v6.2 l1 l2 v5 v6.1).bind fun v7 =>
      (astI 0 v6.2 v4 v3 v7).bind fun v8 =>
      (getR 1 v8 l0 2).bind fun v9 =>
      (x_X1_stayAt F v8 l0 v3).bind fun v10 =>
      (astI 0 v8 v9 v3 v10).bind fun v11 =>
      k26 v11 (l4 + 1)
def x_X1_learn_26 (F : Nat) (k17 : pH → Int32 → Option pH) (l0 : Nat) (l1 : Nat) (l2 : Int32) (l3 : Int32) : Nat → pH → Int32 → Option pH
  | 0, _, _ => none
  | m + 1, h, l4 => s_X1_learn_26 F k17 l0 l1 l2 l3 (x_X1_learn_26 F k17 l0 l1 l2 l3 m) h l4
theorem ts_X1_learn_26 {X : pX} {G : pG} {n : Nat} {res : pH} (C : Cx X G RX1 cX1_learn 6 (rmD 4 0 0) n none) (F : Nat) {l0 : Nat} {l1 : Nat} {l2 : Int32} {l3 : Int32} {k17 : pH → Int32 → Option pH} (hk17 : ∀ (h : pH) (l3 : Int32), k17 h l3 = some res → J X G (0, 0, none, n, res) (0, 0, n) h 17 [(0, .ref l0), (1, .ref l1), (2, .int l2), (3, .int l3)] []) {k26 : pH → Int32 → Option pH} (hk26 : ∀ (h : pH) (l4 : Int32), k26 h l4 = some res → J X G (0, 0, none, n, res) (0, 0, n) h 26 [(0, .ref l0), (1, .ref l1), (2, .int l2), (3, .int l3), (4, .int l4)] []) {h : pH} {l4 : Int32} (hx : s_X1_learn_26 F k17 l0 l1 l2 l3 k26 h l4 = some res) : J X G (0, 0, none, n, res) (0, 0, n) h 26 [(0, .ref l0), (1, .ref l1), (2, .int l2), (3, .int l3), (4, .int l4)] [] := by
  unfold s_X1_learn_26 at hx
  refine jj_iload C 4 4 dX1_learn_26 rfl ?_
  refine jj_iconst (v := 3) C dX1_learn_28 (by decide) ?_
  refine jj_icmp_ge (tgt := 90) C dX1_learn_29 (by decide) (fun q29 => ?_) (fun q29 => ?_)
  · rw [if_pos q29] at hx
    refine jj_sub [0, 1, 2, 3] rfl ?_
    exact t_X1_learn_90 C F hk17 hx
  · rw [if_neg q29] at hx
    refine jj_aload_n C 0 0 dX1_learn_32 rfl rfl ?_
    obtain ⟨v1, ev1, hx⟩ := ob hx
    refine jj_getR C fd_X1_21 dX1_learn_33 ev1 ?_
    refine jj_iload_n C 3 3 dX1_learn_36 rfl rfl ?_
    obtain ⟨v2, ev2, hx⟩ := ob hx
    refine jj_zald C dX1_learn_37 ev2 ?_
    refine jj_if_eq (tgt := 90) C dX1_learn_38 (by decide) (fun q38 => ?_) (fun q38 => ?_)
    · rw [if_pos q38] at hx
      refine jj_sub [0, 1, 2, 3] rfl ?_
      exact t_X1_learn_90 C F hk17 hx
    · rw [if_neg q38] at hx
      refine jj_iload_n C 3 3 dX1_learn_41 rfl rfl ?_
      refine jj_iload C 4 4 dX1_learn_42 rfl ?_
      obtain ⟨v3, ev3, hx⟩ := ob hx
      refine jj_callS C [.int l3, .int l4] lk_X1_28 (mc_X1_behind X.2.1 G F n ev3) rfl rfl (Nat.le_of_ble_eq_true rfl) ⟨Nat.le_of_ble_eq_true rfl, Nat.le_of_ble_eq_true rfl⟩ ⟨Nat.zero_le _, Nat.zero_le _⟩ rfl dX1_learn_44 rfl rfl ?_
      refine jj_istore C 5 dX1_learn_47 rfl (by decide) ?_
      refine jj_aload_n C 0 1 dX1_learn_49 rfl rfl ?_
      obtain ⟨v4, ev4, hx⟩ := ob hx
      refine jj_getR C fd_X1_15 dX1_learn_50 ev4 ?_
      refine jj_iload C 5 0 dX1_learn_53 rfl ?_
      refine jj_aload_n C 1 2 dX1_learn_55 rfl rfl ?_
      refine jj_iload_n C 2 3 dX1_learn_56 rfl rfl ?_
      refine jj_aload_n C 0 1 dX1_learn_57 rfl rfl ?_
      obtain ⟨v5, ev5, hx⟩ := ob hx
      refine jj_getR C fd_X1_25 dX1_learn_58 ev5 ?_
      refine jj_aload_n C 0 1 dX1_learn_61 rfl rfl ?_
      refine jj_iload C 5 0 dX1_learn_62 rfl ?_
      obtain ⟨v6, ev6, hx⟩ := ob hx
      refine jj_callV C [.int v3] lk_X1_40 (mc_X1_layTrail X.2.1 G F n ev6) (o_X1_layTrail ev6) rfl rfl (Nat.le_of_ble_eq_true rfl) ⟨Nat.le_of_ble_eq_true rfl, Nat.le_of_ble_eq_true rfl⟩ ⟨Nat.zero_le _, Nat.zero_le _⟩ rfl dX1_learn_64 rfl rfl ?_
      obtain ⟨v7, ev7, hx⟩ := ob hx
      refine jj_callSN C [.ref l1, .int l2, .ref v5, .int v6.1] lk_X1_44 (mc_X7_heardBy X.2.1 G F n ev7) rfl rfl (Nat.le_of_ble_eq_true rfl) ⟨Nat.le_of_ble_eq_true rfl, Nat.le_of_ble_eq_true rfl⟩ ⟨Nat.zero_le _, Nat.zero_le _⟩ rfl dX1_learn_67 rfl rfl ?_
      obtain ⟨v8, ev8, hx⟩ := ob hx
      refine jj_iast C dX1_learn_70 ev8 ?_
      refine jj_aload_n C 0 1 dX1_learn_71 rfl rfl ?_
      obtain ⟨v9, ev9, hx⟩ := ob hx
      refine jj_getR C fd_X1_18 dX1_learn_72 ev9 ?_
      refine jj_iload C 5 0 dX1_learn_75 rfl ?_
      refine jj_aload_n C 0 1 dX1_learn_77 rfl rfl ?_
      refine jj_iload C 5 0 dX1_learn_78 rfl ?_
      obtain ⟨v10, ev10, hx⟩ := ob hx
      refine jj_callV C [.int v3] lk_X1_48 (mc_X1_stayAt X.2.1 G F n ev10) (o_X1_stayAt ev10) rfl rfl (Nat.le_of_ble_eq_true rfl) ⟨Nat.le_of_ble_eq_true rfl, Nat.le_of_ble_eq_true rfl⟩ ⟨Nat.zero_le _, Nat.zero_le _⟩ rfl dX1_learn_80 rfl rfl ?_
      obtain ⟨v11, ev11, hx⟩ := ob hx
      refine jj_iast C dX1_learn_83 ev11 ?_
      refine jj_iinc (v := l4 + 1) C 4 5 dX1_learn_84 rfl rfl rfl (by decide) ?_
      refine jj_goto (tgt := 26) C dX1_learn_87 (by decide) ?_
      refine jj_sub [2, 3, 4, 5, 0] rfl ?_
      exact hk26 _ _ hx
theorem t_X1_learn_26 {X : pX} {G : pG} {n : Nat} {res : pH} (C : Cx X G RX1 cX1_learn 6 (rmD 4 0 0) n none) (F : Nat) {l0 : Nat} {l1 : Nat} {l2 : Int32} {l3 : Int32} {k17 : pH → Int32 → Option pH} (hk17 : ∀ (h : pH) (l3 : Int32), k17 h l3 = some res → J X G (0, 0, none, n, res) (0, 0, n) h 17 [(0, .ref l0), (1, .ref l1), (2, .int l2), (3, .int l3)] []) : ∀ (m : Nat) (h : pH) (l4 : Int32), x_X1_learn_26 F k17 l0 l1 l2 l3 m h l4 = some res → J X G (0, 0, none, n, res) (0, 0, n) h 26 [(0, .ref l0), (1, .ref l1), (2, .int l2), (3, .int l3), (4, .int l4)] [] := by
  intro m
  induction m with
  | zero => intro h l4 hx; exact nomatch (show (none : Option pH) = some res from hx)
  | succ m ih => intro h l4 hx; exact ts_X1_learn_26 C F hk17 ih hx
def s_X1_learn_17 (F : Nat)  (l0 : Nat) (l1 : Nat) (l2 : Int32) (k17 : pH → Int32 → Option pH) (h : pH) (l3 : Int32) : Option pH :=
  if 40 ≤ l3 then
    some h
  else
    x_X1_learn_26 F k17 l0 l1 l2 l3 F h 0
def x_X1_learn_17 (F : Nat)  (l0 : Nat) (l1 : Nat) (l2 : Int32) : Nat → pH → Int32 → Option pH
  | 0, _, _ => none
  | m + 1, h, l3 => s_X1_learn_17 F l0 l1 l2 (x_X1_learn_17 F l0 l1 l2 m) h l3
theorem ts_X1_learn_17 {X : pX} {G : pG} {n : Nat} {res : pH} (C : Cx X G RX1 cX1_learn 6 (rmD 4 0 0) n none) (F : Nat) {l0 : Nat} {l1 : Nat} {l2 : Int32} {k17 : pH → Int32 → Option pH} (hk17 : ∀ (h : pH) (l3 : Int32), k17 h l3 = some res → J X G (0, 0, none, n, res) (0, 0, n) h 17 [(0, .ref l0), (1, .ref l1), (2, .int l2), (3, .int l3)] []) {h : pH} {l3 : Int32} (hx : s_X1_learn_17 F l0 l1 l2 k17 h l3 = some res) : J X G (0, 0, none, n, res) (0, 0, n) h 17 [(0, .ref l0), (1, .ref l1), (2, .int l2), (3, .int l3)] [] := by
  unfold s_X1_learn_17 at hx
  refine jj_iload_n C 3 3 dX1_learn_17 rfl rfl ?_
  refine jj_bipush (v := 40) C dX1_learn_18 (by decide) ?_
  refine jj_icmp_ge (tgt := 96) C dX1_learn_20 (by decide) (fun q20 => ?_) (fun q20 => ?_)
  · rw [if_pos q20] at hx
    obtain rfl := Option.some.inj hx
    exact jj_vret C dX1_learn_96 rfl
  · rw [if_neg q20] at hx
    refine jj_iconst (v := 0) C dX1_learn_23 (by decide) ?_
    refine jj_istore C 4 dX1_learn_24 rfl (by decide) ?_
    refine jj_sub [1, 2, 3, 4, 0] rfl ?_
    exact t_X1_learn_26 C F hk17 F _ _ hx
theorem t_X1_learn_17 {X : pX} {G : pG} {n : Nat} {res : pH} (C : Cx X G RX1 cX1_learn 6 (rmD 4 0 0) n none) (F : Nat) {l0 : Nat} {l1 : Nat} {l2 : Int32} : ∀ (m : Nat) (h : pH) (l3 : Int32), x_X1_learn_17 F l0 l1 l2 m h l3 = some res → J X G (0, 0, none, n, res) (0, 0, n) h 17 [(0, .ref l0), (1, .ref l1), (2, .int l2), (3, .int l3)] [] := by
  intro m
  induction m with
  | zero => intro h l3 hx; exact nomatch (show (none : Option pH) = some res from hx)
  | succ m ih => intro h l3 hx; exact ts_X1_learn_17 C F  ih hx
def x_X1_learn (F : Nat) (h : pH) (l0 : Nat) (l1 : Nat) (l2 : Int32) : Option pH :=
  (chk 1 h l0).bind fun _ =>
  (putV 1 h l0 5 (.int (((1 : Int32) <<< (l2 &&& 31)) - (1 : Int32)))).bind fun v1 =>
  (x_X1_markStays F v1 l0 l1 l2).bind fun v2 =>
  x_X1_learn_17 F l0 l1 l2 F v2 0
theorem o_X1_learn {F : Nat} {h : pH} {l0 : Nat} {l1 : Nat} {l2 : Int32} {res : pH} (hx : x_X1_learn F h l0 l1 l2 = some res) : chk 1 h l0 = some () := by
  unfold x_X1_learn at hx
  obtain ⟨_, e, _⟩ := ob hx
  exact e
theorem mc_X1_learn (l : Launch) (G : pG) (F n : Nat) {h : pH} {l0 : Nat} {l1 : Nat} {l2 : Int32} {res : pH} (hx : x_X1_learn F h l0 l1 l2 = some res) : MC l yX1_learn cX1_learn 6 none (rmD 4 0 0) G [.ref l0, .ref l1, .int l2] n h (none) n res := by
  unfold x_X1_learn at hx
  obtain ⟨_, _, hx⟩ := ob hx
  refine jj_entry RX1 rfl (by decide) (Nat.le_of_ble_eq_true rfl) (fun X _ _ C => ?_)
  show J X G (0, 0, none, n, res) (0, 0, n) h 0 [(0, .ref l0), (1, .ref l1), (2, .int l2)] []
  refine jj_aload_n C 0 0 dX1_learn_0 rfl rfl ?_
  refine jj_iconst (v := 1) C dX1_learn_1 (by decide) ?_
  refine jj_iload_n C 2 2 dX1_learn_2 rfl rfl ?_
  refine jj_ishl C dX1_learn_3 ?_
  refine jj_iconst (v := 1) C dX1_learn_4 (by decide) ?_
  refine jj_isub C dX1_learn_5 ?_
  obtain ⟨v1, ev1, hx⟩ := ob hx
  refine jj_put C fd_X1_32 rfl rfl dX1_learn_6 ev1 ?_
  refine jj_aload_n C 0 0 dX1_learn_9 rfl rfl ?_
  refine jj_aload_n C 1 1 dX1_learn_10 rfl rfl ?_
  refine jj_iload_n C 2 2 dX1_learn_11 rfl rfl ?_
  obtain ⟨v2, ev2, hx⟩ := ob hx
  refine jj_callV C [.ref l1, .int l2] lk_X1_36 (mc_X1_markStays X.2.1 G F n ev2) (o_X1_markStays ev2) rfl rfl (Nat.le_of_ble_eq_true rfl) ⟨Nat.le_of_ble_eq_true rfl, Nat.le_of_ble_eq_true rfl⟩ ⟨Nat.zero_le _, Nat.zero_le _⟩ rfl dX1_learn_12 rfl rfl ?_
  refine jj_iconst (v := 0) C dX1_learn_15 (by decide) ?_
  refine jj_istore_n C 3 dX1_learn_16 rfl rfl (by decide) ?_
  refine jj_sub [1, 2, 3, 0] rfl ?_
  exact t_X1_learn_17 C F F _ _ hx
def x_X1_silentlyReachedFrom_66 (F : Nat) (k5 : Int64 → Int32 → Option Int64) (k29 : Int64 → Int32 → Option Int64) (h : pH) (l0 : Nat) (l1 : Int64) (l3 : Int64) (l5 : Int32) (l6 : Int32) : Option Int64 :=
  k29 l3 (l6 + 1)
theorem t_X1_silentlyReachedFrom_66 {X : pX} {G : pG} {n : Nat} {res : Int64} (C : Cx X G RX1 cX1_silentlyReachedFrom 8 (rmD 1 0 0) n (some (FieldType.long))) (F : Nat) {h : pH} {l0 : Nat} {l1 : Int64} {l3 : Int64} {l5 : Int32} {l6 : Int32} {k5 : Int64 → Int32 → Option Int64} (hk5 : ∀ (l3 : Int64) (l5 : Int32), k5 l3 l5 = some res → J X G (0, 0, some (.long res), n, h) (0, 0, n) h 5 [(0, .ref l0), (1, .long l1), (3, .long l3), (5, .int l5)] []) {k29 : Int64 → Int32 → Option Int64} (hk29 : ∀ (l3 : Int64) (l6 : Int32), k29 l3 l6 = some res → J X G (0, 0, some (.long res), n, h) (0, 0, n) h 29 [(0, .ref l0), (1, .long l1), (3, .long l3), (5, .int l5), (6, .int l6)] []) (hx : x_X1_silentlyReachedFrom_66 F k5 k29 h l0 l1 l3 l5 l6 = some res) : J X G (0, 0, some (.long res), n, h) (0, 0, n) h 66 [(0, .ref l0), (1, .long l1), (3, .long l3), (5, .int l5), (6, .int l6)] [] := by
  unfold x_X1_silentlyReachedFrom_66 at hx
  refine jj_iinc (v := l6 + 1) C 6 4 dX1_silentlyReachedFrom_66 rfl rfl rfl (by decide) ?_
  refine jj_goto (tgt := 29) C dX1_silentlyReachedFrom_69 (by decide) ?_
  refine jj_sub [1, 2, 3, 4, 0] rfl ?_
  exact hk29 _ _ hx
def x_X1_silentlyReachedFrom_72 (F : Nat) (k5 : Int64 → Int32 → Option Int64) (h : pH) (l0 : Nat) (l1 : Int64) (l3 : Int64) (l5 : Int32) : Option Int64 :=
  k5 l3 (l5 + 1)
theorem t_X1_silentlyReachedFrom_72 {X : pX} {G : pG} {n : Nat} {res : Int64} (C : Cx X G RX1 cX1_silentlyReachedFrom 8 (rmD 1 0 0) n (some (FieldType.long))) (F : Nat) {h : pH} {l0 : Nat} {l1 : Int64} {l3 : Int64} {l5 : Int32} {k5 : Int64 → Int32 → Option Int64} (hk5 : ∀ (l3 : Int64) (l5 : Int32), k5 l3 l5 = some res → J X G (0, 0, some (.long res), n, h) (0, 0, n) h 5 [(0, .ref l0), (1, .long l1), (3, .long l3), (5, .int l5)] []) (hx : x_X1_silentlyReachedFrom_72 F k5 h l0 l1 l3 l5 = some res) : J X G (0, 0, some (.long res), n, h) (0, 0, n) h 72 [(0, .ref l0), (1, .long l1), (3, .long l3), (5, .int l5)] [] := by
  unfold x_X1_silentlyReachedFrom_72 at hx
  refine jj_iinc (v := l5 + 1) C 5 3 dX1_silentlyReachedFrom_72 rfl rfl rfl (by decide) ?_
  refine jj_goto (tgt := 5) C dX1_silentlyReachedFrom_75 (by decide) ?_
  refine jj_sub [1, 2, 3, 0] rfl ?_
  exact hk5 _ _ hx
def s_X1_silentlyReachedFrom_29 (F : Nat) (k5 : Int64 → Int32 → Option Int64) (h : pH) (l0 : Nat) (l1 : Int64) (l5 : Int32) (k29 : Int64 → Int32 → Option Int64) (l3 : Int64) (l6 : Int32) : Option Int64 :=
  if 3 ≤ l6 then
    x_X1_silentlyReachedFrom_72 F k5 h l0 l1 l3 l5
  else
    (x_X1_behind F h l5 l6).bind fun v1 =>
    (getR 1 h l0 1).bind fun v2 =>
    (aldI 0 h v2 v1).bind fun v3 =>
    if v3 = 0 then
      (getR 1 h l0 2).bind fun v4 =>
      (aldI 0 h v4 v1).bind fun v5 =>
      x_X1_silentlyReachedFrom_66 F k5 k29 h l0 l1 (l3 ||| ((1 : Int64) <<< (v5.toInt64 &&& 63))) l5 l6
    else
      x_X1_silentlyReachedFrom_66 F k5 k29 h l0 l1 l3 l5 l6
def x_X1_silentlyReachedFrom_29 (F : Nat) (k5 : Int64 → Int32 → Option Int64) (h : pH) (l0 : Nat) (l1 : Int64) (l5 : Int32) : Nat → Int64 → Int32 → Option Int64
  | 0, _, _ => none
  | m + 1, l3, l6 => s_X1_silentlyReachedFrom_29 F k5 h l0 l1 l5 (x_X1_silentlyReachedFrom_29 F k5 h l0 l1 l5 m) l3 l6
theorem ts_X1_silentlyReachedFrom_29 {X : pX} {G : pG} {n : Nat} {res : Int64} (C : Cx X G RX1 cX1_silentlyReachedFrom 8 (rmD 1 0 0) n (some (FieldType.long))) (F : Nat) {h : pH} {l0 : Nat} {l1 : Int64} {l5 : Int32} {k5 : Int64 → Int32 → Option Int64} (hk5 : ∀ (l3 : Int64) (l5 : Int32), k5 l3 l5 = some res → J X G (0, 0, some (.long res), n, h) (0, 0, n) h 5 [(0, .ref l0), (1, .long l1), (3, .long l3), (5, .int l5)] []) {k29 : Int64 → Int32 → Option Int64} (hk29 : ∀ (l3 : Int64) (l6 : Int32), k29 l3 l6 = some res → J X G (0, 0, some (.long res), n, h) (0, 0, n) h 29 [(0, .ref l0), (1, .long l1), (3, .long l3), (5, .int l5), (6, .int l6)] []) {l3 : Int64} {l6 : Int32} (hx : s_X1_silentlyReachedFrom_29 F k5 h l0 l1 l5 k29 l3 l6 = some res) : J X G (0, 0, some (.long res), n, h) (0, 0, n) h 29 [(0, .ref l0), (1, .long l1), (3, .long l3), (5, .int l5), (6, .int l6)] [] := by
  unfold s_X1_silentlyReachedFrom_29 at hx
  refine jj_iload C 6 4 dX1_silentlyReachedFrom_29 rfl ?_
  refine jj_iconst (v := 3) C dX1_silentlyReachedFrom_31 (by decide) ?_
  refine jj_icmp_ge (tgt := 72) C dX1_silentlyReachedFrom_32 (by decide) (fun q32 => ?_) (fun q32 => ?_)
  · rw [if_pos q32] at hx
    refine jj_sub [0, 1, 2, 3] rfl ?_
    exact t_X1_silentlyReachedFrom_72 C F hk5 hx
  · rw [if_neg q32] at hx
    refine jj_iload C 5 3 dX1_silentlyReachedFrom_35 rfl ?_
    refine jj_iload C 6 4 dX1_silentlyReachedFrom_37 rfl ?_
    obtain ⟨v1, ev1, hx⟩ := ob hx
    refine jj_callS C [.int l5, .int l6] lk_X1_28 (mc_X1_behind X.2.1 G F n ev1) rfl rfl (Nat.le_of_ble_eq_true rfl) ⟨Nat.le_of_ble_eq_true rfl, Nat.le_of_ble_eq_true rfl⟩ ⟨Nat.zero_le _, Nat.zero_le _⟩ rfl dX1_silentlyReachedFrom_39 rfl rfl ?_
    refine jj_istore C 7 dX1_silentlyReachedFrom_42 rfl (by decide) ?_
    refine jj_aload_n C 0 1 dX1_silentlyReachedFrom_44 rfl rfl ?_
    obtain ⟨v2, ev2, hx⟩ := ob hx
    refine jj_getR C fd_X1_15 dX1_silentlyReachedFrom_45 ev2 ?_
    refine jj_iload C 7 0 dX1_silentlyReachedFrom_48 rfl ?_
    obtain ⟨v3, ev3, hx⟩ := ob hx
    refine jj_iald C dX1_silentlyReachedFrom_50 ev3 ?_
    refine jj_if_ne (tgt := 66) C dX1_silentlyReachedFrom_51 (by decide) (fun q51 => ?_) (fun q51 => ?_)
    · rw [if_neg q51] at hx
      refine jj_sub [1, 2, 3, 4, 5] rfl ?_
      exact t_X1_silentlyReachedFrom_66 C F hk5 hk29 hx
    · rw [if_pos q51] at hx
      refine jj_lload_n C 3 3 dX1_silentlyReachedFrom_54 rfl rfl ?_
      refine jj_lconst (v := 1) C dX1_silentlyReachedFrom_55 (by decide) ?_
      refine jj_aload_n C 0 1 dX1_silentlyReachedFrom_56 rfl rfl ?_
      obtain ⟨v4, ev4, hx⟩ := ob hx
      refine jj_getR C fd_X1_18 dX1_silentlyReachedFrom_57 ev4 ?_
      refine jj_iload C 7 0 dX1_silentlyReachedFrom_60 rfl ?_
      obtain ⟨v5, ev5, hx⟩ := ob hx
      refine jj_iald C dX1_silentlyReachedFrom_62 ev5 ?_
      refine jj_lshl C dX1_silentlyReachedFrom_63 ?_
      refine jj_lor C dX1_silentlyReachedFrom_64 ?_
      refine jj_lstore_n C 3 dX1_silentlyReachedFrom_65 rfl rfl (by decide) ?_
      refine jj_sub [2, 3, 0, 4, 5] rfl ?_
      exact t_X1_silentlyReachedFrom_66 C F hk5 hk29 hx
theorem t_X1_silentlyReachedFrom_29 {X : pX} {G : pG} {n : Nat} {res : Int64} (C : Cx X G RX1 cX1_silentlyReachedFrom 8 (rmD 1 0 0) n (some (FieldType.long))) (F : Nat) {h : pH} {l0 : Nat} {l1 : Int64} {l5 : Int32} {k5 : Int64 → Int32 → Option Int64} (hk5 : ∀ (l3 : Int64) (l5 : Int32), k5 l3 l5 = some res → J X G (0, 0, some (.long res), n, h) (0, 0, n) h 5 [(0, .ref l0), (1, .long l1), (3, .long l3), (5, .int l5)] []) : ∀ (m : Nat) (l3 : Int64) (l6 : Int32), x_X1_silentlyReachedFrom_29 F k5 h l0 l1 l5 m l3 l6 = some res → J X G (0, 0, some (.long res), n, h) (0, 0, n) h 29 [(0, .ref l0), (1, .long l1), (3, .long l3), (5, .int l5), (6, .int l6)] [] := by
  intro m
  induction m with
  | zero => intro l3 l6 hx; exact nomatch (show (none : Option Int64) = some res from hx)
  | succ m ih => intro l3 l6 hx; exact ts_X1_silentlyReachedFrom_29 C F hk5 ih hx
def s_X1_silentlyReachedFrom_5 (F : Nat)  (h : pH) (l0 : Nat) (l1 : Int64) (k5 : Int64 → Int32 → Option Int64) (l3 : Int64) (l5 : Int32) : Option Int64 :=
  if 40 ≤ l5 then
    some l3
  else
    if (lg_cmp ((l1 >>> (l5.toInt64 &&& 63)) &&& (1 : Int64)) 0) = 0 then
      x_X1_silentlyReachedFrom_72 F k5 h l0 l1 l3 l5
    else
      x_X1_silentlyReachedFrom_29 F k5 h l0 l1 l5 F l3 0
def x_X1_silentlyReachedFrom_5 (F : Nat)  (h : pH) (l0 : Nat) (l1 : Int64) : Nat → Int64 → Int32 → Option Int64
  | 0, _, _ => none
  | m + 1, l3, l5 => s_X1_silentlyReachedFrom_5 F h l0 l1 (x_X1_silentlyReachedFrom_5 F h l0 l1 m) l3 l5
theorem ts_X1_silentlyReachedFrom_5 {X : pX} {G : pG} {n : Nat} {res : Int64} (C : Cx X G RX1 cX1_silentlyReachedFrom 8 (rmD 1 0 0) n (some (FieldType.long))) (F : Nat) {h : pH} {l0 : Nat} {l1 : Int64} {k5 : Int64 → Int32 → Option Int64} (hk5 : ∀ (l3 : Int64) (l5 : Int32), k5 l3 l5 = some res → J X G (0, 0, some (.long res), n, h) (0, 0, n) h 5 [(0, .ref l0), (1, .long l1), (3, .long l3), (5, .int l5)] []) {l3 : Int64} {l5 : Int32} (hx : s_X1_silentlyReachedFrom_5 F h l0 l1 k5 l3 l5 = some res) : J X G (0, 0, some (.long res), n, h) (0, 0, n) h 5 [(0, .ref l0), (1, .long l1), (3, .long l3), (5, .int l5)] [] := by
  unfold s_X1_silentlyReachedFrom_5 at hx
  refine jj_iload C 5 3 dX1_silentlyReachedFrom_5 rfl ?_
  refine jj_bipush (v := 40) C dX1_silentlyReachedFrom_7 (by decide) ?_
  refine jj_icmp_ge (tgt := 78) C dX1_silentlyReachedFrom_9 (by decide) (fun q9 => ?_) (fun q9 => ?_)
  · rw [if_pos q9] at hx
    refine jj_lload_n C 3 2 dX1_silentlyReachedFrom_78 rfl rfl ?_
    obtain rfl := Option.some.inj hx
    exact jj_lret C dX1_silentlyReachedFrom_79 rfl
  · rw [if_neg q9] at hx
    refine jj_lload_n C 1 1 dX1_silentlyReachedFrom_12 rfl rfl ?_
    refine jj_iload C 5 3 dX1_silentlyReachedFrom_13 rfl ?_
    refine jj_lshr C dX1_silentlyReachedFrom_15 ?_
    refine jj_lconst (v := 1) C dX1_silentlyReachedFrom_16 (by decide) ?_
    refine jj_land C dX1_silentlyReachedFrom_17 ?_
    refine jj_lconst (v := 0) C dX1_silentlyReachedFrom_18 (by decide) ?_
    refine jj_lcmp C dX1_silentlyReachedFrom_19 ?_
    refine jj_if_ne (tgt := 26) C dX1_silentlyReachedFrom_20 (by decide) (fun q20 => ?_) (fun q20 => ?_)
    · rw [if_neg q20] at hx
      refine jj_iconst (v := 0) C dX1_silentlyReachedFrom_26 (by decide) ?_
      refine jj_istore C 6 dX1_silentlyReachedFrom_27 rfl (by decide) ?_
      refine jj_sub [1, 2, 3, 4, 0] rfl ?_
      exact t_X1_silentlyReachedFrom_29 C F hk5 F _ _ hx
    · rw [if_pos q20] at hx
      refine jj_goto (tgt := 72) C dX1_silentlyReachedFrom_23 (by decide) ?_
      exact t_X1_silentlyReachedFrom_72 C F hk5 hx
theorem t_X1_silentlyReachedFrom_5 {X : pX} {G : pG} {n : Nat} {res : Int64} (C : Cx X G RX1 cX1_silentlyReachedFrom 8 (rmD 1 0 0) n (some (FieldType.long))) (F : Nat) {h : pH} {l0 : Nat} {l1 : Int64} : ∀ (m : Nat) (l3 : Int64) (l5 : Int32), x_X1_silentlyReachedFrom_5 F h l0 l1 m l3 l5 = some res → J X G (0, 0, some (.long res), n, h) (0, 0, n) h 5 [(0, .ref l0), (1, .long l1), (3, .long l3), (5, .int l5)] [] := by
  intro m
  induction m with
  | zero => intro l3 l5 hx; exact nomatch (show (none : Option Int64) = some res from hx)
  | succ m ih => intro l3 l5 hx; exact ts_X1_silentlyReachedFrom_5 C F  ih hx
def x_X1_silentlyReachedFrom (F : Nat) (h : pH) (l0 : Nat) (l1 : Int64) : Option Int64 :=
  (chk 1 h l0).bind fun _ =>
  x_X1_silentlyReachedFrom_5 F h l0 l1 F 0 0
theorem o_X1_silentlyReachedFrom {F : Nat} {h : pH} {l0 : Nat} {l1 : Int64} {res : Int64} (hx : x_X1_silentlyReachedFrom F h l0 l1 = some res) : chk 1 h l0 = some () := by
  unfold x_X1_silentlyReachedFrom at hx
  obtain ⟨_, e, _⟩ := ob hx
  exact e
theorem mc_X1_silentlyReachedFrom (l : Launch) (G : pG) (F n : Nat) {h : pH} {l0 : Nat} {l1 : Int64} {res : Int64} (hx : x_X1_silentlyReachedFrom F h l0 l1 = some res) : MC l yX1_silentlyReachedFrom cX1_silentlyReachedFrom 8 (some (FieldType.long)) (rmD 1 0 0) G [.ref l0, .long l1] n h (some (.long res)) n h := by
  unfold x_X1_silentlyReachedFrom at hx
  obtain ⟨_, _, hx⟩ := ob hx
  refine jj_entry RX1 rfl (by decide) (Nat.le_of_ble_eq_true rfl) (fun X _ _ C => ?_)
  show J X G (0, 0, some (.long res), n, h) (0, 0, n) h 0 [(0, .ref l0), (1, .long l1)] []
  refine jj_lconst (v := 0) C dX1_silentlyReachedFrom_0 (by decide) ?_
  refine jj_lstore_n C 3 dX1_silentlyReachedFrom_1 rfl rfl (by decide) ?_
  refine jj_iconst (v := 0) C dX1_silentlyReachedFrom_2 (by decide) ?_
  refine jj_istore C 5 dX1_silentlyReachedFrom_3 rfl (by decide) ?_
  refine jj_sub [2, 3, 1, 0] rfl ?_
  exact t_X1_silentlyReachedFrom_5 C F F _ _ hx
def s_X1_longestSilent_4 (F : Nat)  (h : pH) (l0 : Nat) (k4 : Int64 → Int32 → Option Int32) (l1 : Int64) (l3 : Int32) : Option Int32 :=
  if 40 < l3 then
    some (-9 : Int32)
  else
    (x_X1_silentlyReachedFrom F h l0 l1).bind fun v1 =>
    if (lg_cmp v1 0) = 0 then
      some l3
    else
      k4 v1 (l3 + 1)
def x_X1_longestSilent_4 (F : Nat)  (h : pH) (l0 : Nat) : Nat → Int64 → Int32 → Option Int32
  | 0, _, _ => none
  | m + 1, l1, l3 => s_X1_longestSilent_4 F h l0 (x_X1_longestSilent_4 F h l0 m) l1 l3
theorem ts_X1_longestSilent_4 {X : pX} {G : pG} {n : Nat} {res : Int32} (C : Cx X G RX1 cX1_longestSilent 4 (rmD 2 0 0) n (some (FieldType.int))) (F : Nat) {h : pH} {l0 : Nat} {k4 : Int64 → Int32 → Option Int32} (hk4 : ∀ (l1 : Int64) (l3 : Int32), k4 l1 l3 = some res → J X G (0, 0, some (.int res), n, h) (0, 0, n) h 4 [(0, .ref l0), (1, .long l1), (3, .int l3)] []) {l1 : Int64} {l3 : Int32} (hx : s_X1_longestSilent_4 F h l0 k4 l1 l3 = some res) : J X G (0, 0, some (.int res), n, h) (0, 0, n) h 4 [(0, .ref l0), (1, .long l1), (3, .int l3)] [] := by
  unfold s_X1_longestSilent_4 at hx
  refine jj_iload_n C 3 2 dX1_longestSilent_4 rfl rfl ?_
  refine jj_bipush (v := 40) C dX1_longestSilent_5 (by decide) ?_
  refine jj_icmp_gt (tgt := 30) C dX1_longestSilent_7 (by decide) (fun q7 => ?_) (fun q7 => ?_)
  · rw [if_pos q7] at hx
    refine jj_bipush (v := (-9)) C dX1_longestSilent_30 (by decide) ?_
    obtain rfl := Option.some.inj hx
    exact jj_iret C dX1_longestSilent_32 rfl
  · rw [if_neg q7] at hx
    refine jj_aload_n C 0 0 dX1_longestSilent_10 rfl rfl ?_
    refine jj_lload_n C 1 1 dX1_longestSilent_11 rfl rfl ?_
    obtain ⟨v1, ev1, hx⟩ := ob hx
    refine jj_callV C [.long l1] lk_X1_63 (mc_X1_silentlyReachedFrom X.2.1 G F n ev1) (o_X1_silentlyReachedFrom ev1) rfl rfl (Nat.le_of_ble_eq_true rfl) ⟨Nat.le_of_ble_eq_true rfl, Nat.le_of_ble_eq_true rfl⟩ ⟨Nat.zero_le _, Nat.zero_le _⟩ rfl dX1_longestSilent_12 rfl rfl ?_
    refine jj_lstore_n C 1 dX1_longestSilent_15 rfl rfl (by decide) ?_
    refine jj_lload_n C 1 0 dX1_longestSilent_16 rfl rfl ?_
    refine jj_lconst (v := 0) C dX1_longestSilent_17 (by decide) ?_
    refine jj_lcmp C dX1_longestSilent_18 ?_
    refine jj_if_ne (tgt := 24) C dX1_longestSilent_19 (by decide) (fun q19 => ?_) (fun q19 => ?_)
    · rw [if_neg q19] at hx
      refine jj_iinc (v := l3 + 1) C 3 2 dX1_longestSilent_24 rfl rfl rfl (by decide) ?_
      refine jj_goto (tgt := 4) C dX1_longestSilent_27 (by decide) ?_
      refine jj_sub [2, 1, 0] rfl ?_
      exact hk4 _ _ hx
    · rw [if_pos q19] at hx
      refine jj_iload_n C 3 2 dX1_longestSilent_22 rfl rfl ?_
      obtain rfl := Option.some.inj hx
      exact jj_iret C dX1_longestSilent_23 rfl
theorem t_X1_longestSilent_4 {X : pX} {G : pG} {n : Nat} {res : Int32} (C : Cx X G RX1 cX1_longestSilent 4 (rmD 2 0 0) n (some (FieldType.int))) (F : Nat) {h : pH} {l0 : Nat} : ∀ (m : Nat) (l1 : Int64) (l3 : Int32), x_X1_longestSilent_4 F h l0 m l1 l3 = some res → J X G (0, 0, some (.int res), n, h) (0, 0, n) h 4 [(0, .ref l0), (1, .long l1), (3, .int l3)] [] := by
  intro m
  induction m with
  | zero => intro l1 l3 hx; exact nomatch (show (none : Option Int32) = some res from hx)
  | succ m ih => intro l1 l3 hx; exact ts_X1_longestSilent_4 C F  ih hx
def x_X1_longestSilent (F : Nat) (h : pH) (l0 : Nat) : Option Int32 :=
  (chk 1 h l0).bind fun _ =>
  x_X1_longestSilent_4 F h l0 F 1 0
theorem o_X1_longestSilent {F : Nat} {h : pH} {l0 : Nat} {res : Int32} (hx : x_X1_longestSilent F h l0 = some res) : chk 1 h l0 = some () := by
  unfold x_X1_longestSilent at hx
  obtain ⟨_, e, _⟩ := ob hx
  exact e
theorem mc_X1_longestSilent (l : Launch) (G : pG) (F n : Nat) {h : pH} {l0 : Nat} {res : Int32} (hx : x_X1_longestSilent F h l0 = some res) : MC l yX1_longestSilent cX1_longestSilent 4 (some (FieldType.int)) (rmD 2 0 0) G [.ref l0] n h (some (.int res)) n h := by
  unfold x_X1_longestSilent at hx
  obtain ⟨_, _, hx⟩ := ob hx
  refine jj_entry RX1 rfl (by decide) (Nat.le_of_ble_eq_true rfl) (fun X _ _ C => ?_)
  show J X G (0, 0, some (.int res), n, h) (0, 0, n) h 0 [(0, .ref l0)] []
  refine jj_lconst (v := 1) C dX1_longestSilent_0 (by decide) ?_
  refine jj_lstore_n C 1 dX1_longestSilent_1 rfl rfl (by decide) ?_
  refine jj_iconst (v := 0) C dX1_longestSilent_2 (by decide) ?_
  refine jj_istore_n C 3 dX1_longestSilent_3 rfl rfl (by decide) ?_
  refine jj_sub [2, 1, 0] rfl ?_
  exact t_X1_longestSilent_4 C F F _ _ hx
def x_X2_find_61 (F : Nat)  (h : pH) (l0 : Nat) (l1 : Int32) : Option (Int32 × pH) :=
  (getR 2 h l0 0).bind fun v1 =>
  (aldI 0 h v1 l1).bind fun v2 =>
  some ((if (0 : Int32) < v2 then v2 else 0), h)
theorem t_X2_find_61 {X : pX} {G : pG} {n : Nat} {res : (Int32 × pH)} (C : Cx X G RX2 cX2_find 3 (rmD 1 0 0) n (some (FieldType.int))) (F : Nat) {h : pH} {l0 : Nat} {l1 : Int32} (hx : x_X2_find_61 F h l0 l1 = some res) : J X G (0, 0, some (.int res.1), n, res.2) (0, 0, n) h 61 [(0, .ref l0), (1, .int l1)] [] := by
  unfold x_X2_find_61 at hx
  refine jj_iconst (v := 0) C dX2_find_61 (by decide) ?_
  refine jj_aload_n C 0 0 dX2_find_62 rfl rfl ?_
  obtain ⟨v1, ev1, hx⟩ := ob hx
  refine jj_getR C fd_X2_13 dX2_find_63 ev1 ?_
  refine jj_iload_n C 1 1 dX2_find_66 rfl rfl ?_
  obtain ⟨v2, ev2, hx⟩ := ob hx
  refine jj_iald C dX2_find_67 ev2 ?_
  refine jj_max C ml_X2_50 (Nat.le_of_ble_eq_true rfl) (Nat.le_of_ble_eq_true rfl) (Nat.zero_le _) (Nat.zero_le _) dX2_find_68 ?_
  obtain rfl := Option.some.inj hx
  exact jj_iret C dX2_find_71 rfl
def x_X2_find (F : Nat) (h : pH) (l0 : Nat) (l1 : Int32) (l2 : Int32) : Option (Int32 × pH) :=
  (chk 2 h l0).bind fun _ =>
  (getR 2 h l0 0).bind fun v1 =>
  (aldI 0 h v1 l1).bind fun v2 =>
  if v2 = ((-9)) then
    (getI 2 h l0 5).bind fun v3 =>
    if 320 ≤ v3 then
      x_X2_find_61 F h l0 l1
    else
      (getR 2 h l0 0).bind fun v4 =>
      (getI 2 h l0 5).bind fun v5 =>
      (astI 0 h v4 l1 v5).bind fun v6 =>
      (getR 2 v6 l0 1).bind fun v7 =>
      (getI 2 v6 l0 5).bind fun v8 =>
      (astI 0 v6 v7 v8 l1).bind fun v9 =>
      (getR 2 v9 l0 2).bind fun v10 =>
      (getI 2 v9 l0 5).bind fun v11 =>
      (astI 0 v9 v10 v11 l2).bind fun v12 =>
      (getI 2 v12 l0 5).bind fun v13 =>
      (putV 2 v12 l0 5 (.int (v13 + (1 : Int32)))).bind fun v14 =>
      x_X2_find_61 F v14 l0 l1
  else
    x_X2_find_61 F h l0 l1
theorem o_X2_find {F : Nat} {h : pH} {l0 : Nat} {l1 : Int32} {l2 : Int32} {res : (Int32 × pH)} (hx : x_X2_find F h l0 l1 l2 = some res) : chk 2 h l0 = some () := by
  unfold x_X2_find at hx
  obtain ⟨_, e, _⟩ := ob hx
  exact e
theorem mc_X2_find (l : Launch) (G : pG) (F n : Nat) {h : pH} {l0 : Nat} {l1 : Int32} {l2 : Int32} {res : (Int32 × pH)} (hx : x_X2_find F h l0 l1 l2 = some res) : MC l yX2_find cX2_find 3 (some (FieldType.int)) (rmD 1 0 0) G [.ref l0, .int l1, .int l2] n h (some (.int res.1)) n res.2 := by
  unfold x_X2_find at hx
  obtain ⟨_, _, hx⟩ := ob hx
  refine jj_entry RX2 rfl (by decide) (Nat.le_of_ble_eq_true rfl) (fun X _ _ C => ?_)
  show J X G (0, 0, some (.int res.1), n, res.2) (0, 0, n) h 0 [(0, .ref l0), (1, .int l1), (2, .int l2)] []
  refine jj_aload_n C 0 0 dX2_find_0 rfl rfl ?_
  obtain ⟨v1, ev1, hx⟩ := ob hx
  refine jj_getR C fd_X2_13 dX2_find_1 ev1 ?_
  refine jj_iload_n C 1 1 dX2_find_4 rfl rfl ?_
  obtain ⟨v2, ev2, hx⟩ := ob hx
  refine jj_iald C dX2_find_5 ev2 ?_
  refine jj_bipush (v := (-9)) C dX2_find_6 (by decide) ?_
  refine jj_icmp_ne (tgt := 61) C dX2_find_8 (by decide) (fun q8 => ?_) (fun q8 => ?_)
  · rw [if_neg q8] at hx
    refine jj_sub [0, 1] rfl ?_
    exact t_X2_find_61 C F hx
  · rw [if_pos q8] at hx
    refine jj_aload_n C 0 0 dX2_find_11 rfl rfl ?_
    obtain ⟨v3, ev3, hx⟩ := ob hx
    refine jj_getI C fd_X2_35 dX2_find_12 ev3 ?_
    refine jj_sipush (v := 320) C dX2_find_15 (by decide) ?_
    refine jj_icmp_ge (tgt := 61) C dX2_find_18 (by decide) (fun q18 => ?_) (fun q18 => ?_)
    · rw [if_pos q18] at hx
      refine jj_sub [0, 1] rfl ?_
      exact t_X2_find_61 C F hx
    · rw [if_neg q18] at hx
      refine jj_aload_n C 0 0 dX2_find_21 rfl rfl ?_
      obtain ⟨v4, ev4, hx⟩ := ob hx
      refine jj_getR C fd_X2_13 dX2_find_22 ev4 ?_
      refine jj_iload_n C 1 1 dX2_find_25 rfl rfl ?_
      refine jj_aload_n C 0 0 dX2_find_26 rfl rfl ?_
      obtain ⟨v5, ev5, hx⟩ := ob hx
      refine jj_getI C fd_X2_35 dX2_find_27 ev5 ?_
      obtain ⟨v6, ev6, hx⟩ := ob hx
      refine jj_iast C dX2_find_30 ev6 ?_
      refine jj_aload_n C 0 0 dX2_find_31 rfl rfl ?_
      obtain ⟨v7, ev7, hx⟩ := ob hx
      refine jj_getR C fd_X2_17 dX2_find_32 ev7 ?_
      refine jj_aload_n C 0 0 dX2_find_35 rfl rfl ?_
      obtain ⟨v8, ev8, hx⟩ := ob hx
      refine jj_getI C fd_X2_35 dX2_find_36 ev8 ?_
      refine jj_iload_n C 1 1 dX2_find_39 rfl rfl ?_
      obtain ⟨v9, ev9, hx⟩ := ob hx
      refine jj_iast C dX2_find_40 ev9 ?_
      refine jj_aload_n C 0 0 dX2_find_41 rfl rfl ?_
      obtain ⟨v10, ev10, hx⟩ := ob hx
      refine jj_getR C fd_X2_20 dX2_find_42 ev10 ?_
      refine jj_aload_n C 0 0 dX2_find_45 rfl rfl ?_
      obtain ⟨v11, ev11, hx⟩ := ob hx
      refine jj_getI C fd_X2_35 dX2_find_46 ev11 ?_
      refine jj_iload_n C 2 2 dX2_find_49 rfl rfl ?_
      obtain ⟨v12, ev12, hx⟩ := ob hx
      refine jj_iast C dX2_find_50 ev12 ?_
      refine jj_aload_n C 0 0 dX2_find_51 rfl rfl ?_
      refine jj_dup C dX2_find_52 rfl ?_
      obtain ⟨v13, ev13, hx⟩ := ob hx
      refine jj_getI C fd_X2_35 dX2_find_53 ev13 ?_
      refine jj_iconst (v := 1) C dX2_find_56 (by decide) ?_
      refine jj_iadd C dX2_find_57 ?_
      obtain ⟨v14, ev14, hx⟩ := ob hx
      refine jj_put C fd_X2_35 rfl rfl dX2_find_58 ev14 ?_
      refine jj_sub [0, 1] rfl ?_
      exact t_X2_find_61 C F hx
def x_X2_pointAfter_69 (F : Nat)  (h : pH) (l0 : Nat) (l2 : Int32) (l3 : Int32) (l5 : Int32) (s0 : Int32) : Option (Int32 × pH) :=
  (x_X2_find F h l0 ((s0 * (16 : Int32)) + l5) (((3 : Int32) * l2) + l3)).bind fun v1 =>
  some (v1.1, v1.2)
theorem t_X2_pointAfter_69 {X : pX} {G : pG} {n : Nat} {res : (Int32 × pH)} (C : Cx X G RX2 cX2_pointAfter 7 (rmD 2 0 0) n (some (FieldType.int))) (F : Nat) {h : pH} {l0 : Nat} {l2 : Int32} {l3 : Int32} {l5 : Int32} {s0 : Int32} (hx : x_X2_pointAfter_69 F h l0 l2 l3 l5 s0 = some res) : J X G (0, 0, some (.int res.1), n, res.2) (0, 0, n) h 69 [(0, .ref l0), (2, .int l2), (3, .int l3), (5, .int l5)] [.int s0] := by
  unfold x_X2_pointAfter_69 at hx
  refine jj_istore C 6 dX2_pointAfter_69 rfl (by decide) ?_
  refine jj_aload_n C 0 1 dX2_pointAfter_71 rfl rfl ?_
  refine jj_iload C 6 0 dX2_pointAfter_72 rfl ?_
  refine jj_bipush (v := 16) C dX2_pointAfter_74 (by decide) ?_
  refine jj_imul C dX2_pointAfter_76 ?_
  refine jj_iload C 5 4 dX2_pointAfter_77 rfl ?_
  refine jj_iadd C dX2_pointAfter_79 ?_
  refine jj_iconst (v := 3) C dX2_pointAfter_80 (by decide) ?_
  refine jj_iload_n C 2 2 dX2_pointAfter_81 rfl rfl ?_
  refine jj_imul C dX2_pointAfter_82 ?_
  refine jj_iload_n C 3 3 dX2_pointAfter_83 rfl rfl ?_
  refine jj_iadd C dX2_pointAfter_84 ?_
  obtain ⟨v1, ev1, hx⟩ := ob hx
  refine jj_callV C [.int ((s0 * (16 : Int32)) + l5), .int (((3 : Int32) * l2) + l3)] lk_X2_39 (mc_X2_find X.2.1 G F n ev1) (o_X2_find ev1) rfl rfl (Nat.le_of_ble_eq_true rfl) ⟨Nat.le_of_ble_eq_true rfl, Nat.le_of_ble_eq_true rfl⟩ ⟨Nat.zero_le _, Nat.zero_le _⟩ rfl dX2_pointAfter_85 rfl rfl ?_
  obtain rfl := Option.some.inj hx
  exact jj_iret C dX2_pointAfter_88 rfl
def x_X2_pointAfter (F : Nat) (h : pH) (l0 : Nat) (l1 : Nat) (l2 : Int32) (l3 : Int32) : Option (Int32 × pH) :=
  (chk 2 h l0).bind fun _ =>
  (getR 2 h l0 1).bind fun v1 =>
  (aldI 0 h v1 l2).bind fun v2 =>
  (x_X1_behind F h (v2 / (16 : Int32)) l3).bind fun v3 =>
  (getR 2 h l0 1).bind fun v4 =>
  (aldI 0 h v4 l2).bind fun v5 =>
  (getI 1 h l1 5).bind fun v6 =>
  if (v5 - v5 / (16 : Int32) * (16 : Int32)) = v6 then
    some (l2, h)
  else
    (getR 1 h l1 1).bind fun v7 =>
    (aldI 0 h v7 v3).bind fun v8 =>
    (getI 1 h l1 5).bind fun v9 =>
    if ((v5 - v5 / (16 : Int32) * (16 : Int32)) ||| v8) = v9 then
      x_X2_pointAfter_69 F h l0 l2 l3 ((v5 - v5 / (16 : Int32) * (16 : Int32)) ||| v8) 0
    else
      (getR 1 h l1 2).bind fun v10 =>
      (aldI 0 h v10 v3).bind fun v11 =>
      x_X2_pointAfter_69 F h l0 l2 l3 ((v5 - v5 / (16 : Int32) * (16 : Int32)) ||| v8) v11
theorem o_X2_pointAfter {F : Nat} {h : pH} {l0 : Nat} {l1 : Nat} {l2 : Int32} {l3 : Int32} {res : (Int32 × pH)} (hx : x_X2_pointAfter F h l0 l1 l2 l3 = some res) : chk 2 h l0 = some () := by
  unfold x_X2_pointAfter at hx
  obtain ⟨_, e, _⟩ := ob hx
  exact e
theorem mc_X2_pointAfter (l : Launch) (G : pG) (F n : Nat) {h : pH} {l0 : Nat} {l1 : Nat} {l2 : Int32} {l3 : Int32} {res : (Int32 × pH)} (hx : x_X2_pointAfter F h l0 l1 l2 l3 = some res) : MC l yX2_pointAfter cX2_pointAfter 7 (some (FieldType.int)) (rmD 2 0 0) G [.ref l0, .ref l1, .int l2, .int l3] n h (some (.int res.1)) n res.2 := by
  unfold x_X2_pointAfter at hx
  obtain ⟨_, _, hx⟩ := ob hx
  refine jj_entry RX2 rfl (by decide) (Nat.le_of_ble_eq_true rfl) (fun X _ _ C => ?_)
  show J X G (0, 0, some (.int res.1), n, res.2) (0, 0, n) h 0 [(0, .ref l0), (1, .ref l1), (2, .int l2), (3, .int l3)] []
  refine jj_aload_n C 0 0 dX2_pointAfter_0 rfl rfl ?_
  obtain ⟨v1, ev1, hx⟩ := ob hx
  refine jj_getR C fd_X2_17 dX2_pointAfter_1 ev1 ?_
  refine jj_iload_n C 2 2 dX2_pointAfter_4 rfl rfl ?_
  obtain ⟨v2, ev2, hx⟩ := ob hx
  refine jj_iald C dX2_pointAfter_5 ev2 ?_
  refine jj_bipush (v := 16) C dX2_pointAfter_6 (by decide) ?_
  refine jj_idiv C dX2_pointAfter_8 (by decide) ?_
  refine jj_iload_n C 3 3 dX2_pointAfter_9 rfl rfl ?_
  obtain ⟨v3, ev3, hx⟩ := ob hx
  refine jj_callS C [.int (v2 / (16 : Int32)), .int l3] lk_X2_61 (mc_X1_behind X.2.1 G F n ev3) rfl rfl (Nat.le_of_ble_eq_true rfl) ⟨Nat.le_of_ble_eq_true rfl, Nat.le_of_ble_eq_true rfl⟩ ⟨Nat.zero_le _, Nat.zero_le _⟩ rfl dX2_pointAfter_10 rfl rfl ?_
  refine jj_istore C 4 dX2_pointAfter_13 rfl (by decide) ?_
  refine jj_aload_n C 0 1 dX2_pointAfter_15 rfl rfl ?_
  obtain ⟨v4, ev4, hx⟩ := ob hx
  refine jj_getR C fd_X2_17 dX2_pointAfter_16 ev4 ?_
  refine jj_iload_n C 2 3 dX2_pointAfter_19 rfl rfl ?_
  obtain ⟨v5, ev5, hx⟩ := ob hx
  refine jj_iald C dX2_pointAfter_20 ev5 ?_
  refine jj_bipush (v := 16) C dX2_pointAfter_21 (by decide) ?_
  refine jj_irem C dX2_pointAfter_23 (by decide) ?_
  refine jj_istore C 5 dX2_pointAfter_24 rfl (by decide) ?_
  refine jj_iload C 5 0 dX2_pointAfter_26 rfl ?_
  refine jj_aload_n C 1 3 dX2_pointAfter_28 rfl rfl ?_
  obtain ⟨v6, ev6, hx⟩ := ob hx
  refine jj_getI C fd_X2_47 dX2_pointAfter_29 ev6 ?_
  refine jj_icmp_ne (tgt := 37) C dX2_pointAfter_32 (by decide) (fun q32 => ?_) (fun q32 => ?_)
  · rw [if_neg q32] at hx
    refine jj_iload C 5 0 dX2_pointAfter_37 rfl ?_
    refine jj_aload_n C 1 3 dX2_pointAfter_39 rfl rfl ?_
    obtain ⟨v7, ev7, hx⟩ := ob hx
    refine jj_getR C fd_X2_64 dX2_pointAfter_40 ev7 ?_
    refine jj_iload C 4 1 dX2_pointAfter_43 rfl ?_
    obtain ⟨v8, ev8, hx⟩ := ob hx
    refine jj_iald C dX2_pointAfter_45 ev8 ?_
    refine jj_ior C dX2_pointAfter_46 ?_
    refine jj_istore C 5 dX2_pointAfter_47 rfl (by decide) ?_
    refine jj_iload C 5 0 dX2_pointAfter_49 rfl ?_
    refine jj_aload_n C 1 3 dX2_pointAfter_51 rfl rfl ?_
    obtain ⟨v9, ev9, hx⟩ := ob hx
    refine jj_getI C fd_X2_47 dX2_pointAfter_52 ev9 ?_
    refine jj_icmp_ne (tgt := 62) C dX2_pointAfter_55 (by decide) (fun q55 => ?_) (fun q55 => ?_)
    · rw [if_neg q55] at hx
      refine jj_aload_n C 1 3 dX2_pointAfter_62 rfl rfl ?_
      obtain ⟨v10, ev10, hx⟩ := ob hx
      refine jj_getR C fd_X2_67 dX2_pointAfter_63 ev10 ?_
      refine jj_iload C 4 1 dX2_pointAfter_66 rfl ?_
      obtain ⟨v11, ev11, hx⟩ := ob hx
      refine jj_iald C dX2_pointAfter_68 ev11 ?_
      refine jj_sub [2, 4, 5, 0] rfl ?_
      exact t_X2_pointAfter_69 C F hx
    · rw [if_pos q55] at hx
      refine jj_iconst (v := 0) C dX2_pointAfter_58 (by decide) ?_
      refine jj_goto (tgt := 69) C dX2_pointAfter_59 (by decide) ?_
      refine jj_sub [2, 4, 5, 0] rfl ?_
      exact t_X2_pointAfter_69 C F hx
  · rw [if_pos q32] at hx
    refine jj_iload_n C 2 4 dX2_pointAfter_35 rfl rfl ?_
    obtain rfl := Option.some.inj hx
    exact jj_iret C dX2_pointAfter_36 rfl
def s_X2_layShortestRow_57 (F : Nat)  (l0 : Nat) (k57 : pH → Int32 → Int32 → Option pH) (h : pH) (l1 : Int32) (l2 : Int32) : Option pH :=
  if l2 < 0 then
    some h
  else
    (getR 2 h l0 4).bind fun v1 =>
    (getR 2 h l0 2).bind fun v2 =>
    (aldI 0 h v2 l1).bind fun v3 =>
    (astI 0 h v1 l2 (v3 - v3 / (3 : Int32) * (3 : Int32))).bind fun v4 =>
    (getR 2 v4 l0 2).bind fun v5 =>
    (aldI 0 v4 v5 l1).bind fun v6 =>
    k57 v4 (v6 / (3 : Int32)) (l2 + (-1))
def x_X2_layShortestRow_57 (F : Nat)  (l0 : Nat) : Nat → pH → Int32 → Int32 → Option pH
  | 0, _, _, _ => none
  | m + 1, h, l1, l2 => s_X2_layShortestRow_57 F l0 (x_X2_layShortestRow_57 F l0 m) h l1 l2
theorem ts_X2_layShortestRow_57 {X : pX} {G : pG} {n : Nat} {res : pH} (C : Cx X G RX2 cX2_layShortestRow 3 (rmD 0 0 0) n none) (F : Nat) {l0 : Nat} {k57 : pH → Int32 → Int32 → Option pH} (hk57 : ∀ (h : pH) (l1 : Int32) (l2 : Int32), k57 h l1 l2 = some res → J X G (0, 0, none, n, res) (0, 0, n) h 57 [(0, .ref l0), (1, .int l1), (2, .int l2)] []) {h : pH} {l1 : Int32} {l2 : Int32} (hx : s_X2_layShortestRow_57 F l0 k57 h l1 l2 = some res) : J X G (0, 0, none, n, res) (0, 0, n) h 57 [(0, .ref l0), (1, .int l1), (2, .int l2)] [] := by
  unfold s_X2_layShortestRow_57 at hx
  refine jj_iload_n C 2 2 dX2_layShortestRow_57 rfl rfl ?_
  refine jj_if_lt (tgt := 90) C dX2_layShortestRow_58 (by decide) (fun q58 => ?_) (fun q58 => ?_)
  · rw [if_pos q58] at hx
    obtain rfl := Option.some.inj hx
    exact jj_vret C dX2_layShortestRow_90 rfl
  · rw [if_neg q58] at hx
    refine jj_aload_n C 0 0 dX2_layShortestRow_61 rfl rfl ?_
    obtain ⟨v1, ev1, hx⟩ := ob hx
    refine jj_getR C fd_X2_26 dX2_layShortestRow_62 ev1 ?_
    refine jj_iload_n C 2 2 dX2_layShortestRow_65 rfl rfl ?_
    refine jj_aload_n C 0 0 dX2_layShortestRow_66 rfl rfl ?_
    obtain ⟨v2, ev2, hx⟩ := ob hx
    refine jj_getR C fd_X2_20 dX2_layShortestRow_67 ev2 ?_
    refine jj_iload_n C 1 1 dX2_layShortestRow_70 rfl rfl ?_
    obtain ⟨v3, ev3, hx⟩ := ob hx
    refine jj_iald C dX2_layShortestRow_71 ev3 ?_
    refine jj_iconst (v := 3) C dX2_layShortestRow_72 (by decide) ?_
    refine jj_irem C dX2_layShortestRow_73 (by decide) ?_
    obtain ⟨v4, ev4, hx⟩ := ob hx
    refine jj_iast C dX2_layShortestRow_74 ev4 ?_
    refine jj_aload_n C 0 0 dX2_layShortestRow_75 rfl rfl ?_
    obtain ⟨v5, ev5, hx⟩ := ob hx
    refine jj_getR C fd_X2_20 dX2_layShortestRow_76 ev5 ?_
    refine jj_iload_n C 1 1 dX2_layShortestRow_79 rfl rfl ?_
    obtain ⟨v6, ev6, hx⟩ := ob hx
    refine jj_iald C dX2_layShortestRow_80 ev6 ?_
    refine jj_iconst (v := 3) C dX2_layShortestRow_81 (by decide) ?_
    refine jj_idiv C dX2_layShortestRow_82 (by decide) ?_
    refine jj_istore_n C 1 dX2_layShortestRow_83 rfl rfl (by decide) ?_
    refine jj_iinc (v := l2 + (-1)) C 2 2 dX2_layShortestRow_84 rfl rfl rfl (by decide) ?_
    refine jj_goto (tgt := 57) C dX2_layShortestRow_87 (by decide) ?_
    refine jj_sub [2, 1, 0] rfl ?_
    exact hk57 _ _ _ hx
theorem t_X2_layShortestRow_57 {X : pX} {G : pG} {n : Nat} {res : pH} (C : Cx X G RX2 cX2_layShortestRow 3 (rmD 0 0 0) n none) (F : Nat) {l0 : Nat} : ∀ (m : Nat) (h : pH) (l1 : Int32) (l2 : Int32), x_X2_layShortestRow_57 F l0 m h l1 l2 = some res → J X G (0, 0, none, n, res) (0, 0, n) h 57 [(0, .ref l0), (1, .int l1), (2, .int l2)] [] := by
  intro m
  induction m with
  | zero => intro h l1 l2 hx; exact nomatch (show (none : Option pH) = some res from hx)
  | succ m ih => intro h l1 l2 hx; exact ts_X2_layShortestRow_57 C F  ih hx
def x_X2_layShortestRow_45 (F : Nat)  (h : pH) (l0 : Nat) : Option pH :=
  (getI 2 h l0 6).bind fun v1 =>
  (getI 2 h l0 7).bind fun v2 =>
  x_X2_layShortestRow_57 F l0 F h v1 (v2 - (1 : Int32))
theorem t_X2_layShortestRow_45 {X : pX} {G : pG} {n : Nat} {res : pH} (C : Cx X G RX2 cX2_layShortestRow 3 (rmD 0 0 0) n none) (F : Nat) {h : pH} {l0 : Nat} (hx : x_X2_layShortestRow_45 F h l0 = some res) : J X G (0, 0, none, n, res) (0, 0, n) h 45 [(0, .ref l0)] [] := by
  unfold x_X2_layShortestRow_45 at hx
  refine jj_aload_n C 0 0 dX2_layShortestRow_45 rfl rfl ?_
  obtain ⟨v1, ev1, hx⟩ := ob hx
  refine jj_getI C fd_X2_55 dX2_layShortestRow_46 ev1 ?_
  refine jj_istore_n C 1 dX2_layShortestRow_49 rfl rfl (by decide) ?_
  refine jj_aload_n C 0 1 dX2_layShortestRow_50 rfl rfl ?_
  obtain ⟨v2, ev2, hx⟩ := ob hx
  refine jj_getI C fd_X2_70 dX2_layShortestRow_51 ev2 ?_
  refine jj_iconst (v := 1) C dX2_layShortestRow_54 (by decide) ?_
  refine jj_isub C dX2_layShortestRow_55 ?_
  refine jj_istore_n C 2 dX2_layShortestRow_56 rfl rfl (by decide) ?_
  refine jj_sub [2, 1, 0] rfl ?_
  exact t_X2_layShortestRow_57 C F F _ _ _ hx
def s_X2_layShortestRow_10 (F : Nat)  (l0 : Nat) (k10 : pH → Int32 → Option pH) (h : pH) (l1 : Int32) : Option pH :=
  if l1 ≤ 0 then
    x_X2_layShortestRow_45 F h l0
  else
    (getI 2 h l0 7).bind fun v1 =>
    if 16 ≤ v1 then
      x_X2_layShortestRow_45 F h l0
    else
      (getI 2 h l0 7).bind fun v2 =>
      (putV 2 h l0 7 (.int (v2 + (1 : Int32)))).bind fun v3 =>
      (getR 2 v3 l0 2).bind fun v4 =>
      (aldI 0 v3 v4 l1).bind fun v5 =>
      k10 v3 (v5 / (3 : Int32))
def x_X2_layShortestRow_10 (F : Nat)  (l0 : Nat) : Nat → pH → Int32 → Option pH
  | 0, _, _ => none
  | m + 1, h, l1 => s_X2_layShortestRow_10 F l0 (x_X2_layShortestRow_10 F l0 m) h l1
theorem ts_X2_layShortestRow_10 {X : pX} {G : pG} {n : Nat} {res : pH} (C : Cx X G RX2 cX2_layShortestRow 3 (rmD 0 0 0) n none) (F : Nat) {l0 : Nat} {k10 : pH → Int32 → Option pH} (hk10 : ∀ (h : pH) (l1 : Int32), k10 h l1 = some res → J X G (0, 0, none, n, res) (0, 0, n) h 10 [(0, .ref l0), (1, .int l1)] []) {h : pH} {l1 : Int32} (hx : s_X2_layShortestRow_10 F l0 k10 h l1 = some res) : J X G (0, 0, none, n, res) (0, 0, n) h 10 [(0, .ref l0), (1, .int l1)] [] := by
  unfold s_X2_layShortestRow_10 at hx
  refine jj_iload_n C 1 1 dX2_layShortestRow_10 rfl rfl ?_
  refine jj_if_le (tgt := 45) C dX2_layShortestRow_11 (by decide) (fun q11 => ?_) (fun q11 => ?_)
  · rw [if_pos q11] at hx
    refine jj_sub [0] rfl ?_
    exact t_X2_layShortestRow_45 C F hx
  · rw [if_neg q11] at hx
    refine jj_aload_n C 0 0 dX2_layShortestRow_14 rfl rfl ?_
    obtain ⟨v1, ev1, hx⟩ := ob hx
    refine jj_getI C fd_X2_70 dX2_layShortestRow_15 ev1 ?_
    refine jj_bipush (v := 16) C dX2_layShortestRow_18 (by decide) ?_
    refine jj_icmp_ge (tgt := 45) C dX2_layShortestRow_20 (by decide) (fun q20 => ?_) (fun q20 => ?_)
    · rw [if_pos q20] at hx
      refine jj_sub [0] rfl ?_
      exact t_X2_layShortestRow_45 C F hx
    · rw [if_neg q20] at hx
      refine jj_aload_n C 0 0 dX2_layShortestRow_23 rfl rfl ?_
      refine jj_dup C dX2_layShortestRow_24 rfl ?_
      obtain ⟨v2, ev2, hx⟩ := ob hx
      refine jj_getI C fd_X2_70 dX2_layShortestRow_25 ev2 ?_
      refine jj_iconst (v := 1) C dX2_layShortestRow_28 (by decide) ?_
      refine jj_iadd C dX2_layShortestRow_29 ?_
      obtain ⟨v3, ev3, hx⟩ := ob hx
      refine jj_put C fd_X2_70 rfl rfl dX2_layShortestRow_30 ev3 ?_
      refine jj_aload_n C 0 0 dX2_layShortestRow_33 rfl rfl ?_
      obtain ⟨v4, ev4, hx⟩ := ob hx
      refine jj_getR C fd_X2_20 dX2_layShortestRow_34 ev4 ?_
      refine jj_iload_n C 1 1 dX2_layShortestRow_37 rfl rfl ?_
      obtain ⟨v5, ev5, hx⟩ := ob hx
      refine jj_iald C dX2_layShortestRow_38 ev5 ?_
      refine jj_iconst (v := 3) C dX2_layShortestRow_39 (by decide) ?_
      refine jj_idiv C dX2_layShortestRow_40 (by decide) ?_
      refine jj_istore_n C 1 dX2_layShortestRow_41 rfl rfl (by decide) ?_
      refine jj_goto (tgt := 10) C dX2_layShortestRow_42 (by decide) ?_
      refine jj_sub [1, 0] rfl ?_
      exact hk10 _ _ hx
theorem t_X2_layShortestRow_10 {X : pX} {G : pG} {n : Nat} {res : pH} (C : Cx X G RX2 cX2_layShortestRow 3 (rmD 0 0 0) n none) (F : Nat) {l0 : Nat} : ∀ (m : Nat) (h : pH) (l1 : Int32), x_X2_layShortestRow_10 F l0 m h l1 = some res → J X G (0, 0, none, n, res) (0, 0, n) h 10 [(0, .ref l0), (1, .int l1)] [] := by
  intro m
  induction m with
  | zero => intro h l1 hx; exact nomatch (show (none : Option pH) = some res from hx)
  | succ m ih => intro h l1 hx; exact ts_X2_layShortestRow_10 C F  ih hx
def x_X2_layShortestRow (F : Nat) (h : pH) (l0 : Nat) : Option pH :=
  (chk 2 h l0).bind fun _ =>
  (putV 2 h l0 7 (.int 0)).bind fun v1 =>
  (getI 2 v1 l0 6).bind fun v2 =>
  x_X2_layShortestRow_10 F l0 F v1 v2
theorem o_X2_layShortestRow {F : Nat} {h : pH} {l0 : Nat} {res : pH} (hx : x_X2_layShortestRow F h l0 = some res) : chk 2 h l0 = some () := by
  unfold x_X2_layShortestRow at hx
  obtain ⟨_, e, _⟩ := ob hx
  exact e
theorem mc_X2_layShortestRow (l : Launch) (G : pG) (F n : Nat) {h : pH} {l0 : Nat} {res : pH} (hx : x_X2_layShortestRow F h l0 = some res) : MC l yX2_layShortestRow cX2_layShortestRow 3 none (rmD 0 0 0) G [.ref l0] n h (none) n res := by
  unfold x_X2_layShortestRow at hx
  obtain ⟨_, _, hx⟩ := ob hx
  refine jj_entry RX2 rfl (by decide) (Nat.le_of_ble_eq_true rfl) (fun X _ _ C => ?_)
  show J X G (0, 0, none, n, res) (0, 0, n) h 0 [(0, .ref l0)] []
  refine jj_aload_n C 0 0 dX2_layShortestRow_0 rfl rfl ?_
  refine jj_iconst (v := 0) C dX2_layShortestRow_1 (by decide) ?_
  obtain ⟨v1, ev1, hx⟩ := ob hx
  refine jj_put C fd_X2_70 rfl rfl dX2_layShortestRow_2 ev1 ?_
  refine jj_aload_n C 0 0 dX2_layShortestRow_5 rfl rfl ?_
  obtain ⟨v2, ev2, hx⟩ := ob hx
  refine jj_getI C fd_X2_55 dX2_layShortestRow_6 ev2 ?_
  refine jj_istore_n C 1 dX2_layShortestRow_9 rfl rfl (by decide) ?_
  refine jj_sub [1, 0] rfl ?_
  exact t_X2_layShortestRow_10 C F F _ _ hx
def s_X2_lay_40 (F : Nat) (k23 : pH → Int32 → Option pH) (l0 : Nat) (l1 : Nat) (l2 : Int32) (k40 : pH → Int32 → Option pH) (h : pH) (l3 : Int32) : Option pH :=
  if 3 ≤ l3 then
    k23 h (l2 + 1)
  else
    (getR 2 h l0 3).bind fun v1 =>
    (x_X2_pointAfter F h l0 l1 l2 l3).bind fun v2 =>
    (astI 0 v2.2 v1 (((3 : Int32) * l2) + l3) v2.1).bind fun v3 =>
    k40 v3 (l3 + 1)
def x_X2_lay_40 (F : Nat) (k23 : pH → Int32 → Option pH) (l0 : Nat) (l1 : Nat) (l2 : Int32) : Nat → pH → Int32 → Option pH
  | 0, _, _ => none
  | m + 1, h, l3 => s_X2_lay_40 F k23 l0 l1 l2 (x_X2_lay_40 F k23 l0 l1 l2 m) h l3
theorem ts_X2_lay_40 {X : pX} {G : pG} {n : Nat} {res : pH} (C : Cx X G RX2 cX2_lay 4 (rmD 3 0 0) n none) (F : Nat) {l0 : Nat} {l1 : Nat} {l2 : Int32} {k23 : pH → Int32 → Option pH} (hk23 : ∀ (h : pH) (l2 : Int32), k23 h l2 = some res → J X G (0, 0, none, n, res) (0, 0, n) h 23 [(0, .ref l0), (1, .ref l1), (2, .int l2)] []) {k40 : pH → Int32 → Option pH} (hk40 : ∀ (h : pH) (l3 : Int32), k40 h l3 = some res → J X G (0, 0, none, n, res) (0, 0, n) h 40 [(0, .ref l0), (1, .ref l1), (2, .int l2), (3, .int l3)] []) {h : pH} {l3 : Int32} (hx : s_X2_lay_40 F k23 l0 l1 l2 k40 h l3 = some res) : J X G (0, 0, none, n, res) (0, 0, n) h 40 [(0, .ref l0), (1, .ref l1), (2, .int l2), (3, .int l3)] [] := by
  unfold s_X2_lay_40 at hx
  refine jj_iload_n C 3 3 dX2_lay_40 rfl rfl ?_
  refine jj_iconst (v := 3) C dX2_lay_41 (by decide) ?_
  refine jj_icmp_ge (tgt := 68) C dX2_lay_42 (by decide) (fun q42 => ?_) (fun q42 => ?_)
  · rw [if_pos q42] at hx
    refine jj_iinc (v := l2 + 1) C 2 2 dX2_lay_68 rfl rfl rfl (by decide) ?_
    refine jj_goto (tgt := 23) C dX2_lay_71 (by decide) ?_
    refine jj_sub [1, 2, 0] rfl ?_
    exact hk23 _ _ hx
  · rw [if_neg q42] at hx
    refine jj_aload_n C 0 0 dX2_lay_45 rfl rfl ?_
    obtain ⟨v1, ev1, hx⟩ := ob hx
    refine jj_getR C fd_X2_23 dX2_lay_46 ev1 ?_
    refine jj_iconst (v := 3) C dX2_lay_49 (by decide) ?_
    refine jj_iload_n C 2 2 dX2_lay_50 rfl rfl ?_
    refine jj_imul C dX2_lay_51 ?_
    refine jj_iload_n C 3 3 dX2_lay_52 rfl rfl ?_
    refine jj_iadd C dX2_lay_53 ?_
    refine jj_aload_n C 0 0 dX2_lay_54 rfl rfl ?_
    refine jj_aload_n C 1 1 dX2_lay_55 rfl rfl ?_
    refine jj_iload_n C 2 2 dX2_lay_56 rfl rfl ?_
    refine jj_iload_n C 3 3 dX2_lay_57 rfl rfl ?_
    obtain ⟨v2, ev2, hx⟩ := ob hx
    refine jj_callV C [.ref l1, .int l2, .int l3] lk_X2_43 (mc_X2_pointAfter X.2.1 G F n ev2) (o_X2_pointAfter ev2) rfl rfl (Nat.le_of_ble_eq_true rfl) ⟨Nat.le_of_ble_eq_true rfl, Nat.le_of_ble_eq_true rfl⟩ ⟨Nat.zero_le _, Nat.zero_le _⟩ rfl dX2_lay_58 rfl rfl ?_
    obtain ⟨v3, ev3, hx⟩ := ob hx
    refine jj_iast C dX2_lay_61 ev3 ?_
    refine jj_iinc (v := l3 + 1) C 3 3 dX2_lay_62 rfl rfl rfl (by decide) ?_
    refine jj_goto (tgt := 40) C dX2_lay_65 (by decide) ?_
    refine jj_sub [1, 2, 3, 0] rfl ?_
    exact hk40 _ _ hx
theorem t_X2_lay_40 {X : pX} {G : pG} {n : Nat} {res : pH} (C : Cx X G RX2 cX2_lay 4 (rmD 3 0 0) n none) (F : Nat) {l0 : Nat} {l1 : Nat} {l2 : Int32} {k23 : pH → Int32 → Option pH} (hk23 : ∀ (h : pH) (l2 : Int32), k23 h l2 = some res → J X G (0, 0, none, n, res) (0, 0, n) h 23 [(0, .ref l0), (1, .ref l1), (2, .int l2)] []) : ∀ (m : Nat) (h : pH) (l3 : Int32), x_X2_lay_40 F k23 l0 l1 l2 m h l3 = some res → J X G (0, 0, none, n, res) (0, 0, n) h 40 [(0, .ref l0), (1, .ref l1), (2, .int l2), (3, .int l3)] [] := by
  intro m
  induction m with
  | zero => intro h l3 hx; exact nomatch (show (none : Option pH) = some res from hx)
  | succ m ih => intro h l3 hx; exact ts_X2_lay_40 C F hk23 ih hx
def x_X2_lay_74 (F : Nat)  (h : pH) (l0 : Nat) (l1 : Nat) : Option pH :=
  (getR 2 h l0 0).bind fun v1 =>
  (getI 1 h l1 5).bind fun v2 =>
  (aldI 0 h v1 v2).bind fun v3 =>
  (putV 2 h l0 6 (.int (if (0 : Int32) < v3 then v3 else 0))).bind fun v4 =>
  (x_X2_layShortestRow F v4 l0).bind fun v5 =>
  some v5
theorem t_X2_lay_74 {X : pX} {G : pG} {n : Nat} {res : pH} (C : Cx X G RX2 cX2_lay 4 (rmD 3 0 0) n none) (F : Nat) {h : pH} {l0 : Nat} {l1 : Nat} (hx : x_X2_lay_74 F h l0 l1 = some res) : J X G (0, 0, none, n, res) (0, 0, n) h 74 [(0, .ref l0), (1, .ref l1)] [] := by
  unfold x_X2_lay_74 at hx
  refine jj_aload_n C 0 0 dX2_lay_74 rfl rfl ?_
  refine jj_iconst (v := 0) C dX2_lay_75 (by decide) ?_
  refine jj_aload_n C 0 0 dX2_lay_76 rfl rfl ?_
  obtain ⟨v1, ev1, hx⟩ := ob hx
  refine jj_getR C fd_X2_13 dX2_lay_77 ev1 ?_
  refine jj_aload_n C 1 1 dX2_lay_80 rfl rfl ?_
  obtain ⟨v2, ev2, hx⟩ := ob hx
  refine jj_getI C fd_X2_47 dX2_lay_81 ev2 ?_
  obtain ⟨v3, ev3, hx⟩ := ob hx
  refine jj_iald C dX2_lay_84 ev3 ?_
  refine jj_max C ml_X2_50 (Nat.le_of_ble_eq_true rfl) (Nat.le_of_ble_eq_true rfl) (Nat.zero_le _) (Nat.zero_le _) dX2_lay_85 ?_
  obtain ⟨v4, ev4, hx⟩ := ob hx
  refine jj_put C fd_X2_55 rfl rfl dX2_lay_88 ev4 ?_
  refine jj_aload_n C 0 0 dX2_lay_91 rfl rfl ?_
  obtain ⟨v5, ev5, hx⟩ := ob hx
  refine jj_callV C [] lk_X2_58 (mc_X2_layShortestRow X.2.1 G F n ev5) (o_X2_layShortestRow ev5) rfl rfl (Nat.le_of_ble_eq_true rfl) ⟨Nat.le_of_ble_eq_true rfl, Nat.le_of_ble_eq_true rfl⟩ ⟨Nat.zero_le _, Nat.zero_le _⟩ rfl dX2_lay_92 rfl rfl ?_
  obtain rfl := Option.some.inj hx
  exact jj_vret C dX2_lay_95 rfl
def s_X2_lay_23 (F : Nat)  (l0 : Nat) (l1 : Nat) (k23 : pH → Int32 → Option pH) (h : pH) (l2 : Int32) : Option pH :=
  (getI 2 h l0 5).bind fun v1 =>
  if v1 ≤ l2 then
    x_X2_lay_74 F h l0 l1
  else
    if 320 ≤ l2 then
      x_X2_lay_74 F h l0 l1
    else
      x_X2_lay_40 F k23 l0 l1 l2 F h 0
def x_X2_lay_23 (F : Nat)  (l0 : Nat) (l1 : Nat) : Nat → pH → Int32 → Option pH
  | 0, _, _ => none
  | m + 1, h, l2 => s_X2_lay_23 F l0 l1 (x_X2_lay_23 F l0 l1 m) h l2
theorem ts_X2_lay_23 {X : pX} {G : pG} {n : Nat} {res : pH} (C : Cx X G RX2 cX2_lay 4 (rmD 3 0 0) n none) (F : Nat) {l0 : Nat} {l1 : Nat} {k23 : pH → Int32 → Option pH} (hk23 : ∀ (h : pH) (l2 : Int32), k23 h l2 = some res → J X G (0, 0, none, n, res) (0, 0, n) h 23 [(0, .ref l0), (1, .ref l1), (2, .int l2)] []) {h : pH} {l2 : Int32} (hx : s_X2_lay_23 F l0 l1 k23 h l2 = some res) : J X G (0, 0, none, n, res) (0, 0, n) h 23 [(0, .ref l0), (1, .ref l1), (2, .int l2)] [] := by
  unfold s_X2_lay_23 at hx
  refine jj_iload_n C 2 2 dX2_lay_23 rfl rfl ?_
  refine jj_aload_n C 0 0 dX2_lay_24 rfl rfl ?_
  obtain ⟨v1, ev1, hx⟩ := ob hx
  refine jj_getI C fd_X2_35 dX2_lay_25 ev1 ?_
  refine jj_icmp_ge (tgt := 74) C dX2_lay_28 (by decide) (fun q28 => ?_) (fun q28 => ?_)
  · rw [if_pos q28] at hx
    refine jj_sub [0, 1] rfl ?_
    exact t_X2_lay_74 C F hx
  · rw [if_neg q28] at hx
    refine jj_iload_n C 2 2 dX2_lay_31 rfl rfl ?_
    refine jj_sipush (v := 320) C dX2_lay_32 (by decide) ?_
    refine jj_icmp_ge (tgt := 74) C dX2_lay_35 (by decide) (fun q35 => ?_) (fun q35 => ?_)
    · rw [if_pos q35] at hx
      refine jj_sub [0, 1] rfl ?_
      exact t_X2_lay_74 C F hx
    · rw [if_neg q35] at hx
      refine jj_iconst (v := 0) C dX2_lay_38 (by decide) ?_
      refine jj_istore_n C 3 dX2_lay_39 rfl rfl (by decide) ?_
      refine jj_sub [1, 2, 3, 0] rfl ?_
      exact t_X2_lay_40 C F hk23 F _ _ hx
theorem t_X2_lay_23 {X : pX} {G : pG} {n : Nat} {res : pH} (C : Cx X G RX2 cX2_lay 4 (rmD 3 0 0) n none) (F : Nat) {l0 : Nat} {l1 : Nat} : ∀ (m : Nat) (h : pH) (l2 : Int32), x_X2_lay_23 F l0 l1 m h l2 = some res → J X G (0, 0, none, n, res) (0, 0, n) h 23 [(0, .ref l0), (1, .ref l1), (2, .int l2)] [] := by
  intro m
  induction m with
  | zero => intro h l2 hx; exact nomatch (show (none : Option pH) = some res from hx)
  | succ m ih => intro h l2 hx; exact ts_X2_lay_23 C F  ih hx
def x_X2_lay (F : Nat) (h : pH) (l0 : Nat) (l1 : Nat) : Option pH :=
  (chk 2 h l0).bind fun _ =>
  (getR 2 h l0 0).bind fun v1 =>
  (x_J7_fill_53178 F h v1 ((-9))).bind fun v2 =>
  (putV 2 v2 l0 5 (.int 0)).bind fun v3 =>
  (x_X2_find F v3 l0 0 0).bind fun v4 =>
  x_X2_lay_23 F l0 l1 F v4.2 0
theorem o_X2_lay {F : Nat} {h : pH} {l0 : Nat} {l1 : Nat} {res : pH} (hx : x_X2_lay F h l0 l1 = some res) : chk 2 h l0 = some () := by
  unfold x_X2_lay at hx
  obtain ⟨_, e, _⟩ := ob hx
  exact e
theorem mc_X2_lay (l : Launch) (G : pG) (F n : Nat) {h : pH} {l0 : Nat} {l1 : Nat} {res : pH} (hx : x_X2_lay F h l0 l1 = some res) : MC l yX2_lay cX2_lay 4 none (rmD 3 0 0) G [.ref l0, .ref l1] n h (none) n res := by
  unfold x_X2_lay at hx
  obtain ⟨_, _, hx⟩ := ob hx
  refine jj_entry RX2 rfl (by decide) (Nat.le_of_ble_eq_true rfl) (fun X _ _ C => ?_)
  show J X G (0, 0, none, n, res) (0, 0, n) h 0 [(0, .ref l0), (1, .ref l1)] []
  refine jj_aload_n C 0 0 dX2_lay_0 rfl rfl ?_
  obtain ⟨v1, ev1, hx⟩ := ob hx
  refine jj_getR C fd_X2_13 dX2_lay_1 ev1 ?_
  refine jj_bipush (v := (-9)) C dX2_lay_4 (by decide) ?_
  obtain ⟨v2, ev2, hx⟩ := ob hx
  refine jj_callS C [.ref v1, .int ((-9))] lk_X2_29 (mc_J7_fill_53178 X.2.1 G F n ev2) rfl rfl (Nat.le_of_ble_eq_true rfl) ⟨Nat.le_of_ble_eq_true rfl, Nat.le_of_ble_eq_true rfl⟩ ⟨Nat.zero_le _, Nat.zero_le _⟩ rfl dX2_lay_6 rfl rfl ?_
  refine jj_aload_n C 0 0 dX2_lay_9 rfl rfl ?_
  refine jj_iconst (v := 0) C dX2_lay_10 (by decide) ?_
  obtain ⟨v3, ev3, hx⟩ := ob hx
  refine jj_put C fd_X2_35 rfl rfl dX2_lay_11 ev3 ?_
  refine jj_aload_n C 0 0 dX2_lay_14 rfl rfl ?_
  refine jj_iconst (v := 0) C dX2_lay_15 (by decide) ?_
  refine jj_iconst (v := 0) C dX2_lay_16 (by decide) ?_
  obtain ⟨v4, ev4, hx⟩ := ob hx
  refine jj_callV C [.int 0, .int 0] lk_X2_39 (mc_X2_find X.2.1 G F n ev4) (o_X2_find ev4) rfl rfl (Nat.le_of_ble_eq_true rfl) ⟨Nat.le_of_ble_eq_true rfl, Nat.le_of_ble_eq_true rfl⟩ ⟨Nat.zero_le _, Nat.zero_le _⟩ rfl dX2_lay_17 rfl rfl ?_
  refine jj_pop C dX2_lay_20 rfl ?_
  refine jj_iconst (v := 0) C dX2_lay_21 (by decide) ?_
  refine jj_istore_n C 2 dX2_lay_22 rfl rfl (by decide) ?_
  refine jj_sub [1, 2, 0] rfl ?_
  exact t_X2_lay_23 C F F _ _ hx
def x_X3_keep (F : Nat) (h : pH) (l0 : Nat) (l1 : Int32) (l2 : Nat) (l3 : Int32) (l4 : Int32) : Option pH :=
  (chk 3 h l0).bind fun _ =>
  (putV 3 h l0 1 (.int l1)).bind fun v1 =>
  (putV 3 v1 l0 2 (.int l3)).bind fun v2 =>
  (putZ 3 v2 l0 3 l4).bind fun v3 =>
  (getR 3 v3 l0 0).bind fun v4 =>
  (acpI v3 l2 0 v4 0 l3).bind fun v5 =>
  some v5
theorem o_X3_keep {F : Nat} {h : pH} {l0 : Nat} {l1 : Int32} {l2 : Nat} {l3 : Int32} {l4 : Int32} {res : pH} (hx : x_X3_keep F h l0 l1 l2 l3 l4 = some res) : chk 3 h l0 = some () := by
  unfold x_X3_keep at hx
  obtain ⟨_, e, _⟩ := ob hx
  exact e
theorem mc_X3_keep (l : Launch) (G : pG) (F n : Nat) {h : pH} {l0 : Nat} {l1 : Int32} {l2 : Nat} {l3 : Int32} {l4 : Int32} {res : pH} (hx : x_X3_keep F h l0 l1 l2 l3 l4 = some res) : MC l yX3_keep cX3_keep 5 none (rmD 1 0 0) G [.ref l0, .int l1, .ref l2, .int l3, .int l4] n h (none) n res := by
  unfold x_X3_keep at hx
  obtain ⟨_, _, hx⟩ := ob hx
  refine jj_entry RX3 rfl (by decide) (Nat.le_of_ble_eq_true rfl) (fun X _ _ C => ?_)
  show J X G (0, 0, none, n, res) (0, 0, n) h 0 [(0, .ref l0), (1, .int l1), (2, .ref l2), (3, .int l3), (4, .int l4)] []
  refine jj_aload_n C 0 0 dX3_keep_0 rfl rfl ?_
  refine jj_iload_n C 1 1 dX3_keep_1 rfl rfl ?_
  obtain ⟨v1, ev1, hx⟩ := ob hx
  refine jj_put C fd_X3_15 rfl rfl dX3_keep_2 ev1 ?_
  refine jj_aload_n C 0 0 dX3_keep_5 rfl rfl ?_
  refine jj_iload_n C 3 3 dX3_keep_6 rfl rfl ?_
  obtain ⟨v2, ev2, hx⟩ := ob hx
  refine jj_put C fd_X3_19 rfl rfl dX3_keep_7 ev2 ?_
  refine jj_aload_n C 0 0 dX3_keep_10 rfl rfl ?_
  refine jj_iload C 4 4 dX3_keep_11 rfl ?_
  obtain ⟨v3, ev3, hx⟩ := ob hx
  obtain ⟨zv3, ev3⟩ := putZ_inv ev3
  refine jj_put C fd_X3_22 (nz zv3) (fz zv3) dX3_keep_13 ev3 ?_
  refine jj_aload_n C 2 2 dX3_keep_16 rfl rfl ?_
  refine jj_iconst (v := 0) C dX3_keep_17 (by decide) ?_
  refine jj_aload_n C 0 0 dX3_keep_18 rfl rfl ?_
  obtain ⟨v4, ev4, hx⟩ := ob hx
  refine jj_getR C fd_X3_9 dX3_keep_19 ev4 ?_
  refine jj_iconst (v := 0) C dX3_keep_22 (by decide) ?_
  refine jj_iload_n C 3 3 dX3_keep_23 rfl rfl ?_
  obtain ⟨v5, ev5, hx⟩ := ob hx
  refine jj_acp C ml_X3_26 (Nat.le_of_ble_eq_true rfl) (Nat.le_of_ble_eq_true rfl) dX3_keep_24 ev5 ?_
  obtain rfl := Option.some.inj hx
  exact jj_vret C dX3_keep_27 rfl
def x_X4_begin (F : Nat) (h : pH) (l0 : Nat) (l1 : Int32) (l2 : Int32) : Option pH :=
  (chk 4 h l0).bind fun _ =>
  (putZ 4 h l0 1 (1 : Int32)).bind fun v1 =>
  (putV 4 v1 l0 2 (.int l1)).bind fun v2 =>
  (putV 4 v2 l0 3 (.int l2)).bind fun v3 =>
  (getR 4 v3 l0 0).bind fun v4 =>
  (x_J7_fill_53178 F v3 v4 0).bind fun v5 =>
  some v5
theorem o_X4_begin {F : Nat} {h : pH} {l0 : Nat} {l1 : Int32} {l2 : Int32} {res : pH} (hx : x_X4_begin F h l0 l1 l2 = some res) : chk 4 h l0 = some () := by
  unfold x_X4_begin at hx
  obtain ⟨_, e, _⟩ := ob hx
  exact e
theorem mc_X4_begin (l : Launch) (G : pG) (F n : Nat) {h : pH} {l0 : Nat} {l1 : Int32} {l2 : Int32} {res : pH} (hx : x_X4_begin F h l0 l1 l2 = some res) : MC l yX4_begin cX4_begin 3 none (rmD 1 0 0) G [.ref l0, .int l1, .int l2] n h (none) n res := by
  unfold x_X4_begin at hx
  obtain ⟨_, _, hx⟩ := ob hx
  refine jj_entry RX4 rfl (by decide) (Nat.le_of_ble_eq_true rfl) (fun X _ _ C => ?_)
  show J X G (0, 0, none, n, res) (0, 0, n) h 0 [(0, .ref l0), (1, .int l1), (2, .int l2)] []
  refine jj_aload_n C 0 0 dX4_begin_0 rfl rfl ?_
  refine jj_iconst (v := 1) C dX4_begin_1 (by decide) ?_
  obtain ⟨v1, ev1, hx⟩ := ob hx
  obtain ⟨zv1, ev1⟩ := putZ_inv ev1
  refine jj_put C fd_X4_15 (nz zv1) (fz zv1) dX4_begin_2 ev1 ?_
  refine jj_aload_n C 0 0 dX4_begin_5 rfl rfl ?_
  refine jj_iload_n C 1 1 dX4_begin_6 rfl rfl ?_
  obtain ⟨v2, ev2, hx⟩ := ob hx
  refine jj_put C fd_X4_19 rfl rfl dX4_begin_7 ev2 ?_
  refine jj_aload_n C 0 0 dX4_begin_10 rfl rfl ?_
  refine jj_iload_n C 2 2 dX4_begin_11 rfl rfl ?_
  obtain ⟨v3, ev3, hx⟩ := ob hx
  refine jj_put C fd_X4_23 rfl rfl dX4_begin_12 ev3 ?_
  refine jj_aload_n C 0 0 dX4_begin_15 rfl rfl ?_
  obtain ⟨v4, ev4, hx⟩ := ob hx
  refine jj_getR C fd_X4_9 dX4_begin_16 ev4 ?_
  refine jj_iconst (v := 0) C dX4_begin_19 (by decide) ?_
  obtain ⟨v5, ev5, hx⟩ := ob hx
  refine jj_callS C [.ref v4, .int 0] lk_X4_26 (mc_J7_fill_53178 X.2.1 G F n ev5) rfl rfl (Nat.le_of_ble_eq_true rfl) ⟨Nat.le_of_ble_eq_true rfl, Nat.le_of_ble_eq_true rfl⟩ ⟨Nat.zero_le _, Nat.zero_le _⟩ rfl dX4_begin_20 rfl rfl ?_
  obtain rfl := Option.some.inj hx
  exact jj_vret C dX4_begin_23 rfl
def x_X4_faultOfLane (F : Nat) (h : pH) (l0 : Nat) (l1 : Int32) : Option Int32 :=
  (chk 4 h l0).bind fun _ =>
  (getI 4 h l0 1).bind fun v1 =>
  if v1 = 0 then
    some (1 : Int32)
  else
    (getI 4 h l0 2).bind fun v2 =>
    if v2 = l1 then
      some (0 : Int32)
    else
      some (2 : Int32)
theorem o_X4_faultOfLane {F : Nat} {h : pH} {l0 : Nat} {l1 : Int32} {res : Int32} (hx : x_X4_faultOfLane F h l0 l1 = some res) : chk 4 h l0 = some () := by
  unfold x_X4_faultOfLane at hx
  obtain ⟨_, e, _⟩ := ob hx
  exact e
theorem mc_X4_faultOfLane (l : Launch) (G : pG) (F n : Nat) {h : pH} {l0 : Nat} {l1 : Int32} {res : Int32} (hx : x_X4_faultOfLane F h l0 l1 = some res) : MC l yX4_faultOfLane cX4_faultOfLane 2 (some (FieldType.int)) (rmD 0 0 0) G [.ref l0, .int l1] n h (some (.int res)) n h := by
  unfold x_X4_faultOfLane at hx
  obtain ⟨_, _, hx⟩ := ob hx
  refine jj_entry RX4 rfl (by decide) (Nat.le_of_ble_eq_true rfl) (fun X _ _ C => ?_)
  show J X G (0, 0, some (.int res), n, h) (0, 0, n) h 0 [(0, .ref l0), (1, .int l1)] []
  refine jj_aload_n C 0 0 dX4_faultOfLane_0 rfl rfl ?_
  obtain ⟨v1, ev1, hx⟩ := ob hx
  refine jj_getI C fd_X4_15 dX4_faultOfLane_1 ev1 ?_
  refine jj_if_ne (tgt := 9) C dX4_faultOfLane_4 (by decide) (fun q4 => ?_) (fun q4 => ?_)
  · rw [if_neg q4] at hx
    refine jj_aload_n C 0 0 dX4_faultOfLane_9 rfl rfl ?_
    obtain ⟨v2, ev2, hx⟩ := ob hx
    refine jj_getI C fd_X4_19 dX4_faultOfLane_10 ev2 ?_
    refine jj_iload_n C 1 1 dX4_faultOfLane_13 rfl rfl ?_
    refine jj_icmp_ne (tgt := 21) C dX4_faultOfLane_14 (by decide) (fun q14 => ?_) (fun q14 => ?_)
    · rw [if_neg q14] at hx
      refine jj_iconst (v := 2) C dX4_faultOfLane_21 (by decide) ?_
      obtain rfl := Option.some.inj hx
      exact jj_iret C dX4_faultOfLane_22 rfl
    · rw [if_pos q14] at hx
      refine jj_iconst (v := 0) C dX4_faultOfLane_17 (by decide) ?_
      refine jj_goto (tgt := 22) C dX4_faultOfLane_18 (by decide) ?_
      obtain rfl := Option.some.inj hx
      exact jj_iret C dX4_faultOfLane_22 rfl
  · rw [if_pos q4] at hx
    refine jj_iconst (v := 1) C dX4_faultOfLane_7 (by decide) ?_
    obtain rfl := Option.some.inj hx
    exact jj_iret C dX4_faultOfLane_8 rfl
def x_X4_hasCells (F : Nat) (h : pH) (l0 : Nat) (l1 : Int32) (l2 : Int32) : Option Int32 :=
  (chk 4 h l0).bind fun _ =>
  if l2 < 0 then
    some (0 : Int32)
  else
    if l1 < 0 then
      some (0 : Int32)
    else
      (getI 4 h l0 3).bind fun v1 =>
      if v1 < l1 then
        some (0 : Int32)
      else
        (getI 4 h l0 3).bind fun v2 =>
        if (v2 - l1) < l2 then
          some (0 : Int32)
        else
          some (1 : Int32)
theorem o_X4_hasCells {F : Nat} {h : pH} {l0 : Nat} {l1 : Int32} {l2 : Int32} {res : Int32} (hx : x_X4_hasCells F h l0 l1 l2 = some res) : chk 4 h l0 = some () := by
  unfold x_X4_hasCells at hx
  obtain ⟨_, e, _⟩ := ob hx
  exact e
theorem mc_X4_hasCells (l : Launch) (G : pG) (F n : Nat) {h : pH} {l0 : Nat} {l1 : Int32} {l2 : Int32} {res : Int32} (hx : x_X4_hasCells F h l0 l1 l2 = some res) : MC l yX4_hasCells cX4_hasCells 3 (some (FieldType.boolean)) (rmD 0 0 0) G [.ref l0, .int l1, .int l2] n h (some (.int res)) n h := by
  unfold x_X4_hasCells at hx
  obtain ⟨_, _, hx⟩ := ob hx
  refine jj_entry RX4 rfl (by decide) (Nat.le_of_ble_eq_true rfl) (fun X _ _ C => ?_)
  show J X G (0, 0, some (.int res), n, h) (0, 0, n) h 0 [(0, .ref l0), (1, .int l1), (2, .int l2)] []
  refine jj_iload_n C 2 2 dX4_hasCells_0 rfl rfl ?_
  refine jj_if_lt (tgt := 30) C dX4_hasCells_1 (by decide) (fun q1 => ?_) (fun q1 => ?_)
  · rw [if_pos q1] at hx
    refine jj_iconst (v := 0) C dX4_hasCells_30 (by decide) ?_
    obtain rfl := Option.some.inj hx
    exact jj_zret C (Or.inl rfl) dX4_hasCells_31 rfl
  · rw [if_neg q1] at hx
    refine jj_iload_n C 1 1 dX4_hasCells_4 rfl rfl ?_
    refine jj_if_lt (tgt := 30) C dX4_hasCells_5 (by decide) (fun q5 => ?_) (fun q5 => ?_)
    · rw [if_pos q5] at hx
      refine jj_iconst (v := 0) C dX4_hasCells_30 (by decide) ?_
      obtain rfl := Option.some.inj hx
      exact jj_zret C (Or.inl rfl) dX4_hasCells_31 rfl
    · rw [if_neg q5] at hx
      refine jj_iload_n C 1 1 dX4_hasCells_8 rfl rfl ?_
      refine jj_aload_n C 0 0 dX4_hasCells_9 rfl rfl ?_
      obtain ⟨v1, ev1, hx⟩ := ob hx
      refine jj_getI C fd_X4_23 dX4_hasCells_10 ev1 ?_
      refine jj_icmp_gt (tgt := 30) C dX4_hasCells_13 (by decide) (fun q13 => ?_) (fun q13 => ?_)
      · rw [if_pos q13] at hx
        refine jj_iconst (v := 0) C dX4_hasCells_30 (by decide) ?_
        obtain rfl := Option.some.inj hx
        exact jj_zret C (Or.inl rfl) dX4_hasCells_31 rfl
      · rw [if_neg q13] at hx
        refine jj_iload_n C 2 2 dX4_hasCells_16 rfl rfl ?_
        refine jj_aload_n C 0 0 dX4_hasCells_17 rfl rfl ?_
        obtain ⟨v2, ev2, hx⟩ := ob hx
        refine jj_getI C fd_X4_23 dX4_hasCells_18 ev2 ?_
        refine jj_iload_n C 1 1 dX4_hasCells_21 rfl rfl ?_
        refine jj_isub C dX4_hasCells_22 ?_
        refine jj_icmp_gt (tgt := 30) C dX4_hasCells_23 (by decide) (fun q23 => ?_) (fun q23 => ?_)
        · rw [if_pos q23] at hx
          refine jj_iconst (v := 0) C dX4_hasCells_30 (by decide) ?_
          obtain rfl := Option.some.inj hx
          exact jj_zret C (Or.inl rfl) dX4_hasCells_31 rfl
        · rw [if_neg q23] at hx
          refine jj_iconst (v := 1) C dX4_hasCells_26 (by decide) ?_
          refine jj_goto (tgt := 31) C dX4_hasCells_27 (by decide) ?_
          obtain rfl := Option.some.inj hx
          exact jj_zret C (Or.inr rfl) dX4_hasCells_31 rfl
def x_X4_faultOfCells (F : Nat) (h : pH) (l0 : Nat) (l1 : Int32) (l2 : Int32) (l3 : Int32) : Option Int32 :=
  (chk 4 h l0).bind fun _ =>
  (x_X4_faultOfLane F h l0 l1).bind fun v1 =>
  if v1 = 0 then
    if 0 ≤ l3 then
      (x_X4_hasCells F h l0 l2 l3).bind fun v2 =>
      if v2 = 0 then
        some (3 : Int32)
      else
        some (0 : Int32)
    else
      some (4 : Int32)
  else
    some v1
theorem o_X4_faultOfCells {F : Nat} {h : pH} {l0 : Nat} {l1 : Int32} {l2 : Int32} {l3 : Int32} {res : Int32} (hx : x_X4_faultOfCells F h l0 l1 l2 l3 = some res) : chk 4 h l0 = some () := by
  unfold x_X4_faultOfCells at hx
  obtain ⟨_, e, _⟩ := ob hx
  exact e
theorem mc_X4_faultOfCells (l : Launch) (G : pG) (F n : Nat) {h : pH} {l0 : Nat} {l1 : Int32} {l2 : Int32} {l3 : Int32} {res : Int32} (hx : x_X4_faultOfCells F h l0 l1 l2 l3 = some res) : MC l yX4_faultOfCells cX4_faultOfCells 5 (some (FieldType.int)) (rmD 1 0 0) G [.ref l0, .int l1, .int l2, .int l3] n h (some (.int res)) n h := by
  unfold x_X4_faultOfCells at hx
  obtain ⟨_, _, hx⟩ := ob hx
  refine jj_entry RX4 rfl (by decide) (Nat.le_of_ble_eq_true rfl) (fun X _ _ C => ?_)
  show J X G (0, 0, some (.int res), n, h) (0, 0, n) h 0 [(0, .ref l0), (1, .int l1), (2, .int l2), (3, .int l3)] []
  refine jj_aload_n C 0 0 dX4_faultOfCells_0 rfl rfl ?_
  refine jj_iload_n C 1 1 dX4_faultOfCells_1 rfl rfl ?_
  obtain ⟨v1, ev1, hx⟩ := ob hx
  refine jj_callV C [.int l1] lk_X4_32 (mc_X4_faultOfLane X.2.1 G F n ev1) (o_X4_faultOfLane ev1) rfl rfl (Nat.le_of_ble_eq_true rfl) ⟨Nat.le_of_ble_eq_true rfl, Nat.le_of_ble_eq_true rfl⟩ ⟨Nat.zero_le _, Nat.zero_le _⟩ rfl dX4_faultOfCells_2 rfl rfl ?_
  refine jj_istore C 4 dX4_faultOfCells_5 rfl (by decide) ?_
  refine jj_iload C 4 0 dX4_faultOfCells_7 rfl ?_
  refine jj_if_eq (tgt := 15) C dX4_faultOfCells_9 (by decide) (fun q9 => ?_) (fun q9 => ?_)
  · rw [if_pos q9] at hx
    refine jj_iload_n C 3 4 dX4_faultOfCells_15 rfl rfl ?_
    refine jj_if_ge (tgt := 21) C dX4_faultOfCells_16 (by decide) (fun q16 => ?_) (fun q16 => ?_)
    · rw [if_pos q16] at hx
      refine jj_aload_n C 0 1 dX4_faultOfCells_21 rfl rfl ?_
      refine jj_iload_n C 2 3 dX4_faultOfCells_22 rfl rfl ?_
      refine jj_iload_n C 3 4 dX4_faultOfCells_23 rfl rfl ?_
      obtain ⟨v2, ev2, hx⟩ := ob hx
      refine jj_callV C [.int l2, .int l3] lk_X4_36 (mc_X4_hasCells X.2.1 G F n ev2) (o_X4_hasCells ev2) rfl rfl (Nat.le_of_ble_eq_true rfl) ⟨Nat.le_of_ble_eq_true rfl, Nat.le_of_ble_eq_true rfl⟩ ⟨Nat.zero_le _, Nat.zero_le _⟩ rfl dX4_faultOfCells_24 rfl rfl ?_
      refine jj_if_eq (tgt := 34) C dX4_faultOfCells_27 (by decide) (fun q27 => ?_) (fun q27 => ?_)
      · rw [if_pos q27] at hx
        refine jj_iconst (v := 3) C dX4_faultOfCells_34 (by decide) ?_
        obtain rfl := Option.some.inj hx
        exact jj_iret C dX4_faultOfCells_35 rfl
      · rw [if_neg q27] at hx
        refine jj_iconst (v := 0) C dX4_faultOfCells_30 (by decide) ?_
        refine jj_goto (tgt := 35) C dX4_faultOfCells_31 (by decide) ?_
        obtain rfl := Option.some.inj hx
        exact jj_iret C dX4_faultOfCells_35 rfl
    · rw [if_neg q16] at hx
      refine jj_iconst (v := 4) C dX4_faultOfCells_19 (by decide) ?_
      obtain rfl := Option.some.inj hx
      exact jj_iret C dX4_faultOfCells_20 rfl
  · rw [if_neg q9] at hx
    refine jj_iload C 4 0 dX4_faultOfCells_12 rfl ?_
    obtain rfl := Option.some.inj hx
    exact jj_iret C dX4_faultOfCells_14 rfl
def s_X4_lettersTo_20 (F : Nat)  (l0 : Nat) (l1 : Nat) (l2 : Int32) (l3 : Int32) (k20 : pH → Int32 → Option (Int32 × pH)) (h : pH) (l4 : Int32) : Option (Int32 × pH) :=
  if l3 ≤ l4 then
    some ((1 : Int32), h)
  else
    (getR 4 h l0 0).bind fun v1 =>
    (aldI 0 h v1 (l2 + l4)).bind fun v2 =>
    (x_X7_isBelow F h v2 3).bind fun v3 =>
    if v3 = 0 then
      some ((0 : Int32), h)
    else
      (getR 4 h l0 0).bind fun v4 =>
      (aldI 0 h v4 (l2 + l4)).bind fun v5 =>
      (astI 0 h l1 l4 v5).bind fun v6 =>
      k20 v6 (l4 + 1)
def x_X4_lettersTo_20 (F : Nat)  (l0 : Nat) (l1 : Nat) (l2 : Int32) (l3 : Int32) : Nat → pH → Int32 → Option (Int32 × pH)
  | 0, _, _ => none
  | m + 1, h, l4 => s_X4_lettersTo_20 F l0 l1 l2 l3 (x_X4_lettersTo_20 F l0 l1 l2 l3 m) h l4
theorem ts_X4_lettersTo_20 {X : pX} {G : pG} {n : Nat} {res : (Int32 × pH)} (C : Cx X G RX4 cX4_lettersTo 5 (rmD 1 0 0) n (some (FieldType.boolean))) (F : Nat) {l0 : Nat} {l1 : Nat} {l2 : Int32} {l3 : Int32} {k20 : pH → Int32 → Option (Int32 × pH)} (hk20 : ∀ (h : pH) (l4 : Int32), k20 h l4 = some res → J X G (0, 0, some (.int res.1), n, res.2) (0, 0, n) h 20 [(0, .ref l0), (1, .ref l1), (2, .int l2), (3, .int l3), (4, .int l4)] []) {h : pH} {l4 : Int32} (hx : s_X4_lettersTo_20 F l0 l1 l2 l3 k20 h l4 = some res) : J X G (0, 0, some (.int res.1), n, res.2) (0, 0, n) h 20 [(0, .ref l0), (1, .ref l1), (2, .int l2), (3, .int l3), (4, .int l4)] [] := by
  unfold s_X4_lettersTo_20 at hx
  refine jj_iload C 4 4 dX4_lettersTo_20 rfl ?_
  refine jj_iload_n C 3 3 dX4_lettersTo_22 rfl rfl ?_
  refine jj_icmp_ge (tgt := 63) C dX4_lettersTo_23 (by decide) (fun q23 => ?_) (fun q23 => ?_)
  · rw [if_pos q23] at hx
    refine jj_iconst (v := 1) C dX4_lettersTo_63 (by decide) ?_
    obtain rfl := Option.some.inj hx
    exact jj_zret C (Or.inr rfl) dX4_lettersTo_64 rfl
  · rw [if_neg q23] at hx
    refine jj_aload_n C 0 0 dX4_lettersTo_26 rfl rfl ?_
    obtain ⟨v1, ev1, hx⟩ := ob hx
    refine jj_getR C fd_X4_9 dX4_lettersTo_27 ev1 ?_
    refine jj_iload_n C 2 2 dX4_lettersTo_30 rfl rfl ?_
    refine jj_iload C 4 4 dX4_lettersTo_31 rfl ?_
    refine jj_iadd C dX4_lettersTo_33 ?_
    obtain ⟨v2, ev2, hx⟩ := ob hx
    refine jj_iald C dX4_lettersTo_34 ev2 ?_
    refine jj_iconst (v := 3) C dX4_lettersTo_35 (by decide) ?_
    obtain ⟨v3, ev3, hx⟩ := ob hx
    refine jj_callSN C [.int v2, .int 3] lk_X4_40 (mc_X7_isBelow X.2.1 G F n ev3) rfl rfl (Nat.le_of_ble_eq_true rfl) ⟨Nat.le_of_ble_eq_true rfl, Nat.le_of_ble_eq_true rfl⟩ ⟨Nat.zero_le _, Nat.zero_le _⟩ rfl dX4_lettersTo_36 rfl rfl ?_
    refine jj_if_ne (tgt := 44) C dX4_lettersTo_39 (by decide) (fun q39 => ?_) (fun q39 => ?_)
    · rw [if_neg q39] at hx
      refine jj_aload_n C 1 1 dX4_lettersTo_44 rfl rfl ?_
      refine jj_iload C 4 4 dX4_lettersTo_45 rfl ?_
      refine jj_aload_n C 0 0 dX4_lettersTo_47 rfl rfl ?_
      obtain ⟨v4, ev4, hx⟩ := ob hx
      refine jj_getR C fd_X4_9 dX4_lettersTo_48 ev4 ?_
      refine jj_iload_n C 2 2 dX4_lettersTo_51 rfl rfl ?_
      refine jj_iload C 4 4 dX4_lettersTo_52 rfl ?_
      refine jj_iadd C dX4_lettersTo_54 ?_
      obtain ⟨v5, ev5, hx⟩ := ob hx
      refine jj_iald C dX4_lettersTo_55 ev5 ?_
      obtain ⟨v6, ev6, hx⟩ := ob hx
      refine jj_iast C dX4_lettersTo_56 ev6 ?_
      refine jj_iinc (v := l4 + 1) C 4 4 dX4_lettersTo_57 rfl rfl rfl (by decide) ?_
      refine jj_goto (tgt := 20) C dX4_lettersTo_60 (by decide) ?_
      refine jj_sub [1, 2, 3, 4, 0] rfl ?_
      exact hk20 _ _ hx
    · rw [if_pos q39] at hx
      refine jj_iconst (v := 0) C dX4_lettersTo_42 (by decide) ?_
      obtain rfl := Option.some.inj hx
      exact jj_zret C (Or.inl rfl) dX4_lettersTo_43 rfl
theorem t_X4_lettersTo_20 {X : pX} {G : pG} {n : Nat} {res : (Int32 × pH)} (C : Cx X G RX4 cX4_lettersTo 5 (rmD 1 0 0) n (some (FieldType.boolean))) (F : Nat) {l0 : Nat} {l1 : Nat} {l2 : Int32} {l3 : Int32} : ∀ (m : Nat) (h : pH) (l4 : Int32), x_X4_lettersTo_20 F l0 l1 l2 l3 m h l4 = some res → J X G (0, 0, some (.int res.1), n, res.2) (0, 0, n) h 20 [(0, .ref l0), (1, .ref l1), (2, .int l2), (3, .int l3), (4, .int l4)] [] := by
  intro m
  induction m with
  | zero => intro h l4 hx; exact nomatch (show (none : Option (Int32 × pH)) = some res from hx)
  | succ m ih => intro h l4 hx; exact ts_X4_lettersTo_20 C F  ih hx
def x_X4_lettersTo (F : Nat) (h : pH) (l0 : Nat) (l1 : Nat) (l2 : Int32) (l3 : Int32) : Option (Int32 × pH) :=
  (chk 4 h l0).bind fun _ =>
  (x_X4_hasCells F h l0 l2 l3).bind fun v1 =>
  if v1 = 0 then
    some ((0 : Int32), h)
  else
    (alen h l1).bind fun v2 =>
    if l3 ≤ v2 then
      x_X4_lettersTo_20 F l0 l1 l2 l3 F h 0
    else
      some ((0 : Int32), h)
theorem o_X4_lettersTo {F : Nat} {h : pH} {l0 : Nat} {l1 : Nat} {l2 : Int32} {l3 : Int32} {res : (Int32 × pH)} (hx : x_X4_lettersTo F h l0 l1 l2 l3 = some res) : chk 4 h l0 = some () := by
  unfold x_X4_lettersTo at hx
  obtain ⟨_, e, _⟩ := ob hx
  exact e
theorem mc_X4_lettersTo (l : Launch) (G : pG) (F n : Nat) {h : pH} {l0 : Nat} {l1 : Nat} {l2 : Int32} {l3 : Int32} {res : (Int32 × pH)} (hx : x_X4_lettersTo F h l0 l1 l2 l3 = some res) : MC l yX4_lettersTo cX4_lettersTo 5 (some (FieldType.boolean)) (rmD 1 0 0) G [.ref l0, .ref l1, .int l2, .int l3] n h (some (.int res.1)) n res.2 := by
  unfold x_X4_lettersTo at hx
  obtain ⟨_, _, hx⟩ := ob hx
  refine jj_entry RX4 rfl (by decide) (Nat.le_of_ble_eq_true rfl) (fun X _ _ C => ?_)
  show J X G (0, 0, some (.int res.1), n, res.2) (0, 0, n) h 0 [(0, .ref l0), (1, .ref l1), (2, .int l2), (3, .int l3)] []
  refine jj_aload_n C 0 0 dX4_lettersTo_0 rfl rfl ?_
  refine jj_iload_n C 2 2 dX4_lettersTo_1 rfl rfl ?_
  refine jj_iload_n C 3 3 dX4_lettersTo_2 rfl rfl ?_
  obtain ⟨v1, ev1, hx⟩ := ob hx
  refine jj_callV C [.int l2, .int l3] lk_X4_36 (mc_X4_hasCells X.2.1 G F n ev1) (o_X4_hasCells ev1) rfl rfl (Nat.le_of_ble_eq_true rfl) ⟨Nat.le_of_ble_eq_true rfl, Nat.le_of_ble_eq_true rfl⟩ ⟨Nat.zero_le _, Nat.zero_le _⟩ rfl dX4_lettersTo_3 rfl rfl ?_
  refine jj_if_eq (tgt := 15) C dX4_lettersTo_6 (by decide) (fun q6 => ?_) (fun q6 => ?_)
  · rw [if_pos q6] at hx
    refine jj_iconst (v := 0) C dX4_lettersTo_15 (by decide) ?_
    obtain rfl := Option.some.inj hx
    exact jj_zret C (Or.inl rfl) dX4_lettersTo_16 rfl
  · rw [if_neg q6] at hx
    refine jj_iload_n C 3 3 dX4_lettersTo_9 rfl rfl ?_
    refine jj_aload_n C 1 1 dX4_lettersTo_10 rfl rfl ?_
    obtain ⟨v2, ev2, hx⟩ := ob hx
    refine jj_alen C dX4_lettersTo_11 ev2 ?_
    refine jj_icmp_le (tgt := 17) C dX4_lettersTo_12 (by decide) (fun q12 => ?_) (fun q12 => ?_)
    · rw [if_pos q12] at hx
      refine jj_iconst (v := 0) C dX4_lettersTo_17 (by decide) ?_
      refine jj_istore C 4 dX4_lettersTo_18 rfl (by decide) ?_
      refine jj_sub [1, 2, 3, 4, 0] rfl ?_
      exact t_X4_lettersTo_20 C F F _ _ hx
    · rw [if_neg q12] at hx
      refine jj_iconst (v := 0) C dX4_lettersTo_15 (by decide) ?_
      obtain rfl := Option.some.inj hx
      exact jj_zret C (Or.inl rfl) dX4_lettersTo_16 rfl
def x_X4_write (F : Nat) (h : pH) (l0 : Nat) (l1 : Int32) (l2 : Int32) : Option pH :=
  (chk 4 h l0).bind fun _ =>
  (getI 4 h l0 2).bind fun v1 =>
  if v1 = 0 then
    (getR 4 h l0 0).bind fun v7 =>
    (astI 0 h v7 l1 l2.toInt8.toInt32).bind fun v8 =>
    some v8
  else
    (getI 4 h l0 2).bind fun v2 =>
    if v2 = 1 then
      (getR 4 h l0 0).bind fun v5 =>
      (astI 0 h v5 l1 l2.toInt16.toInt32).bind fun v6 =>
      some v6
    else
      (getR 4 h l0 0).bind fun v3 =>
      (astI 0 h v3 l1 l2).bind fun v4 =>
      some v4
theorem o_X4_write {F : Nat} {h : pH} {l0 : Nat} {l1 : Int32} {l2 : Int32} {res : pH} (hx : x_X4_write F h l0 l1 l2 = some res) : chk 4 h l0 = some () := by
  unfold x_X4_write at hx
  obtain ⟨_, e, _⟩ := ob hx
  exact e
theorem mc_X4_write (l : Launch) (G : pG) (F n : Nat) {h : pH} {l0 : Nat} {l1 : Int32} {l2 : Int32} {res : pH} (hx : x_X4_write F h l0 l1 l2 = some res) : MC l yX4_write cX4_write 3 none (rmD 0 0 0) G [.ref l0, .int l1, .int l2] n h (none) n res := by
  unfold x_X4_write at hx
  obtain ⟨_, _, hx⟩ := ob hx
  refine jj_entry RX4 rfl (by decide) (Nat.le_of_ble_eq_true rfl) (fun X _ _ C => ?_)
  show J X G (0, 0, none, n, res) (0, 0, n) h 0 [(0, .ref l0), (1, .int l1), (2, .int l2)] []
  refine jj_aload_n C 0 0 dX4_write_0 rfl rfl ?_
  obtain ⟨v1, ev1, hx⟩ := ob hx
  refine jj_getI C fd_X4_19 dX4_write_1 ev1 ?_
  refine jj_if_ne (tgt := 18) C dX4_write_4 (by decide) (fun q4 => ?_) (fun q4 => ?_)
  · rw [if_neg q4] at hx
    refine jj_aload_n C 0 0 dX4_write_18 rfl rfl ?_
    obtain ⟨v2, ev2, hx⟩ := ob hx
    refine jj_getI C fd_X4_19 dX4_write_19 ev2 ?_
    refine jj_iconst (v := 1) C dX4_write_22 (by decide) ?_
    refine jj_icmp_ne (tgt := 37) C dX4_write_23 (by decide) (fun q23 => ?_) (fun q23 => ?_)
    · rw [if_neg q23] at hx
      refine jj_aload_n C 0 0 dX4_write_37 rfl rfl ?_
      obtain ⟨v3, ev3, hx⟩ := ob hx
      refine jj_getR C fd_X4_9 dX4_write_38 ev3 ?_
      refine jj_iload_n C 1 1 dX4_write_41 rfl rfl ?_
      refine jj_iload_n C 2 2 dX4_write_42 rfl rfl ?_
      obtain ⟨v4, ev4, hx⟩ := ob hx
      refine jj_iast C dX4_write_43 ev4 ?_
      obtain rfl := Option.some.inj hx
      exact jj_vret C dX4_write_44 rfl
    · rw [if_pos q23] at hx
      refine jj_aload_n C 0 0 dX4_write_26 rfl rfl ?_
      obtain ⟨v5, ev5, hx⟩ := ob hx
      refine jj_getR C fd_X4_9 dX4_write_27 ev5 ?_
      refine jj_iload_n C 1 1 dX4_write_30 rfl rfl ?_
      refine jj_iload_n C 2 2 dX4_write_31 rfl rfl ?_
      refine jj_i2s C dX4_write_32 ?_
      obtain ⟨v6, ev6, hx⟩ := ob hx
      refine jj_iast C dX4_write_33 ev6 ?_
      refine jj_goto (tgt := 44) C dX4_write_34 (by decide) ?_
      obtain rfl := Option.some.inj hx
      exact jj_vret C dX4_write_44 rfl
  · rw [if_pos q4] at hx
    refine jj_aload_n C 0 0 dX4_write_7 rfl rfl ?_
    obtain ⟨v7, ev7, hx⟩ := ob hx
    refine jj_getR C fd_X4_9 dX4_write_8 ev7 ?_
    refine jj_iload_n C 1 1 dX4_write_11 rfl rfl ?_
    refine jj_iload_n C 2 2 dX4_write_12 rfl rfl ?_
    refine jj_i2b C dX4_write_13 ?_
    obtain ⟨v8, ev8, hx⟩ := ob hx
    refine jj_iast C dX4_write_14 ev8 ?_
    refine jj_goto (tgt := 44) C dX4_write_15 (by decide) ?_
    obtain rfl := Option.some.inj hx
    exact jj_vret C dX4_write_44 rfl
def x_X5_beginWord (F : Nat) (h : pH) (l0 : Nat) : Option (Int32 × pH) :=
  (chk 5 h l0).bind fun _ =>
  (getI 5 h l0 1).bind fun v1 =>
  if v1 < 4 then
    (getR 5 h l0 0).bind fun v2 =>
    (getI 5 h l0 1).bind fun v3 =>
    (aldR 4 h v2 v3).bind fun v4 =>
    (putV 6 h v4 1 (.int 0)).bind fun v5 =>
    (getI 5 v5 l0 1).bind fun v6 =>
    (putV 5 v5 l0 1 (.int (v6 + (1 : Int32)))).bind fun v7 =>
    some ((2 : Int32), v7)
  else
    some ((6 : Int32), h)
theorem o_X5_beginWord {F : Nat} {h : pH} {l0 : Nat} {res : (Int32 × pH)} (hx : x_X5_beginWord F h l0 = some res) : chk 5 h l0 = some () := by
  unfold x_X5_beginWord at hx
  obtain ⟨_, e, _⟩ := ob hx
  exact e
theorem mc_X5_beginWord (l : Launch) (G : pG) (F n : Nat) {h : pH} {l0 : Nat} {res : (Int32 × pH)} (hx : x_X5_beginWord F h l0 = some res) : MC l yX5_beginWord cX5_beginWord 1 (some (FieldType.int)) (rmD 0 0 0) G [.ref l0] n h (some (.int res.1)) n res.2 := by
  unfold x_X5_beginWord at hx
  obtain ⟨_, _, hx⟩ := ob hx
  refine jj_entry RX5 rfl (by decide) (Nat.le_of_ble_eq_true rfl) (fun X _ _ C => ?_)
  show J X G (0, 0, some (.int res.1), n, res.2) (0, 0, n) h 0 [(0, .ref l0)] []
  refine jj_aload_n C 0 0 dX5_beginWord_0 rfl rfl ?_
  obtain ⟨v1, ev1, hx⟩ := ob hx
  refine jj_getI C fd_X5_25 dX5_beginWord_1 ev1 ?_
  refine jj_iconst (v := 4) C dX5_beginWord_4 (by decide) ?_
  refine jj_icmp_lt (tgt := 11) C dX5_beginWord_5 (by decide) (fun q5 => ?_) (fun q5 => ?_)
  · rw [if_pos q5] at hx
    refine jj_aload_n C 0 0 dX5_beginWord_11 rfl rfl ?_
    obtain ⟨v2, ev2, hx⟩ := ob hx
    refine jj_getR C fd_X5_13 dX5_beginWord_12 ev2 ?_
    refine jj_aload_n C 0 0 dX5_beginWord_15 rfl rfl ?_
    obtain ⟨v3, ev3, hx⟩ := ob hx
    refine jj_getI C fd_X5_25 dX5_beginWord_16 ev3 ?_
    obtain ⟨v4, ev4, hx⟩ := ob hx
    refine jj_aald C 4 rfl dX5_beginWord_19 ev4 ?_
    refine jj_iconst (v := 0) C dX5_beginWord_20 (by decide) ?_
    obtain ⟨v5, ev5, hx⟩ := ob hx
    refine jj_put C fd_X5_48 rfl rfl dX5_beginWord_21 ev5 ?_
    refine jj_aload_n C 0 0 dX5_beginWord_24 rfl rfl ?_
    refine jj_dup C dX5_beginWord_25 rfl ?_
    obtain ⟨v6, ev6, hx⟩ := ob hx
    refine jj_getI C fd_X5_25 dX5_beginWord_26 ev6 ?_
    refine jj_iconst (v := 1) C dX5_beginWord_29 (by decide) ?_
    refine jj_iadd C dX5_beginWord_30 ?_
    obtain ⟨v7, ev7, hx⟩ := ob hx
    refine jj_put C fd_X5_25 rfl rfl dX5_beginWord_31 ev7 ?_
    refine jj_iconst (v := 2) C dX5_beginWord_34 (by decide) ?_
    obtain rfl := Option.some.inj hx
    exact jj_iret C dX5_beginWord_35 rfl
  · rw [if_neg q5] at hx
    refine jj_bipush (v := 6) C dX5_beginWord_8 (by decide) ?_
    obtain rfl := Option.some.inj hx
    exact jj_iret C dX5_beginWord_10 rfl
def x_X5_takeKind_32 (F : Nat)  (h : pH) (l0 : Nat) (s0 : Int32) : Option (Int32 × pH) :=
  if s0 = ((-9)) then
    some ((6 : Int32), h)
  else
    (getI 5 h l0 1).bind fun v1 =>
    if 1 ≤ v1 then
      (getR 5 h l0 0).bind fun v2 =>
      (getI 5 h l0 1).bind fun v3 =>
      (aldR 4 h v2 (v3 - (1 : Int32))).bind fun v4 =>
      (putV 6 h v4 2 (.int s0)).bind fun v5 =>
      some ((3 : Int32), v5)
    else
      some ((6 : Int32), h)
theorem t_X5_takeKind_32 {X : pX} {G : pG} {n : Nat} {res : (Int32 × pH)} (C : Cx X G RX5 cX5_takeKind 3 (rmD 0 0 0) n (some (FieldType.int))) (F : Nat) {h : pH} {l0 : Nat} {s0 : Int32} (hx : x_X5_takeKind_32 F h l0 s0 = some res) : J X G (0, 0, some (.int res.1), n, res.2) (0, 0, n) h 32 [(0, .ref l0)] [.int s0] := by
  unfold x_X5_takeKind_32 at hx
  refine jj_istore_n C 2 dX5_takeKind_32 rfl rfl (by decide) ?_
  refine jj_iload_n C 2 0 dX5_takeKind_33 rfl rfl ?_
  refine jj_bipush (v := (-9)) C dX5_takeKind_34 (by decide) ?_
  refine jj_icmp_eq (tgt := 47) C dX5_takeKind_36 (by decide) (fun q36 => ?_) (fun q36 => ?_)
  · rw [if_pos q36] at hx
    refine jj_bipush (v := 6) C dX5_takeKind_47 (by decide) ?_
    obtain rfl := Option.some.inj hx
    exact jj_iret C dX5_takeKind_49 rfl
  · rw [if_neg q36] at hx
    refine jj_aload_n C 0 1 dX5_takeKind_39 rfl rfl ?_
    obtain ⟨v1, ev1, hx⟩ := ob hx
    refine jj_getI C fd_X5_25 dX5_takeKind_40 ev1 ?_
    refine jj_iconst (v := 1) C dX5_takeKind_43 (by decide) ?_
    refine jj_icmp_ge (tgt := 50) C dX5_takeKind_44 (by decide) (fun q44 => ?_) (fun q44 => ?_)
    · rw [if_pos q44] at hx
      refine jj_aload_n C 0 1 dX5_takeKind_50 rfl rfl ?_
      obtain ⟨v2, ev2, hx⟩ := ob hx
      refine jj_getR C fd_X5_13 dX5_takeKind_51 ev2 ?_
      refine jj_aload_n C 0 1 dX5_takeKind_54 rfl rfl ?_
      obtain ⟨v3, ev3, hx⟩ := ob hx
      refine jj_getI C fd_X5_25 dX5_takeKind_55 ev3 ?_
      refine jj_iconst (v := 1) C dX5_takeKind_58 (by decide) ?_
      refine jj_isub C dX5_takeKind_59 ?_
      obtain ⟨v4, ev4, hx⟩ := ob hx
      refine jj_aald C 4 rfl dX5_takeKind_60 ev4 ?_
      refine jj_iload_n C 2 0 dX5_takeKind_61 rfl rfl ?_
      obtain ⟨v5, ev5, hx⟩ := ob hx
      refine jj_put C fd_X5_53 rfl rfl dX5_takeKind_62 ev5 ?_
      refine jj_iconst (v := 3) C dX5_takeKind_65 (by decide) ?_
      obtain rfl := Option.some.inj hx
      exact jj_iret C dX5_takeKind_66 rfl
    · rw [if_neg q44] at hx
      refine jj_bipush (v := 6) C dX5_takeKind_47 (by decide) ?_
      obtain rfl := Option.some.inj hx
      exact jj_iret C dX5_takeKind_49 rfl
def x_X5_takeKind (F : Nat) (h : pH) (l0 : Nat) (l1 : Int32) : Option (Int32 × pH) :=
  (chk 5 h l0).bind fun _ =>
  if l1 = 112 then
    x_X5_takeKind_32 F h l0 0
  else
    if l1 = 98 then
      x_X5_takeKind_32 F h l0 1
    else
      if l1 = 116 then
        x_X5_takeKind_32 F h l0 2
      else
        x_X5_takeKind_32 F h l0 ((-9))
theorem o_X5_takeKind {F : Nat} {h : pH} {l0 : Nat} {l1 : Int32} {res : (Int32 × pH)} (hx : x_X5_takeKind F h l0 l1 = some res) : chk 5 h l0 = some () := by
  unfold x_X5_takeKind at hx
  obtain ⟨_, e, _⟩ := ob hx
  exact e
theorem mc_X5_takeKind (l : Launch) (G : pG) (F n : Nat) {h : pH} {l0 : Nat} {l1 : Int32} {res : (Int32 × pH)} (hx : x_X5_takeKind F h l0 l1 = some res) : MC l yX5_takeKind cX5_takeKind 3 (some (FieldType.int)) (rmD 0 0 0) G [.ref l0, .int l1] n h (some (.int res.1)) n res.2 := by
  unfold x_X5_takeKind at hx
  obtain ⟨_, _, hx⟩ := ob hx
  refine jj_entry RX5 rfl (by decide) (Nat.le_of_ble_eq_true rfl) (fun X _ _ C => ?_)
  show J X G (0, 0, some (.int res.1), n, res.2) (0, 0, n) h 0 [(0, .ref l0), (1, .int l1)] []
  refine jj_iload_n C 1 1 dX5_takeKind_0 rfl rfl ?_
  refine jj_bipush (v := 112) C dX5_takeKind_1 (by decide) ?_
  refine jj_icmp_ne (tgt := 10) C dX5_takeKind_3 (by decide) (fun q3 => ?_) (fun q3 => ?_)
  · rw [if_neg q3] at hx
    refine jj_iload_n C 1 1 dX5_takeKind_10 rfl rfl ?_
    refine jj_bipush (v := 98) C dX5_takeKind_11 (by decide) ?_
    refine jj_icmp_ne (tgt := 20) C dX5_takeKind_13 (by decide) (fun q13 => ?_) (fun q13 => ?_)
    · rw [if_neg q13] at hx
      refine jj_iload_n C 1 1 dX5_takeKind_20 rfl rfl ?_
      refine jj_bipush (v := 116) C dX5_takeKind_21 (by decide) ?_
      refine jj_icmp_ne (tgt := 30) C dX5_takeKind_23 (by decide) (fun q23 => ?_) (fun q23 => ?_)
      · rw [if_neg q23] at hx
        refine jj_bipush (v := (-9)) C dX5_takeKind_30 (by decide) ?_
        refine jj_sub [0] rfl ?_
        exact t_X5_takeKind_32 C F hx
      · rw [if_pos q23] at hx
        refine jj_iconst (v := 2) C dX5_takeKind_26 (by decide) ?_
        refine jj_goto (tgt := 32) C dX5_takeKind_27 (by decide) ?_
        refine jj_sub [0] rfl ?_
        exact t_X5_takeKind_32 C F hx
    · rw [if_pos q13] at hx
      refine jj_iconst (v := 1) C dX5_takeKind_16 (by decide) ?_
      refine jj_goto (tgt := 32) C dX5_takeKind_17 (by decide) ?_
      refine jj_sub [0] rfl ?_
      exact t_X5_takeKind_32 C F hx
  · rw [if_pos q3] at hx
    refine jj_iconst (v := 0) C dX5_takeKind_6 (by decide) ?_
    refine jj_goto (tgt := 32) C dX5_takeKind_7 (by decide) ?_
    refine jj_sub [0] rfl ?_
    exact t_X5_takeKind_32 C F hx
def x_X5_takeLetter (F : Nat) (h : pH) (l0 : Nat) (l1 : Int32) : Option (Int32 × pH) :=
  (chk 5 h l0).bind fun _ =>
  if l1 < 97 then
    some ((6 : Int32), h)
  else
    if 99 < l1 then
      some ((6 : Int32), h)
    else
      (getI 5 h l0 1).bind fun v1 =>
      if 1 ≤ v1 then
        (getR 5 h l0 0).bind fun v2 =>
        (getI 5 h l0 1).bind fun v3 =>
        (aldR 4 h v2 (v3 - (1 : Int32))).bind fun v4 =>
        (getI 6 h v4 1).bind fun v5 =>
        if v5 < 4 then
          (getR 6 h v4 0).bind fun v6 =>
          (getI 6 h v4 1).bind fun v7 =>
          (astI 0 h v6 v7 (l1 - (97 : Int32))).bind fun v8 =>
          (getI 6 v8 v4 1).bind fun v9 =>
          (putV 6 v8 v4 1 (.int (v9 + (1 : Int32)))).bind fun v10 =>
          some ((5 : Int32), v10)
        else
          some ((6 : Int32), h)
      else
        some ((6 : Int32), h)
theorem o_X5_takeLetter {F : Nat} {h : pH} {l0 : Nat} {l1 : Int32} {res : (Int32 × pH)} (hx : x_X5_takeLetter F h l0 l1 = some res) : chk 5 h l0 = some () := by
  unfold x_X5_takeLetter at hx
  obtain ⟨_, e, _⟩ := ob hx
  exact e
theorem mc_X5_takeLetter (l : Launch) (G : pG) (F n : Nat) {h : pH} {l0 : Nat} {l1 : Int32} {res : (Int32 × pH)} (hx : x_X5_takeLetter F h l0 l1 = some res) : MC l yX5_takeLetter cX5_takeLetter 3 (some (FieldType.int)) (rmD 0 0 0) G [.ref l0, .int l1] n h (some (.int res.1)) n res.2 := by
  unfold x_X5_takeLetter at hx
  obtain ⟨_, _, hx⟩ := ob hx
  refine jj_entry RX5 rfl (by decide) (Nat.le_of_ble_eq_true rfl) (fun X _ _ C => ?_)
  show J X G (0, 0, some (.int res.1), n, res.2) (0, 0, n) h 0 [(0, .ref l0), (1, .int l1)] []
  refine jj_iload_n C 1 1 dX5_takeLetter_0 rfl rfl ?_
  refine jj_bipush (v := 97) C dX5_takeLetter_1 (by decide) ?_
  refine jj_icmp_lt (tgt := 20) C dX5_takeLetter_3 (by decide) (fun q3 => ?_) (fun q3 => ?_)
  · rw [if_pos q3] at hx
    refine jj_bipush (v := 6) C dX5_takeLetter_20 (by decide) ?_
    obtain rfl := Option.some.inj hx
    exact jj_iret C dX5_takeLetter_22 rfl
  · rw [if_neg q3] at hx
    refine jj_iload_n C 1 1 dX5_takeLetter_6 rfl rfl ?_
    refine jj_bipush (v := 99) C dX5_takeLetter_7 (by decide) ?_
    refine jj_icmp_gt (tgt := 20) C dX5_takeLetter_9 (by decide) (fun q9 => ?_) (fun q9 => ?_)
    · rw [if_pos q9] at hx
      refine jj_bipush (v := 6) C dX5_takeLetter_20 (by decide) ?_
      obtain rfl := Option.some.inj hx
      exact jj_iret C dX5_takeLetter_22 rfl
    · rw [if_neg q9] at hx
      refine jj_aload_n C 0 0 dX5_takeLetter_12 rfl rfl ?_
      obtain ⟨v1, ev1, hx⟩ := ob hx
      refine jj_getI C fd_X5_25 dX5_takeLetter_13 ev1 ?_
      refine jj_iconst (v := 1) C dX5_takeLetter_16 (by decide) ?_
      refine jj_icmp_ge (tgt := 23) C dX5_takeLetter_17 (by decide) (fun q17 => ?_) (fun q17 => ?_)
      · rw [if_pos q17] at hx
        refine jj_aload_n C 0 0 dX5_takeLetter_23 rfl rfl ?_
        obtain ⟨v2, ev2, hx⟩ := ob hx
        refine jj_getR C fd_X5_13 dX5_takeLetter_24 ev2 ?_
        refine jj_aload_n C 0 0 dX5_takeLetter_27 rfl rfl ?_
        obtain ⟨v3, ev3, hx⟩ := ob hx
        refine jj_getI C fd_X5_25 dX5_takeLetter_28 ev3 ?_
        refine jj_iconst (v := 1) C dX5_takeLetter_31 (by decide) ?_
        refine jj_isub C dX5_takeLetter_32 ?_
        obtain ⟨v4, ev4, hx⟩ := ob hx
        refine jj_aald C 4 rfl dX5_takeLetter_33 ev4 ?_
        refine jj_astore_n C 2 dX5_takeLetter_34 rfl rfl (by decide) ?_
        refine jj_aload_n C 2 0 dX5_takeLetter_35 rfl rfl ?_
        obtain ⟨v5, ev5, hx⟩ := ob hx
        refine jj_getI C fd_X5_48 dX5_takeLetter_36 ev5 ?_
        refine jj_iconst (v := 4) C dX5_takeLetter_39 (by decide) ?_
        refine jj_icmp_lt (tgt := 46) C dX5_takeLetter_40 (by decide) (fun q40 => ?_) (fun q40 => ?_)
        · rw [if_pos q40] at hx
          refine jj_aload_n C 2 0 dX5_takeLetter_46 rfl rfl ?_
          obtain ⟨v6, ev6, hx⟩ := ob hx
          refine jj_getR C fd_X5_56 dX5_takeLetter_47 ev6 ?_
          refine jj_aload_n C 2 0 dX5_takeLetter_50 rfl rfl ?_
          obtain ⟨v7, ev7, hx⟩ := ob hx
          refine jj_getI C fd_X5_48 dX5_takeLetter_51 ev7 ?_
          refine jj_iload_n C 1 2 dX5_takeLetter_54 rfl rfl ?_
          refine jj_bipush (v := 97) C dX5_takeLetter_55 (by decide) ?_
          refine jj_isub C dX5_takeLetter_57 ?_
          obtain ⟨v8, ev8, hx⟩ := ob hx
          refine jj_iast C dX5_takeLetter_58 ev8 ?_
          refine jj_aload_n C 2 0 dX5_takeLetter_59 rfl rfl ?_
          refine jj_dup C dX5_takeLetter_60 rfl ?_
          obtain ⟨v9, ev9, hx⟩ := ob hx
          refine jj_getI C fd_X5_48 dX5_takeLetter_61 ev9 ?_
          refine jj_iconst (v := 1) C dX5_takeLetter_64 (by decide) ?_
          refine jj_iadd C dX5_takeLetter_65 ?_
          obtain ⟨v10, ev10, hx⟩ := ob hx
          refine jj_put C fd_X5_48 rfl rfl dX5_takeLetter_66 ev10 ?_
          refine jj_iconst (v := 5) C dX5_takeLetter_69 (by decide) ?_
          obtain rfl := Option.some.inj hx
          exact jj_iret C dX5_takeLetter_70 rfl
        · rw [if_neg q40] at hx
          refine jj_bipush (v := 6) C dX5_takeLetter_43 (by decide) ?_
          obtain rfl := Option.some.inj hx
          exact jj_iret C dX5_takeLetter_45 rfl
      · rw [if_neg q17] at hx
        refine jj_bipush (v := 6) C dX5_takeLetter_20 (by decide) ?_
        obtain rfl := Option.some.inj hx
        exact jj_iret C dX5_takeLetter_22 rfl
def x_X5_stateAfter (F : Nat) (h : pH) (l0 : Nat) (l1 : Int32) (l2 : Int32) : Option (Int32 × pH) :=
  (chk 5 h l0).bind fun _ =>
  if l1 = 0 then
    if l2 = 119 then
      some ((1 : Int32), h)
    else
      some ((6 : Int32), h)
  else
    if l1 = 1 then
      if l2 = 59 then
        (x_X5_beginWord F h l0).bind fun v1 =>
        some (v1.1, v1.2)
      else
        some ((6 : Int32), h)
    else
      if l1 = 2 then
        (x_X5_takeKind F h l0 l2).bind fun v2 =>
        some (v2.1, v2.2)
      else
        if l1 = 3 then
          if l2 = 47 then
            some ((4 : Int32), h)
          else
            some ((6 : Int32), h)
        else
          if l1 = 4 then
            (x_X5_takeLetter F h l0 l2).bind fun v3 =>
            some (v3.1, v3.2)
          else
            if l1 = 5 then
              if l2 = 59 then
                (x_X5_beginWord F h l0).bind fun v5 =>
                some (v5.1, v5.2)
              else
                (x_X5_takeLetter F h l0 l2).bind fun v4 =>
                some (v4.1, v4.2)
            else
              some ((6 : Int32), h)
theorem o_X5_stateAfter {F : Nat} {h : pH} {l0 : Nat} {l1 : Int32} {l2 : Int32} {res : (Int32 × pH)} (hx : x_X5_stateAfter F h l0 l1 l2 = some res) : chk 5 h l0 = some () := by
  unfold x_X5_stateAfter at hx
  obtain ⟨_, e, _⟩ := ob hx
  exact e
theorem mc_X5_stateAfter (l : Launch) (G : pG) (F n : Nat) {h : pH} {l0 : Nat} {l1 : Int32} {l2 : Int32} {res : (Int32 × pH)} (hx : x_X5_stateAfter F h l0 l1 l2 = some res) : MC l yX5_stateAfter cX5_stateAfter 3 (some (FieldType.int)) (rmD 1 0 0) G [.ref l0, .int l1, .int l2] n h (some (.int res.1)) n res.2 := by
  unfold x_X5_stateAfter at hx
  obtain ⟨_, _, hx⟩ := ob hx
  refine jj_entry RX5 rfl (by decide) (Nat.le_of_ble_eq_true rfl) (fun X _ _ C => ?_)
  show J X G (0, 0, some (.int res.1), n, res.2) (0, 0, n) h 0 [(0, .ref l0), (1, .int l1), (2, .int l2)] []
  refine jj_iload_n C 1 1 dX5_stateAfter_0 rfl rfl ?_
  by_cases q1_0 : l1 = 0
  · rw [if_pos q1_0] at hx
    refine jj_table (tgt := 40) C dX5_stateAfter_1 0 q1_0 (by decide) (by decide) rfl (by decide) ?_
    refine jj_iload_n C 2 2 dX5_stateAfter_40 rfl rfl ?_
    refine jj_bipush (v := 119) C dX5_stateAfter_41 (by decide) ?_
    refine jj_icmp_ne (tgt := 50) C dX5_stateAfter_43 (by decide) (fun q43 => ?_) (fun q43 => ?_)
    · rw [if_neg q43] at hx
      refine jj_bipush (v := 6) C dX5_stateAfter_50 (by decide) ?_
      obtain rfl := Option.some.inj hx
      exact jj_iret C dX5_stateAfter_52 rfl
    · rw [if_pos q43] at hx
      refine jj_iconst (v := 1) C dX5_stateAfter_46 (by decide) ?_
      refine jj_goto (tgt := 52) C dX5_stateAfter_47 (by decide) ?_
      obtain rfl := Option.some.inj hx
      exact jj_iret C dX5_stateAfter_52 rfl
  · rw [if_neg q1_0] at hx
    by_cases q1_1 : l1 = 1
    · rw [if_pos q1_1] at hx
      refine jj_table (tgt := 53) C dX5_stateAfter_1 1 q1_1 (by decide) (by decide) rfl (by decide) ?_
      refine jj_iload_n C 2 2 dX5_stateAfter_53 rfl rfl ?_
      refine jj_bipush (v := 59) C dX5_stateAfter_54 (by decide) ?_
      refine jj_icmp_ne (tgt := 66) C dX5_stateAfter_56 (by decide) (fun q56 => ?_) (fun q56 => ?_)
      · rw [if_neg q56] at hx
        refine jj_bipush (v := 6) C dX5_stateAfter_66 (by decide) ?_
        obtain rfl := Option.some.inj hx
        exact jj_iret C dX5_stateAfter_68 rfl
      · rw [if_pos q56] at hx
        refine jj_aload_n C 0 0 dX5_stateAfter_59 rfl rfl ?_
        obtain ⟨v1, ev1, hx⟩ := ob hx
        refine jj_callV C [] lk_X5_37 (mc_X5_beginWord X.2.1 G F n ev1) (o_X5_beginWord ev1) rfl rfl (Nat.le_of_ble_eq_true rfl) ⟨Nat.le_of_ble_eq_true rfl, Nat.le_of_ble_eq_true rfl⟩ ⟨Nat.zero_le _, Nat.zero_le _⟩ rfl dX5_stateAfter_60 rfl rfl ?_
        refine jj_goto (tgt := 68) C dX5_stateAfter_63 (by decide) ?_
        obtain rfl := Option.some.inj hx
        exact jj_iret C dX5_stateAfter_68 rfl
    · rw [if_neg q1_1] at hx
      by_cases q1_2 : l1 = 2
      · rw [if_pos q1_2] at hx
        refine jj_table (tgt := 69) C dX5_stateAfter_1 2 q1_2 (by decide) (by decide) rfl (by decide) ?_
        refine jj_aload_n C 0 0 dX5_stateAfter_69 rfl rfl ?_
        refine jj_iload_n C 2 2 dX5_stateAfter_70 rfl rfl ?_
        obtain ⟨v2, ev2, hx⟩ := ob hx
        refine jj_callV C [.int l2] lk_X5_41 (mc_X5_takeKind X.2.1 G F n ev2) (o_X5_takeKind ev2) rfl rfl (Nat.le_of_ble_eq_true rfl) ⟨Nat.le_of_ble_eq_true rfl, Nat.le_of_ble_eq_true rfl⟩ ⟨Nat.zero_le _, Nat.zero_le _⟩ rfl dX5_stateAfter_71 rfl rfl ?_
        obtain rfl := Option.some.inj hx
        exact jj_iret C dX5_stateAfter_74 rfl
      · rw [if_neg q1_2] at hx
        by_cases q1_3 : l1 = 3
        · rw [if_pos q1_3] at hx
          refine jj_table (tgt := 75) C dX5_stateAfter_1 3 q1_3 (by decide) (by decide) rfl (by decide) ?_
          refine jj_iload_n C 2 2 dX5_stateAfter_75 rfl rfl ?_
          refine jj_bipush (v := 47) C dX5_stateAfter_76 (by decide) ?_
          refine jj_icmp_ne (tgt := 85) C dX5_stateAfter_78 (by decide) (fun q78 => ?_) (fun q78 => ?_)
          · rw [if_neg q78] at hx
            refine jj_bipush (v := 6) C dX5_stateAfter_85 (by decide) ?_
            obtain rfl := Option.some.inj hx
            exact jj_iret C dX5_stateAfter_87 rfl
          · rw [if_pos q78] at hx
            refine jj_iconst (v := 4) C dX5_stateAfter_81 (by decide) ?_
            refine jj_goto (tgt := 87) C dX5_stateAfter_82 (by decide) ?_
            obtain rfl := Option.some.inj hx
            exact jj_iret C dX5_stateAfter_87 rfl
        · rw [if_neg q1_3] at hx
          by_cases q1_4 : l1 = 4
          · rw [if_pos q1_4] at hx
            refine jj_table (tgt := 88) C dX5_stateAfter_1 4 q1_4 (by decide) (by decide) rfl (by decide) ?_
            refine jj_aload_n C 0 0 dX5_stateAfter_88 rfl rfl ?_
            refine jj_iload_n C 2 2 dX5_stateAfter_89 rfl rfl ?_
            obtain ⟨v3, ev3, hx⟩ := ob hx
            refine jj_callV C [.int l2] lk_X5_45 (mc_X5_takeLetter X.2.1 G F n ev3) (o_X5_takeLetter ev3) rfl rfl (Nat.le_of_ble_eq_true rfl) ⟨Nat.le_of_ble_eq_true rfl, Nat.le_of_ble_eq_true rfl⟩ ⟨Nat.zero_le _, Nat.zero_le _⟩ rfl dX5_stateAfter_90 rfl rfl ?_
            obtain rfl := Option.some.inj hx
            exact jj_iret C dX5_stateAfter_93 rfl
          · rw [if_neg q1_4] at hx
            by_cases q1_5 : l1 = 5
            · rw [if_pos q1_5] at hx
              refine jj_table (tgt := 94) C dX5_stateAfter_1 5 q1_5 (by decide) (by decide) rfl (by decide) ?_
              refine jj_iload_n C 2 2 dX5_stateAfter_94 rfl rfl ?_
              refine jj_bipush (v := 59) C dX5_stateAfter_95 (by decide) ?_
              refine jj_icmp_ne (tgt := 107) C dX5_stateAfter_97 (by decide) (fun q97 => ?_) (fun q97 => ?_)
              · rw [if_neg q97] at hx
                refine jj_aload_n C 0 0 dX5_stateAfter_107 rfl rfl ?_
                refine jj_iload_n C 2 2 dX5_stateAfter_108 rfl rfl ?_
                obtain ⟨v4, ev4, hx⟩ := ob hx
                refine jj_callV C [.int l2] lk_X5_45 (mc_X5_takeLetter X.2.1 G F n ev4) (o_X5_takeLetter ev4) rfl rfl (Nat.le_of_ble_eq_true rfl) ⟨Nat.le_of_ble_eq_true rfl, Nat.le_of_ble_eq_true rfl⟩ ⟨Nat.zero_le _, Nat.zero_le _⟩ rfl dX5_stateAfter_109 rfl rfl ?_
                obtain rfl := Option.some.inj hx
                exact jj_iret C dX5_stateAfter_112 rfl
              · rw [if_pos q97] at hx
                refine jj_aload_n C 0 0 dX5_stateAfter_100 rfl rfl ?_
                obtain ⟨v5, ev5, hx⟩ := ob hx
                refine jj_callV C [] lk_X5_37 (mc_X5_beginWord X.2.1 G F n ev5) (o_X5_beginWord ev5) rfl rfl (Nat.le_of_ble_eq_true rfl) ⟨Nat.le_of_ble_eq_true rfl, Nat.le_of_ble_eq_true rfl⟩ ⟨Nat.zero_le _, Nat.zero_le _⟩ rfl dX5_stateAfter_101 rfl rfl ?_
                refine jj_goto (tgt := 112) C dX5_stateAfter_104 (by decide) ?_
                obtain rfl := Option.some.inj hx
                exact jj_iret C dX5_stateAfter_112 rfl
            · rw [if_neg q1_5] at hx
              refine jj_tableOut (tgt := 113) C dX5_stateAfter_1 (tb_out6 q1_0 q1_1 q1_2 q1_3 q1_4 q1_5) (by decide) ?_
              refine jj_bipush (v := 6) C dX5_stateAfter_113 (by decide) ?_
              obtain rfl := Option.some.inj hx
              exact jj_iret C dX5_stateAfter_115 rfl
def s_X5_firstFault_22 (F : Nat)  (l0 : Nat) (l1 : Nat) (l2 : Int32) (l3 : Int32) (k22 : pH → Int32 → Int32 → Option (Int32 × pH)) (h : pH) (l4 : Int32) (l5 : Int32) : Option (Int32 × pH) :=
  if l3 ≤ l5 then
    if l4 = 5 then
      some ((-9 : Int32), h)
    else
      some (l3, h)
  else
    (getR 4 h l1 0).bind fun v1 =>
    (aldI 0 h v1 (l2 + l5)).bind fun v2 =>
    (x_X5_stateAfter F h l0 l4 v2).bind fun v3 =>
    if v3.1 = 6 then
      some (l5, v3.2)
    else
      k22 v3.2 v3.1 (l5 + 1)
def x_X5_firstFault_22 (F : Nat)  (l0 : Nat) (l1 : Nat) (l2 : Int32) (l3 : Int32) : Nat → pH → Int32 → Int32 → Option (Int32 × pH)
  | 0, _, _, _ => none
  | m + 1, h, l4, l5 => s_X5_firstFault_22 F l0 l1 l2 l3 (x_X5_firstFault_22 F l0 l1 l2 l3 m) h l4 l5
theorem ts_X5_firstFault_22 {X : pX} {G : pG} {n : Nat} {res : (Int32 × pH)} (C : Cx X G RX5 cX5_firstFault 6 (rmD 2 0 0) n (some (FieldType.int))) (F : Nat) {l0 : Nat} {l1 : Nat} {l2 : Int32} {l3 : Int32} {k22 : pH → Int32 → Int32 → Option (Int32 × pH)} (hk22 : ∀ (h : pH) (l4 : Int32) (l5 : Int32), k22 h l4 l5 = some res → J X G (0, 0, some (.int res.1), n, res.2) (0, 0, n) h 22 [(0, .ref l0), (1, .ref l1), (2, .int l2), (3, .int l3), (4, .int l4), (5, .int l5)] []) {h : pH} {l4 : Int32} {l5 : Int32} (hx : s_X5_firstFault_22 F l0 l1 l2 l3 k22 h l4 l5 = some res) : J X G (0, 0, some (.int res.1), n, res.2) (0, 0, n) h 22 [(0, .ref l0), (1, .ref l1), (2, .int l2), (3, .int l3), (4, .int l4), (5, .int l5)] [] := by
  unfold s_X5_firstFault_22 at hx
  refine jj_iload C 5 5 dX5_firstFault_22 rfl ?_
  refine jj_iload_n C 3 3 dX5_firstFault_24 rfl rfl ?_
  refine jj_icmp_ge (tgt := 61) C dX5_firstFault_25 (by decide) (fun q25 => ?_) (fun q25 => ?_)
  · rw [if_pos q25] at hx
    refine jj_iload C 4 4 dX5_firstFault_61 rfl ?_
    refine jj_iconst (v := 5) C dX5_firstFault_63 (by decide) ?_
    refine jj_icmp_ne (tgt := 72) C dX5_firstFault_64 (by decide) (fun q64 => ?_) (fun q64 => ?_)
    · rw [if_neg q64] at hx
      refine jj_iload_n C 3 3 dX5_firstFault_72 rfl rfl ?_
      obtain rfl := Option.some.inj hx
      exact jj_iret C dX5_firstFault_73 rfl
    · rw [if_pos q64] at hx
      refine jj_bipush (v := (-9)) C dX5_firstFault_67 (by decide) ?_
      refine jj_goto (tgt := 73) C dX5_firstFault_69 (by decide) ?_
      obtain rfl := Option.some.inj hx
      exact jj_iret C dX5_firstFault_73 rfl
  · rw [if_neg q25] at hx
    refine jj_aload_n C 0 0 dX5_firstFault_28 rfl rfl ?_
    refine jj_iload C 4 4 dX5_firstFault_29 rfl ?_
    refine jj_aload_n C 1 1 dX5_firstFault_31 rfl rfl ?_
    obtain ⟨v1, ev1, hx⟩ := ob hx
    refine jj_getR C fd_X5_29 dX5_firstFault_32 ev1 ?_
    refine jj_iload_n C 2 2 dX5_firstFault_35 rfl rfl ?_
    refine jj_iload C 5 5 dX5_firstFault_36 rfl ?_
    refine jj_iadd C dX5_firstFault_38 ?_
    obtain ⟨v2, ev2, hx⟩ := ob hx
    refine jj_iald C dX5_firstFault_39 ev2 ?_
    obtain ⟨v3, ev3, hx⟩ := ob hx
    refine jj_callV C [.int l4, .int v2] lk_X5_33 (mc_X5_stateAfter X.2.1 G F n ev3) (o_X5_stateAfter ev3) rfl rfl (Nat.le_of_ble_eq_true rfl) ⟨Nat.le_of_ble_eq_true rfl, Nat.le_of_ble_eq_true rfl⟩ ⟨Nat.zero_le _, Nat.zero_le _⟩ rfl dX5_firstFault_40 rfl rfl ?_
    refine jj_istore C 4 dX5_firstFault_43 rfl (by decide) ?_
    refine jj_iload C 4 0 dX5_firstFault_45 rfl ?_
    refine jj_bipush (v := 6) C dX5_firstFault_47 (by decide) ?_
    refine jj_icmp_ne (tgt := 55) C dX5_firstFault_49 (by decide) (fun q49 => ?_) (fun q49 => ?_)
    · rw [if_neg q49] at hx
      refine jj_iinc (v := l5 + 1) C 5 5 dX5_firstFault_55 rfl rfl rfl (by decide) ?_
      refine jj_goto (tgt := 22) C dX5_firstFault_58 (by decide) ?_
      refine jj_sub [2, 3, 4, 5, 1, 0] rfl ?_
      exact hk22 _ _ _ hx
    · rw [if_pos q49] at hx
      refine jj_iload C 5 5 dX5_firstFault_52 rfl ?_
      obtain rfl := Option.some.inj hx
      exact jj_iret C dX5_firstFault_54 rfl
theorem t_X5_firstFault_22 {X : pX} {G : pG} {n : Nat} {res : (Int32 × pH)} (C : Cx X G RX5 cX5_firstFault 6 (rmD 2 0 0) n (some (FieldType.int))) (F : Nat) {l0 : Nat} {l1 : Nat} {l2 : Int32} {l3 : Int32} : ∀ (m : Nat) (h : pH) (l4 : Int32) (l5 : Int32), x_X5_firstFault_22 F l0 l1 l2 l3 m h l4 l5 = some res → J X G (0, 0, some (.int res.1), n, res.2) (0, 0, n) h 22 [(0, .ref l0), (1, .ref l1), (2, .int l2), (3, .int l3), (4, .int l4), (5, .int l5)] [] := by
  intro m
  induction m with
  | zero => intro h l4 l5 hx; exact nomatch (show (none : Option (Int32 × pH)) = some res from hx)
  | succ m ih => intro h l4 l5 hx; exact ts_X5_firstFault_22 C F  ih hx
def x_X5_firstFault (F : Nat) (h : pH) (l0 : Nat) (l1 : Nat) (l2 : Int32) (l3 : Int32) : Option (Int32 × pH) :=
  (chk 5 h l0).bind fun _ =>
  (x_X4_hasCells F h l1 l2 l3).bind fun v1 =>
  if v1 = 0 then
    some ((0 : Int32), h)
  else
    (putV 5 h l0 1 (.int 0)).bind fun v2 =>
    x_X5_firstFault_22 F l0 l1 l2 l3 F v2 0 0
theorem o_X5_firstFault {F : Nat} {h : pH} {l0 : Nat} {l1 : Nat} {l2 : Int32} {l3 : Int32} {res : (Int32 × pH)} (hx : x_X5_firstFault F h l0 l1 l2 l3 = some res) : chk 5 h l0 = some () := by
  unfold x_X5_firstFault at hx
  obtain ⟨_, e, _⟩ := ob hx
  exact e
theorem mc_X5_firstFault (l : Launch) (G : pG) (F n : Nat) {h : pH} {l0 : Nat} {l1 : Nat} {l2 : Int32} {l3 : Int32} {res : (Int32 × pH)} (hx : x_X5_firstFault F h l0 l1 l2 l3 = some res) : MC l yX5_firstFault cX5_firstFault 6 (some (FieldType.int)) (rmD 2 0 0) G [.ref l0, .ref l1, .int l2, .int l3] n h (some (.int res.1)) n res.2 := by
  unfold x_X5_firstFault at hx
  obtain ⟨_, _, hx⟩ := ob hx
  refine jj_entry RX5 rfl (by decide) (Nat.le_of_ble_eq_true rfl) (fun X _ _ C => ?_)
  show J X G (0, 0, some (.int res.1), n, res.2) (0, 0, n) h 0 [(0, .ref l0), (1, .ref l1), (2, .int l2), (3, .int l3)] []
  refine jj_aload_n C 1 1 dX5_firstFault_0 rfl rfl ?_
  refine jj_iload_n C 2 2 dX5_firstFault_1 rfl rfl ?_
  refine jj_iload_n C 3 3 dX5_firstFault_2 rfl rfl ?_
  obtain ⟨v1, ev1, hx⟩ := ob hx
  refine jj_callV C [.int l2, .int l3] lk_X5_19 (mc_X4_hasCells X.2.1 G F n ev1) (o_X4_hasCells ev1) rfl rfl (Nat.le_of_ble_eq_true rfl) ⟨Nat.le_of_ble_eq_true rfl, Nat.le_of_ble_eq_true rfl⟩ ⟨Nat.zero_le _, Nat.zero_le _⟩ rfl dX5_firstFault_3 rfl rfl ?_
  refine jj_if_ne (tgt := 11) C dX5_firstFault_6 (by decide) (fun q6 => ?_) (fun q6 => ?_)
  · rw [if_neg q6] at hx
    refine jj_aload_n C 0 0 dX5_firstFault_11 rfl rfl ?_
    refine jj_iconst (v := 0) C dX5_firstFault_12 (by decide) ?_
    obtain ⟨v2, ev2, hx⟩ := ob hx
    refine jj_put C fd_X5_25 rfl rfl dX5_firstFault_13 ev2 ?_
    refine jj_iconst (v := 0) C dX5_firstFault_16 (by decide) ?_
    refine jj_istore C 4 dX5_firstFault_17 rfl (by decide) ?_
    refine jj_iconst (v := 0) C dX5_firstFault_19 (by decide) ?_
    refine jj_istore C 5 dX5_firstFault_20 rfl (by decide) ?_
    refine jj_sub [2, 3, 4, 5, 1, 0] rfl ?_
    exact t_X5_firstFault_22 C F F _ _ _ hx
  · rw [if_pos q6] at hx
    refine jj_iconst (v := 0) C dX5_firstFault_9 (by decide) ?_
    obtain rfl := Option.some.inj hx
    exact jj_iret C dX5_firstFault_10 rfl
