def x_X8_against_70 (F : Nat)  (h : pH) : Option Int32 :=
  some (3 : Int32)
theorem t_X8_against_70 {X : pX} {G : pG} {n : Nat} {res : Int32} (C : Cx X G RX8 cX8_against 5 (rmD 0 0 0) n (some (FieldType.int))) (F : Nat) {h : pH} (hx : x_X8_against_70 F h = some res) : J X G (0, 0, some (.int res), n, h) (0, 0, n) h 70 [] [] := by
  unfold x_X8_against_70 at hx
  refine jj_iconst (v := 3) C dX8_against_70 (by decide) ?_
  refine jj_goto (tgt := 75) C dX8_against_71 (by decide) ?_
  obtain rfl := Option.some.inj hx
  exact jj_iret C dX8_against_75 rfl
def x_X8_against_23 (F : Nat)  (h : pH) (l0 : Nat) (l1 : Int32) (l3 : Int32) (l4 : Int32) : Option Int32 :=
  (getR 8 h l0 2).bind fun v1 =>
  (aldI 0 h v1 l1).bind fun v2 =>
  if v2 = ((-9)) then
    some (1 : Int32)
  else
    if 0 ≤ l4 then
      if l3 < 0 then
        x_X8_against_70 F h
      else
        (getR 8 h l0 3).bind fun v3 =>
        (aldI 0 h v3 l1).bind fun v4 =>
        if v4 < l3 then
          x_X8_against_70 F h
        else
          (getR 8 h l0 3).bind fun v5 =>
          (aldI 0 h v5 l1).bind fun v6 =>
          if l4 ≤ (v6 - l3) then
            some (0 : Int32)
          else
            x_X8_against_70 F h
    else
      some (4 : Int32)
theorem t_X8_against_23 {X : pX} {G : pG} {n : Nat} {res : Int32} (C : Cx X G RX8 cX8_against 5 (rmD 0 0 0) n (some (FieldType.int))) (F : Nat) {h : pH} {l0 : Nat} {l1 : Int32} {l3 : Int32} {l4 : Int32} (hx : x_X8_against_23 F h l0 l1 l3 l4 = some res) : J X G (0, 0, some (.int res), n, h) (0, 0, n) h 23 [(0, .ref l0), (1, .int l1), (3, .int l3), (4, .int l4)] [] := by
  unfold x_X8_against_23 at hx
  refine jj_aload_n C 0 0 dX8_against_23 rfl rfl ?_
  obtain ⟨v1, ev1, hx⟩ := ob hx
  refine jj_getR C fd_X8_9 dX8_against_24 ev1 ?_
  refine jj_iload_n C 1 1 dX8_against_27 rfl rfl ?_
  obtain ⟨v2, ev2, hx⟩ := ob hx
  refine jj_iald C dX8_against_28 ev2 ?_
  refine jj_bipush (v := (-9)) C dX8_against_29 (by decide) ?_
  refine jj_icmp_ne (tgt := 36) C dX8_against_31 (by decide) (fun q31 => ?_) (fun q31 => ?_)
  · rw [if_neg q31] at hx
    refine jj_iload C 4 3 dX8_against_36 rfl ?_
    refine jj_if_ge (tgt := 43) C dX8_against_38 (by decide) (fun q38 => ?_) (fun q38 => ?_)
    · rw [if_pos q38] at hx
      refine jj_iload_n C 3 2 dX8_against_43 rfl rfl ?_
      refine jj_if_lt (tgt := 70) C dX8_against_44 (by decide) (fun q44 => ?_) (fun q44 => ?_)
      · rw [if_pos q44] at hx
        refine jj_sub [] rfl ?_
        exact t_X8_against_70 C F hx
      · rw [if_neg q44] at hx
        refine jj_iload_n C 3 2 dX8_against_47 rfl rfl ?_
        refine jj_aload_n C 0 0 dX8_against_48 rfl rfl ?_
        obtain ⟨v3, ev3, hx⟩ := ob hx
        refine jj_getR C fd_X8_13 dX8_against_49 ev3 ?_
        refine jj_iload_n C 1 1 dX8_against_52 rfl rfl ?_
        obtain ⟨v4, ev4, hx⟩ := ob hx
        refine jj_iald C dX8_against_53 ev4 ?_
        refine jj_icmp_gt (tgt := 70) C dX8_against_54 (by decide) (fun q54 => ?_) (fun q54 => ?_)
        · rw [if_pos q54] at hx
          refine jj_sub [] rfl ?_
          exact t_X8_against_70 C F hx
        · rw [if_neg q54] at hx
          refine jj_iload C 4 3 dX8_against_57 rfl ?_
          refine jj_aload_n C 0 0 dX8_against_59 rfl rfl ?_
          obtain ⟨v5, ev5, hx⟩ := ob hx
          refine jj_getR C fd_X8_13 dX8_against_60 ev5 ?_
          refine jj_iload_n C 1 1 dX8_against_63 rfl rfl ?_
          obtain ⟨v6, ev6, hx⟩ := ob hx
          refine jj_iald C dX8_against_64 ev6 ?_
          refine jj_iload_n C 3 2 dX8_against_65 rfl rfl ?_
          refine jj_isub C dX8_against_66 ?_
          refine jj_icmp_le (tgt := 74) C dX8_against_67 (by decide) (fun q67 => ?_) (fun q67 => ?_)
          · rw [if_pos q67] at hx
            refine jj_iconst (v := 0) C dX8_against_74 (by decide) ?_
            obtain rfl := Option.some.inj hx
            exact jj_iret C dX8_against_75 rfl
          · rw [if_neg q67] at hx
            refine jj_sub [] rfl ?_
            exact t_X8_against_70 C F hx
    · rw [if_neg q38] at hx
      refine jj_iconst (v := 4) C dX8_against_41 (by decide) ?_
      obtain rfl := Option.some.inj hx
      exact jj_iret C dX8_against_42 rfl
  · rw [if_pos q31] at hx
    refine jj_iconst (v := 1) C dX8_against_34 (by decide) ?_
    obtain rfl := Option.some.inj hx
    exact jj_iret C dX8_against_35 rfl
def x_X8_against (F : Nat) (h : pH) (l0 : Nat) (l1 : Int32) (l2 : Int32) (l3 : Int32) (l4 : Int32) : Option Int32 :=
  (chk 8 h l0).bind fun _ =>
  (getR 8 h l0 2).bind fun v1 =>
  (aldI 0 h v1 l1).bind fun v2 =>
  if v2 = ((-9)) then
    x_X8_against_23 F h l0 l1 l3 l4
  else
    (getR 8 h l0 2).bind fun v3 =>
    (aldI 0 h v3 l1).bind fun v4 =>
    if v4 = l2 then
      x_X8_against_23 F h l0 l1 l3 l4
    else
      some (2 : Int32)
theorem o_X8_against {F : Nat} {h : pH} {l0 : Nat} {l1 : Int32} {l2 : Int32} {l3 : Int32} {l4 : Int32} {res : Int32} (hx : x_X8_against F h l0 l1 l2 l3 l4 = some res) : chk 8 h l0 = some () := by
  unfold x_X8_against at hx
  obtain ⟨_, e, _⟩ := ob hx
  exact e
theorem mc_X8_against (l : Launch) (G : pG) (F n : Nat) {h : pH} {l0 : Nat} {l1 : Int32} {l2 : Int32} {l3 : Int32} {l4 : Int32} {res : Int32} (hx : x_X8_against F h l0 l1 l2 l3 l4 = some res) : MC l yX8_against cX8_against 5 (some (FieldType.int)) (rmD 0 0 0) G [.ref l0, .int l1, .int l2, .int l3, .int l4] n h (some (.int res)) n h := by
  unfold x_X8_against at hx
  obtain ⟨_, _, hx⟩ := ob hx
  refine jj_entry RX8 rfl (by decide) (Nat.le_of_ble_eq_true rfl) (fun X _ _ C => ?_)
  show J X G (0, 0, some (.int res), n, h) (0, 0, n) h 0 [(0, .ref l0), (1, .int l1), (2, .int l2), (3, .int l3), (4, .int l4)] []
  refine jj_aload_n C 0 0 dX8_against_0 rfl rfl ?_
  obtain ⟨v1, ev1, hx⟩ := ob hx
  refine jj_getR C fd_X8_9 dX8_against_1 ev1 ?_
  refine jj_iload_n C 1 1 dX8_against_4 rfl rfl ?_
  obtain ⟨v2, ev2, hx⟩ := ob hx
  refine jj_iald C dX8_against_5 ev2 ?_
  refine jj_bipush (v := (-9)) C dX8_against_6 (by decide) ?_
  refine jj_icmp_eq (tgt := 23) C dX8_against_8 (by decide) (fun q8 => ?_) (fun q8 => ?_)
  · rw [if_pos q8] at hx
    refine jj_sub [0, 1, 3, 4] rfl ?_
    exact t_X8_against_23 C F hx
  · rw [if_neg q8] at hx
    refine jj_aload_n C 0 0 dX8_against_11 rfl rfl ?_
    obtain ⟨v3, ev3, hx⟩ := ob hx
    refine jj_getR C fd_X8_9 dX8_against_12 ev3 ?_
    refine jj_iload_n C 1 1 dX8_against_15 rfl rfl ?_
    obtain ⟨v4, ev4, hx⟩ := ob hx
    refine jj_iald C dX8_against_16 ev4 ?_
    refine jj_iload_n C 2 2 dX8_against_17 rfl rfl ?_
    refine jj_icmp_eq (tgt := 23) C dX8_against_18 (by decide) (fun q18 => ?_) (fun q18 => ?_)
    · rw [if_pos q18] at hx
      refine jj_sub [0, 1, 3, 4] rfl ?_
      exact t_X8_against_23 C F hx
    · rw [if_neg q18] at hx
      refine jj_iconst (v := 2) C dX8_against_21 (by decide) ?_
      obtain rfl := Option.some.inj hx
      exact jj_iret C dX8_against_22 rfl
def x_X8_within (F : Nat) (h : pH) (l0 : Int32) (l1 : Int32) (l2 : Int32) : Option Int32 :=
  if l0 < l1 then
    some (0 : Int32)
  else
    if l2 < l0 then
      some (0 : Int32)
    else
      some (1 : Int32)
theorem mc_X8_within (l : Launch) (G : pG) (F n : Nat) {h : pH} {l0 : Int32} {l1 : Int32} {l2 : Int32} {res : Int32} (hx : x_X8_within F h l0 l1 l2 = some res) : MC l yX8_within cX8_within 3 (some (FieldType.boolean)) (rmD 0 0 0) G [.int l0, .int l1, .int l2] n h (some (.int res)) n h := by
  unfold x_X8_within at hx
  refine jj_entry RX8 rfl (by decide) (Nat.le_of_ble_eq_true rfl) (fun X _ _ C => ?_)
  show J X G (0, 0, some (.int res), n, h) (0, 0, n) h 0 [(0, .int l0), (1, .int l1), (2, .int l2)] []
  refine jj_iload_n C 0 0 dX8_within_0 rfl rfl ?_
  refine jj_iload_n C 1 1 dX8_within_1 rfl rfl ?_
  refine jj_icmp_lt (tgt := 14) C dX8_within_2 (by decide) (fun q2 => ?_) (fun q2 => ?_)
  · rw [if_pos q2] at hx
    refine jj_iconst (v := 0) C dX8_within_14 (by decide) ?_
    obtain rfl := Option.some.inj hx
    exact jj_zret C (Or.inl rfl) dX8_within_15 rfl
  · rw [if_neg q2] at hx
    refine jj_iload_n C 0 0 dX8_within_5 rfl rfl ?_
    refine jj_iload_n C 2 2 dX8_within_6 rfl rfl ?_
    refine jj_icmp_gt (tgt := 14) C dX8_within_7 (by decide) (fun q7 => ?_) (fun q7 => ?_)
    · rw [if_pos q7] at hx
      refine jj_iconst (v := 0) C dX8_within_14 (by decide) ?_
      obtain rfl := Option.some.inj hx
      exact jj_zret C (Or.inl rfl) dX8_within_15 rfl
    · rw [if_neg q7] at hx
      refine jj_iconst (v := 1) C dX8_within_10 (by decide) ?_
      refine jj_goto (tgt := 15) C dX8_within_11 (by decide) ?_
      obtain rfl := Option.some.inj hx
      exact jj_zret C (Or.inr rfl) dX8_within_15 rfl
def s_X8_endOf_48 (F : Nat)  (h : pH) (l0 : Nat) (l1 : Int32) (l3 : Int32) (k48 : Int32 → Int32 → Option Int32) (l4 : Int32) (l5 : Int32) : Option Int32 :=
  if l1 ≤ l5 then
    some (l3 + l4)
  else
    (getR 8 h l0 16).bind fun v1 =>
    (aldI 0 h v1 l5).bind fun v2 =>
    k48 (((3 : Int32) * l4) + v2) (l5 + 1)
def x_X8_endOf_48 (F : Nat)  (h : pH) (l0 : Nat) (l1 : Int32) (l3 : Int32) : Nat → Int32 → Int32 → Option Int32
  | 0, _, _ => none
  | m + 1, l4, l5 => s_X8_endOf_48 F h l0 l1 l3 (x_X8_endOf_48 F h l0 l1 l3 m) l4 l5
theorem ts_X8_endOf_48 {X : pX} {G : pG} {n : Nat} {res : Int32} (C : Cx X G RX8 cX8_endOf 6 (rmD 0 0 0) n (some (FieldType.int))) (F : Nat) {h : pH} {l0 : Nat} {l1 : Int32} {l3 : Int32} {k48 : Int32 → Int32 → Option Int32} (hk48 : ∀ (l4 : Int32) (l5 : Int32), k48 l4 l5 = some res → J X G (0, 0, some (.int res), n, h) (0, 0, n) h 48 [(0, .ref l0), (1, .int l1), (3, .int l3), (4, .int l4), (5, .int l5)] []) {l4 : Int32} {l5 : Int32} (hx : s_X8_endOf_48 F h l0 l1 l3 k48 l4 l5 = some res) : J X G (0, 0, some (.int res), n, h) (0, 0, n) h 48 [(0, .ref l0), (1, .int l1), (3, .int l3), (4, .int l4), (5, .int l5)] [] := by
  unfold s_X8_endOf_48 at hx
  refine jj_iload C 5 4 dX8_endOf_48 rfl ?_
  refine jj_iload_n C 1 1 dX8_endOf_50 rfl rfl ?_
  refine jj_icmp_ge (tgt := 74) C dX8_endOf_51 (by decide) (fun q51 => ?_) (fun q51 => ?_)
  · rw [if_pos q51] at hx
    refine jj_iload_n C 3 2 dX8_endOf_74 rfl rfl ?_
    refine jj_iload C 4 3 dX8_endOf_75 rfl ?_
    refine jj_iadd C dX8_endOf_77 ?_
    obtain rfl := Option.some.inj hx
    exact jj_iret C dX8_endOf_78 rfl
  · rw [if_neg q51] at hx
    refine jj_iconst (v := 3) C dX8_endOf_54 (by decide) ?_
    refine jj_iload C 4 3 dX8_endOf_55 rfl ?_
    refine jj_imul C dX8_endOf_57 ?_
    refine jj_aload_n C 0 0 dX8_endOf_58 rfl rfl ?_
    obtain ⟨v1, ev1, hx⟩ := ob hx
    refine jj_getR C fd_X8_40 dX8_endOf_59 ev1 ?_
    refine jj_iload C 5 4 dX8_endOf_62 rfl ?_
    obtain ⟨v2, ev2, hx⟩ := ob hx
    refine jj_iald C dX8_endOf_64 ev2 ?_
    refine jj_iadd C dX8_endOf_65 ?_
    refine jj_istore C 4 dX8_endOf_66 rfl (by decide) ?_
    refine jj_iinc (v := l5 + 1) C 5 4 dX8_endOf_68 rfl rfl rfl (by decide) ?_
    refine jj_goto (tgt := 48) C dX8_endOf_71 (by decide) ?_
    refine jj_sub [2, 3, 4, 1, 0] rfl ?_
    exact hk48 _ _ hx
theorem t_X8_endOf_48 {X : pX} {G : pG} {n : Nat} {res : Int32} (C : Cx X G RX8 cX8_endOf 6 (rmD 0 0 0) n (some (FieldType.int))) (F : Nat) {h : pH} {l0 : Nat} {l1 : Int32} {l3 : Int32} : ∀ (m : Nat) (l4 : Int32) (l5 : Int32), x_X8_endOf_48 F h l0 l1 l3 m l4 l5 = some res → J X G (0, 0, some (.int res), n, h) (0, 0, n) h 48 [(0, .ref l0), (1, .int l1), (3, .int l3), (4, .int l4), (5, .int l5)] [] := by
  intro m
  induction m with
  | zero => intro l4 l5 hx; exact nomatch (show (none : Option Int32) = some res from hx)
  | succ m ih => intro l4 l5 hx; exact ts_X8_endOf_48 C F  ih hx
def x_X8_endOf_39 (F : Nat)  (h : pH) (l0 : Nat) (l1 : Int32) (l2 : Int32) (s0 : Int32) : Option Int32 :=
  x_X8_endOf_48 F h l0 l1 s0 F 0 (l1 - l2)
theorem t_X8_endOf_39 {X : pX} {G : pG} {n : Nat} {res : Int32} (C : Cx X G RX8 cX8_endOf 6 (rmD 0 0 0) n (some (FieldType.int))) (F : Nat) {h : pH} {l0 : Nat} {l1 : Int32} {l2 : Int32} {s0 : Int32} (hx : x_X8_endOf_39 F h l0 l1 l2 s0 = some res) : J X G (0, 0, some (.int res), n, h) (0, 0, n) h 39 [(0, .ref l0), (1, .int l1), (2, .int l2)] [.int s0] := by
  unfold x_X8_endOf_39 at hx
  refine jj_istore_n C 3 dX8_endOf_39 rfl rfl (by decide) ?_
  refine jj_iconst (v := 0) C dX8_endOf_40 (by decide) ?_
  refine jj_istore C 4 dX8_endOf_41 rfl (by decide) ?_
  refine jj_iload_n C 1 3 dX8_endOf_43 rfl rfl ?_
  refine jj_iload_n C 2 4 dX8_endOf_44 rfl rfl ?_
  refine jj_isub C dX8_endOf_45 ?_
  refine jj_istore C 5 dX8_endOf_46 rfl (by decide) ?_
  refine jj_sub [3, 4, 2, 1, 0] rfl ?_
  exact t_X8_endOf_48 C F F _ _ hx
def x_X8_endOf_10 (F : Nat)  (h : pH) (l0 : Nat) (l1 : Int32) (s0 : Int32) : Option Int32 :=
  if s0 = 0 then
    x_X8_endOf_39 F h l0 l1 s0 0
  else
    if s0 = 1 then
      x_X8_endOf_39 F h l0 l1 s0 1
    else
      if s0 = 2 then
        x_X8_endOf_39 F h l0 l1 s0 4
      else
        x_X8_endOf_39 F h l0 l1 s0 13
theorem t_X8_endOf_10 {X : pX} {G : pG} {n : Nat} {res : Int32} (C : Cx X G RX8 cX8_endOf 6 (rmD 0 0 0) n (some (FieldType.int))) (F : Nat) {h : pH} {l0 : Nat} {l1 : Int32} {s0 : Int32} (hx : x_X8_endOf_10 F h l0 l1 s0 = some res) : J X G (0, 0, some (.int res), n, h) (0, 0, n) h 10 [(0, .ref l0), (1, .int l1)] [.int s0] := by
  unfold x_X8_endOf_10 at hx
  refine jj_istore_n C 2 dX8_endOf_10 rfl rfl (by decide) ?_
  refine jj_iload_n C 2 0 dX8_endOf_11 rfl rfl ?_
  refine jj_if_ne (tgt := 19) C dX8_endOf_12 (by decide) (fun q12 => ?_) (fun q12 => ?_)
  · rw [if_neg q12] at hx
    refine jj_iload_n C 2 0 dX8_endOf_19 rfl rfl ?_
    refine jj_iconst (v := 1) C dX8_endOf_20 (by decide) ?_
    refine jj_icmp_ne (tgt := 28) C dX8_endOf_21 (by decide) (fun q21 => ?_) (fun q21 => ?_)
    · rw [if_neg q21] at hx
      refine jj_iload_n C 2 0 dX8_endOf_28 rfl rfl ?_
      refine jj_iconst (v := 2) C dX8_endOf_29 (by decide) ?_
      refine jj_icmp_ne (tgt := 37) C dX8_endOf_30 (by decide) (fun q30 => ?_) (fun q30 => ?_)
      · rw [if_neg q30] at hx
        refine jj_bipush (v := 13) C dX8_endOf_37 (by decide) ?_
        refine jj_sub [1, 2, 0] rfl ?_
        exact t_X8_endOf_39 C F hx
      · rw [if_pos q30] at hx
        refine jj_iconst (v := 4) C dX8_endOf_33 (by decide) ?_
        refine jj_goto (tgt := 39) C dX8_endOf_34 (by decide) ?_
        refine jj_sub [1, 2, 0] rfl ?_
        exact t_X8_endOf_39 C F hx
    · rw [if_pos q21] at hx
      refine jj_iconst (v := 1) C dX8_endOf_24 (by decide) ?_
      refine jj_goto (tgt := 39) C dX8_endOf_25 (by decide) ?_
      refine jj_sub [1, 2, 0] rfl ?_
      exact t_X8_endOf_39 C F hx
  · rw [if_pos q12] at hx
    refine jj_iconst (v := 0) C dX8_endOf_15 (by decide) ?_
    refine jj_goto (tgt := 39) C dX8_endOf_16 (by decide) ?_
    refine jj_sub [1, 2, 0] rfl ?_
    exact t_X8_endOf_39 C F hx
def x_X8_endOf (F : Nat) (h : pH) (l0 : Nat) (l1 : Int32) : Option Int32 :=
  (chk 8 h l0).bind fun _ =>
  if 3 ≤ l1 then
    x_X8_endOf_10 F h l0 l1 3
  else
    x_X8_endOf_10 F h l0 l1 l1
theorem o_X8_endOf {F : Nat} {h : pH} {l0 : Nat} {l1 : Int32} {res : Int32} (hx : x_X8_endOf F h l0 l1 = some res) : chk 8 h l0 = some () := by
  unfold x_X8_endOf at hx
  obtain ⟨_, e, _⟩ := ob hx
  exact e
theorem mc_X8_endOf (l : Launch) (G : pG) (F n : Nat) {h : pH} {l0 : Nat} {l1 : Int32} {res : Int32} (hx : x_X8_endOf F h l0 l1 = some res) : MC l yX8_endOf cX8_endOf 6 (some (FieldType.int)) (rmD 0 0 0) G [.ref l0, .int l1] n h (some (.int res)) n h := by
  unfold x_X8_endOf at hx
  obtain ⟨_, _, hx⟩ := ob hx
  refine jj_entry RX8 rfl (by decide) (Nat.le_of_ble_eq_true rfl) (fun X _ _ C => ?_)
  show J X G (0, 0, some (.int res), n, h) (0, 0, n) h 0 [(0, .ref l0), (1, .int l1)] []
  refine jj_iload_n C 1 1 dX8_endOf_0 rfl rfl ?_
  refine jj_iconst (v := 3) C dX8_endOf_1 (by decide) ?_
  refine jj_icmp_ge (tgt := 9) C dX8_endOf_2 (by decide) (fun q2 => ?_) (fun q2 => ?_)
  · rw [if_pos q2] at hx
    refine jj_iconst (v := 3) C dX8_endOf_9 (by decide) ?_
    exact t_X8_endOf_10 C F hx
  · rw [if_neg q2] at hx
    refine jj_iload_n C 1 1 dX8_endOf_5 rfl rfl ?_
    refine jj_goto (tgt := 10) C dX8_endOf_6 (by decide) ?_
    exact t_X8_endOf_10 C F hx
def x_X8_letterOf_50 (F : Nat)  (h : pH) (l0 : Nat) (l1 : Int32) (s0 : Int32) : Option Int32 :=
  (getR 8 h l0 9).bind fun v1 =>
  (aldI 0 h v1 (((4 : Int32) * l1) + s0)).bind fun v2 =>
  some v2
theorem t_X8_letterOf_50 {X : pX} {G : pG} {n : Nat} {res : Int32} (C : Cx X G RX8 cX8_letterOf 6 (rmD 0 0 0) n (some (FieldType.int))) (F : Nat) {h : pH} {l0 : Nat} {l1 : Int32} {s0 : Int32} (hx : x_X8_letterOf_50 F h l0 l1 s0 = some res) : J X G (0, 0, some (.int res), n, h) (0, 0, n) h 50 [(0, .ref l0), (1, .int l1)] [.int s0] := by
  unfold x_X8_letterOf_50 at hx
  refine jj_istore C 5 dX8_letterOf_50 rfl (by decide) ?_
  refine jj_aload_n C 0 1 dX8_letterOf_52 rfl rfl ?_
  obtain ⟨v1, ev1, hx⟩ := ob hx
  refine jj_getR C fd_X8_25 dX8_letterOf_53 ev1 ?_
  refine jj_iconst (v := 4) C dX8_letterOf_56 (by decide) ?_
  refine jj_iload_n C 1 2 dX8_letterOf_57 rfl rfl ?_
  refine jj_imul C dX8_letterOf_58 ?_
  refine jj_iload C 5 0 dX8_letterOf_59 rfl ?_
  refine jj_iadd C dX8_letterOf_61 ?_
  obtain ⟨v2, ev2, hx⟩ := ob hx
  refine jj_iald C dX8_letterOf_62 ev2 ?_
  obtain rfl := Option.some.inj hx
  exact jj_iret C dX8_letterOf_63 rfl
def x_X8_letterOf_21 (F : Nat)  (h : pH) (l0 : Nat) (l1 : Int32) (l3 : Int32) : Option Int32 :=
  x_X8_letterOf_50 F h l0 l1 l3
theorem t_X8_letterOf_21 {X : pX} {G : pG} {n : Nat} {res : Int32} (C : Cx X G RX8 cX8_letterOf 6 (rmD 0 0 0) n (some (FieldType.int))) (F : Nat) {h : pH} {l0 : Nat} {l1 : Int32} {l3 : Int32} (hx : x_X8_letterOf_21 F h l0 l1 l3 = some res) : J X G (0, 0, some (.int res), n, h) (0, 0, n) h 21 [(0, .ref l0), (1, .int l1), (3, .int l3)] [] := by
  unfold x_X8_letterOf_21 at hx
  refine jj_iload_n C 3 2 dX8_letterOf_21 rfl rfl ?_
  refine jj_goto (tgt := 50) C dX8_letterOf_22 (by decide) ?_
  refine jj_sub [0, 1] rfl ?_
  exact t_X8_letterOf_50 C F hx
def x_X8_letterOf (F : Nat) (h : pH) (l0 : Nat) (l1 : Int32) (l2 : Int32) (l3 : Int32) : Option Int32 :=
  (chk 8 h l0).bind fun _ =>
  (getR 8 h l0 8).bind fun v1 =>
  (aldI 0 h v1 l1).bind fun v2 =>
  if l2 = 0 then
    x_X8_letterOf_21 F h l0 l1 l3
  else
    (getR 8 h l0 7).bind fun v3 =>
    (aldI 0 h v3 l1).bind fun v4 =>
    if v4 = 0 then
      x_X8_letterOf_21 F h l0 l1 l3
    else
      (getR 8 h l0 7).bind fun v5 =>
      (aldI 0 h v5 l1).bind fun v6 =>
      if v6 = 1 then
        x_X8_letterOf_50 F h l0 l1 ((v2 - (1 : Int32)) - l3)
      else
        if v2 = 0 then none else
        x_X8_letterOf_50 F h l0 l1 ((l3 + (1 : Int32)) - (l3 + (1 : Int32)) / v2 * v2)
theorem o_X8_letterOf {F : Nat} {h : pH} {l0 : Nat} {l1 : Int32} {l2 : Int32} {l3 : Int32} {res : Int32} (hx : x_X8_letterOf F h l0 l1 l2 l3 = some res) : chk 8 h l0 = some () := by
  unfold x_X8_letterOf at hx
  obtain ⟨_, e, _⟩ := ob hx
  exact e
theorem mc_X8_letterOf (l : Launch) (G : pG) (F n : Nat) {h : pH} {l0 : Nat} {l1 : Int32} {l2 : Int32} {l3 : Int32} {res : Int32} (hx : x_X8_letterOf F h l0 l1 l2 l3 = some res) : MC l yX8_letterOf cX8_letterOf 6 (some (FieldType.int)) (rmD 0 0 0) G [.ref l0, .int l1, .int l2, .int l3] n h (some (.int res)) n h := by
  unfold x_X8_letterOf at hx
  obtain ⟨_, _, hx⟩ := ob hx
  refine jj_entry RX8 rfl (by decide) (Nat.le_of_ble_eq_true rfl) (fun X _ _ C => ?_)
  show J X G (0, 0, some (.int res), n, h) (0, 0, n) h 0 [(0, .ref l0), (1, .int l1), (2, .int l2), (3, .int l3)] []
  refine jj_aload_n C 0 0 dX8_letterOf_0 rfl rfl ?_
  obtain ⟨v1, ev1, hx⟩ := ob hx
  refine jj_getR C fd_X8_22 dX8_letterOf_1 ev1 ?_
  refine jj_iload_n C 1 1 dX8_letterOf_4 rfl rfl ?_
  obtain ⟨v2, ev2, hx⟩ := ob hx
  refine jj_iald C dX8_letterOf_5 ev2 ?_
  refine jj_istore C 4 dX8_letterOf_6 rfl (by decide) ?_
  refine jj_iload_n C 2 3 dX8_letterOf_8 rfl rfl ?_
  refine jj_if_eq (tgt := 21) C dX8_letterOf_9 (by decide) (fun q9 => ?_) (fun q9 => ?_)
  · rw [if_pos q9] at hx
    refine jj_sub [1, 2, 4] rfl ?_
    exact t_X8_letterOf_21 C F hx
  · rw [if_neg q9] at hx
    refine jj_aload_n C 0 1 dX8_letterOf_12 rfl rfl ?_
    obtain ⟨v3, ev3, hx⟩ := ob hx
    refine jj_getR C fd_X8_19 dX8_letterOf_13 ev3 ?_
    refine jj_iload_n C 1 2 dX8_letterOf_16 rfl rfl ?_
    obtain ⟨v4, ev4, hx⟩ := ob hx
    refine jj_iald C dX8_letterOf_17 ev4 ?_
    refine jj_if_ne (tgt := 25) C dX8_letterOf_18 (by decide) (fun q18 => ?_) (fun q18 => ?_)
    · rw [if_neg q18] at hx
      refine jj_aload_n C 0 1 dX8_letterOf_25 rfl rfl ?_
      obtain ⟨v5, ev5, hx⟩ := ob hx
      refine jj_getR C fd_X8_19 dX8_letterOf_26 ev5 ?_
      refine jj_iload_n C 1 2 dX8_letterOf_29 rfl rfl ?_
      obtain ⟨v6, ev6, hx⟩ := ob hx
      refine jj_iald C dX8_letterOf_30 ev6 ?_
      refine jj_iconst (v := 1) C dX8_letterOf_31 (by decide) ?_
      refine jj_icmp_ne (tgt := 44) C dX8_letterOf_32 (by decide) (fun q32 => ?_) (fun q32 => ?_)
      · rw [if_neg q32] at hx
        refine jj_iload_n C 3 4 dX8_letterOf_44 rfl rfl ?_
        refine jj_iconst (v := 1) C dX8_letterOf_45 (by decide) ?_
        refine jj_iadd C dX8_letterOf_46 ?_
        refine jj_iload C 4 0 dX8_letterOf_47 rfl ?_
        obtain ⟨z49, hx⟩ := oe hx
        refine jj_irem C dX8_letterOf_49 z49 ?_
        refine jj_sub [1, 2] rfl ?_
        exact t_X8_letterOf_50 C F hx
      · rw [if_pos q32] at hx
        refine jj_iload C 4 0 dX8_letterOf_35 rfl ?_
        refine jj_iconst (v := 1) C dX8_letterOf_37 (by decide) ?_
        refine jj_isub C dX8_letterOf_38 ?_
        refine jj_iload_n C 3 4 dX8_letterOf_39 rfl rfl ?_
        refine jj_isub C dX8_letterOf_40 ?_
        refine jj_goto (tgt := 50) C dX8_letterOf_41 (by decide) ?_
        refine jj_sub [1, 2] rfl ?_
        exact t_X8_letterOf_50 C F hx
    · rw [if_pos q18] at hx
      refine jj_sub [1, 2, 4] rfl ?_
      exact t_X8_letterOf_21 C F hx
def x_X8_isHeard_73 (F : Nat) (k14 : Int32 → Option Int32) (k25 : Int32 → Int32 → Option Int32) (h : pH) (l0 : Nat) (l1 : Int32) (l2 : Int32) (l3 : Int32) (l5 : Int32) (s0 : Int32) : Option Int32 :=
  k25 s0 (l5 + 1)
theorem t_X8_isHeard_73 {X : pX} {G : pG} {n : Nat} {res : Int32} (C : Cx X G RX8 cX8_isHeard 6 (rmD 1 0 0) n (some (FieldType.boolean))) (F : Nat) {h : pH} {l0 : Nat} {l1 : Int32} {l2 : Int32} {l3 : Int32} {l5 : Int32} {s0 : Int32} {k14 : Int32 → Option Int32} (hk14 : ∀ (l3 : Int32), k14 l3 = some res → J X G (0, 0, some (.int res), n, h) (0, 0, n) h 14 [(0, .ref l0), (1, .int l1), (2, .int l2), (3, .int l3)] []) {k25 : Int32 → Int32 → Option Int32} (hk25 : ∀ (l4 : Int32) (l5 : Int32), k25 l4 l5 = some res → J X G (0, 0, some (.int res), n, h) (0, 0, n) h 25 [(0, .ref l0), (1, .int l1), (2, .int l2), (3, .int l3), (4, .int l4), (5, .int l5)] []) (hx : x_X8_isHeard_73 F k14 k25 h l0 l1 l2 l3 l5 s0 = some res) : J X G (0, 0, some (.int res), n, h) (0, 0, n) h 73 [(0, .ref l0), (1, .int l1), (2, .int l2), (3, .int l3), (5, .int l5)] [.int s0] := by
  unfold x_X8_isHeard_73 at hx
  refine jj_istore C 4 dX8_isHeard_73 rfl (by decide) ?_
  refine jj_iinc (v := l5 + 1) C 5 5 dX8_isHeard_75 rfl rfl rfl (by decide) ?_
  refine jj_goto (tgt := 25) C dX8_isHeard_78 (by decide) ?_
  refine jj_sub [2, 3, 4, 5, 1, 0] rfl ?_
  exact hk25 _ _ hx
def x_X8_isHeard_81 (F : Nat) (k14 : Int32 → Option Int32) (h : pH) (l0 : Nat) (l1 : Int32) (l2 : Int32) (l3 : Int32) (l4 : Int32) : Option Int32 :=
  if l4 = 0 then
    k14 (l3 + 1)
  else
    some (1 : Int32)
theorem t_X8_isHeard_81 {X : pX} {G : pG} {n : Nat} {res : Int32} (C : Cx X G RX8 cX8_isHeard 6 (rmD 1 0 0) n (some (FieldType.boolean))) (F : Nat) {h : pH} {l0 : Nat} {l1 : Int32} {l2 : Int32} {l3 : Int32} {l4 : Int32} {k14 : Int32 → Option Int32} (hk14 : ∀ (l3 : Int32), k14 l3 = some res → J X G (0, 0, some (.int res), n, h) (0, 0, n) h 14 [(0, .ref l0), (1, .int l1), (2, .int l2), (3, .int l3)] []) (hx : x_X8_isHeard_81 F k14 h l0 l1 l2 l3 l4 = some res) : J X G (0, 0, some (.int res), n, h) (0, 0, n) h 81 [(0, .ref l0), (1, .int l1), (2, .int l2), (3, .int l3), (4, .int l4)] [] := by
  unfold x_X8_isHeard_81 at hx
  refine jj_iload C 4 4 dX8_isHeard_81 rfl ?_
  refine jj_if_eq (tgt := 88) C dX8_isHeard_83 (by decide) (fun q83 => ?_) (fun q83 => ?_)
  · rw [if_pos q83] at hx
    refine jj_iinc (v := l3 + 1) C 3 3 dX8_isHeard_88 rfl rfl rfl (by decide) ?_
    refine jj_goto (tgt := 14) C dX8_isHeard_91 (by decide) ?_
    refine jj_sub [1, 2, 3, 0] rfl ?_
    exact hk14 _ hx
  · rw [if_neg q83] at hx
    refine jj_iconst (v := 1) C dX8_isHeard_86 (by decide) ?_
    obtain rfl := Option.some.inj hx
    exact jj_zret C (Or.inr rfl) dX8_isHeard_87 rfl
def s_X8_isHeard_25 (F : Nat) (k14 : Int32 → Option Int32) (h : pH) (l0 : Nat) (l1 : Int32) (l2 : Int32) (l3 : Int32) (k25 : Int32 → Int32 → Option Int32) (l4 : Int32) (l5 : Int32) : Option Int32 :=
  (getR 8 h l0 8).bind fun v1 =>
  (aldI 0 h v1 l1).bind fun v2 =>
  if v2 ≤ l5 then
    x_X8_isHeard_81 F k14 h l0 l1 l2 l3 l4
  else
    if l4 = 0 then
      x_X8_isHeard_81 F k14 h l0 l1 l2 l3 l4
    else
      (getR 8 h l0 16).bind fun v3 =>
      (getR 8 h l0 8).bind fun v4 =>
      (aldI 0 h v4 l1).bind fun v5 =>
      (aldI 0 h v3 ((l2 - v5) + l5)).bind fun v6 =>
      (x_X8_letterOf F h l0 l1 l3 l5).bind fun v7 =>
      if v6 = v7 then
        x_X8_isHeard_73 F k14 k25 h l0 l1 l2 l3 l5 1
      else
        x_X8_isHeard_73 F k14 k25 h l0 l1 l2 l3 l5 0
def x_X8_isHeard_25 (F : Nat) (k14 : Int32 → Option Int32) (h : pH) (l0 : Nat) (l1 : Int32) (l2 : Int32) (l3 : Int32) : Nat → Int32 → Int32 → Option Int32
  | 0, _, _ => none
  | m + 1, l4, l5 => s_X8_isHeard_25 F k14 h l0 l1 l2 l3 (x_X8_isHeard_25 F k14 h l0 l1 l2 l3 m) l4 l5
theorem ts_X8_isHeard_25 {X : pX} {G : pG} {n : Nat} {res : Int32} (C : Cx X G RX8 cX8_isHeard 6 (rmD 1 0 0) n (some (FieldType.boolean))) (F : Nat) {h : pH} {l0 : Nat} {l1 : Int32} {l2 : Int32} {l3 : Int32} {k14 : Int32 → Option Int32} (hk14 : ∀ (l3 : Int32), k14 l3 = some res → J X G (0, 0, some (.int res), n, h) (0, 0, n) h 14 [(0, .ref l0), (1, .int l1), (2, .int l2), (3, .int l3)] []) {k25 : Int32 → Int32 → Option Int32} (hk25 : ∀ (l4 : Int32) (l5 : Int32), k25 l4 l5 = some res → J X G (0, 0, some (.int res), n, h) (0, 0, n) h 25 [(0, .ref l0), (1, .int l1), (2, .int l2), (3, .int l3), (4, .int l4), (5, .int l5)] []) {l4 : Int32} {l5 : Int32} (hx : s_X8_isHeard_25 F k14 h l0 l1 l2 l3 k25 l4 l5 = some res) : J X G (0, 0, some (.int res), n, h) (0, 0, n) h 25 [(0, .ref l0), (1, .int l1), (2, .int l2), (3, .int l3), (4, .int l4), (5, .int l5)] [] := by
  unfold s_X8_isHeard_25 at hx
  refine jj_iload C 5 5 dX8_isHeard_25 rfl ?_
  refine jj_aload_n C 0 0 dX8_isHeard_27 rfl rfl ?_
  obtain ⟨v1, ev1, hx⟩ := ob hx
  refine jj_getR C fd_X8_22 dX8_isHeard_28 ev1 ?_
  refine jj_iload_n C 1 1 dX8_isHeard_31 rfl rfl ?_
  obtain ⟨v2, ev2, hx⟩ := ob hx
  refine jj_iald C dX8_isHeard_32 ev2 ?_
  refine jj_icmp_ge (tgt := 81) C dX8_isHeard_33 (by decide) (fun q33 => ?_) (fun q33 => ?_)
  · rw [if_pos q33] at hx
    refine jj_sub [0, 1, 2, 3, 4] rfl ?_
    exact t_X8_isHeard_81 C F hk14 hx
  · rw [if_neg q33] at hx
    refine jj_iload C 4 4 dX8_isHeard_36 rfl ?_
    refine jj_if_eq (tgt := 81) C dX8_isHeard_38 (by decide) (fun q38 => ?_) (fun q38 => ?_)
    · rw [if_pos q38] at hx
      refine jj_sub [0, 1, 2, 3, 4] rfl ?_
      exact t_X8_isHeard_81 C F hk14 hx
    · rw [if_neg q38] at hx
      refine jj_aload_n C 0 0 dX8_isHeard_41 rfl rfl ?_
      obtain ⟨v3, ev3, hx⟩ := ob hx
      refine jj_getR C fd_X8_40 dX8_isHeard_42 ev3 ?_
      refine jj_iload_n C 2 2 dX8_isHeard_45 rfl rfl ?_
      refine jj_aload_n C 0 0 dX8_isHeard_46 rfl rfl ?_
      obtain ⟨v4, ev4, hx⟩ := ob hx
      refine jj_getR C fd_X8_22 dX8_isHeard_47 ev4 ?_
      refine jj_iload_n C 1 1 dX8_isHeard_50 rfl rfl ?_
      obtain ⟨v5, ev5, hx⟩ := ob hx
      refine jj_iald C dX8_isHeard_51 ev5 ?_
      refine jj_isub C dX8_isHeard_52 ?_
      refine jj_iload C 5 5 dX8_isHeard_53 rfl ?_
      refine jj_iadd C dX8_isHeard_55 ?_
      obtain ⟨v6, ev6, hx⟩ := ob hx
      refine jj_iald C dX8_isHeard_56 ev6 ?_
      refine jj_aload_n C 0 0 dX8_isHeard_57 rfl rfl ?_
      refine jj_iload_n C 1 1 dX8_isHeard_58 rfl rfl ?_
      refine jj_iload_n C 3 3 dX8_isHeard_59 rfl rfl ?_
      refine jj_iload C 5 5 dX8_isHeard_60 rfl ?_
      obtain ⟨v7, ev7, hx⟩ := ob hx
      refine jj_callV C [.int l1, .int l3, .int l5] lk_X8_126 (mc_X8_letterOf X.2.1 G F n ev7) (o_X8_letterOf ev7) rfl rfl (Nat.le_of_ble_eq_true rfl) ⟨Nat.le_of_ble_eq_true rfl, Nat.le_of_ble_eq_true rfl⟩ ⟨Nat.zero_le _, Nat.zero_le _⟩ rfl dX8_isHeard_62 rfl rfl ?_
      refine jj_icmp_ne (tgt := 72) C dX8_isHeard_65 (by decide) (fun q65 => ?_) (fun q65 => ?_)
      · rw [if_neg q65] at hx
        refine jj_iconst (v := 0) C dX8_isHeard_72 (by decide) ?_
        refine jj_sub [0, 1, 2, 3, 5] rfl ?_
        exact t_X8_isHeard_73 C F hk14 hk25 hx
      · rw [if_pos q65] at hx
        refine jj_iconst (v := 1) C dX8_isHeard_68 (by decide) ?_
        refine jj_goto (tgt := 73) C dX8_isHeard_69 (by decide) ?_
        refine jj_sub [0, 1, 2, 3, 5] rfl ?_
        exact t_X8_isHeard_73 C F hk14 hk25 hx
theorem t_X8_isHeard_25 {X : pX} {G : pG} {n : Nat} {res : Int32} (C : Cx X G RX8 cX8_isHeard 6 (rmD 1 0 0) n (some (FieldType.boolean))) (F : Nat) {h : pH} {l0 : Nat} {l1 : Int32} {l2 : Int32} {l3 : Int32} {k14 : Int32 → Option Int32} (hk14 : ∀ (l3 : Int32), k14 l3 = some res → J X G (0, 0, some (.int res), n, h) (0, 0, n) h 14 [(0, .ref l0), (1, .int l1), (2, .int l2), (3, .int l3)] []) : ∀ (m : Nat) (l4 : Int32) (l5 : Int32), x_X8_isHeard_25 F k14 h l0 l1 l2 l3 m l4 l5 = some res → J X G (0, 0, some (.int res), n, h) (0, 0, n) h 25 [(0, .ref l0), (1, .int l1), (2, .int l2), (3, .int l3), (4, .int l4), (5, .int l5)] [] := by
  intro m
  induction m with
  | zero => intro l4 l5 hx; exact nomatch (show (none : Option Int32) = some res from hx)
  | succ m ih => intro l4 l5 hx; exact ts_X8_isHeard_25 C F hk14 ih hx
def s_X8_isHeard_14 (F : Nat)  (h : pH) (l0 : Nat) (l1 : Int32) (l2 : Int32) (k14 : Int32 → Option Int32) (l3 : Int32) : Option Int32 :=
  if 2 ≤ l3 then
    some (0 : Int32)
  else
    x_X8_isHeard_25 F k14 h l0 l1 l2 l3 F 1 0
def x_X8_isHeard_14 (F : Nat)  (h : pH) (l0 : Nat) (l1 : Int32) (l2 : Int32) : Nat → Int32 → Option Int32
  | 0, _ => none
  | m + 1, l3 => s_X8_isHeard_14 F h l0 l1 l2 (x_X8_isHeard_14 F h l0 l1 l2 m) l3
theorem ts_X8_isHeard_14 {X : pX} {G : pG} {n : Nat} {res : Int32} (C : Cx X G RX8 cX8_isHeard 6 (rmD 1 0 0) n (some (FieldType.boolean))) (F : Nat) {h : pH} {l0 : Nat} {l1 : Int32} {l2 : Int32} {k14 : Int32 → Option Int32} (hk14 : ∀ (l3 : Int32), k14 l3 = some res → J X G (0, 0, some (.int res), n, h) (0, 0, n) h 14 [(0, .ref l0), (1, .int l1), (2, .int l2), (3, .int l3)] []) {l3 : Int32} (hx : s_X8_isHeard_14 F h l0 l1 l2 k14 l3 = some res) : J X G (0, 0, some (.int res), n, h) (0, 0, n) h 14 [(0, .ref l0), (1, .int l1), (2, .int l2), (3, .int l3)] [] := by
  unfold s_X8_isHeard_14 at hx
  refine jj_iload_n C 3 3 dX8_isHeard_14 rfl rfl ?_
  refine jj_iconst (v := 2) C dX8_isHeard_15 (by decide) ?_
  refine jj_icmp_ge (tgt := 94) C dX8_isHeard_16 (by decide) (fun q16 => ?_) (fun q16 => ?_)
  · rw [if_pos q16] at hx
    refine jj_iconst (v := 0) C dX8_isHeard_94 (by decide) ?_
    obtain rfl := Option.some.inj hx
    exact jj_zret C (Or.inl rfl) dX8_isHeard_95 rfl
  · rw [if_neg q16] at hx
    refine jj_iconst (v := 1) C dX8_isHeard_19 (by decide) ?_
    refine jj_istore C 4 dX8_isHeard_20 rfl (by decide) ?_
    refine jj_iconst (v := 0) C dX8_isHeard_22 (by decide) ?_
    refine jj_istore C 5 dX8_isHeard_23 rfl (by decide) ?_
    refine jj_sub [2, 3, 4, 5, 1, 0] rfl ?_
    exact t_X8_isHeard_25 C F hk14 F _ _ hx
theorem t_X8_isHeard_14 {X : pX} {G : pG} {n : Nat} {res : Int32} (C : Cx X G RX8 cX8_isHeard 6 (rmD 1 0 0) n (some (FieldType.boolean))) (F : Nat) {h : pH} {l0 : Nat} {l1 : Int32} {l2 : Int32} : ∀ (m : Nat) (l3 : Int32), x_X8_isHeard_14 F h l0 l1 l2 m l3 = some res → J X G (0, 0, some (.int res), n, h) (0, 0, n) h 14 [(0, .ref l0), (1, .int l1), (2, .int l2), (3, .int l3)] [] := by
  intro m
  induction m with
  | zero => intro l3 hx; exact nomatch (show (none : Option Int32) = some res from hx)
  | succ m ih => intro l3 hx; exact ts_X8_isHeard_14 C F  ih hx
def x_X8_isHeard (F : Nat) (h : pH) (l0 : Nat) (l1 : Int32) (l2 : Int32) : Option Int32 :=
  (chk 8 h l0).bind fun _ =>
  (getR 8 h l0 8).bind fun v1 =>
  (aldI 0 h v1 l1).bind fun v2 =>
  if v2 ≤ l2 then
    x_X8_isHeard_14 F h l0 l1 l2 F 0
  else
    some (0 : Int32)
theorem o_X8_isHeard {F : Nat} {h : pH} {l0 : Nat} {l1 : Int32} {l2 : Int32} {res : Int32} (hx : x_X8_isHeard F h l0 l1 l2 = some res) : chk 8 h l0 = some () := by
  unfold x_X8_isHeard at hx
  obtain ⟨_, e, _⟩ := ob hx
  exact e
theorem mc_X8_isHeard (l : Launch) (G : pG) (F n : Nat) {h : pH} {l0 : Nat} {l1 : Int32} {l2 : Int32} {res : Int32} (hx : x_X8_isHeard F h l0 l1 l2 = some res) : MC l yX8_isHeard cX8_isHeard 6 (some (FieldType.boolean)) (rmD 1 0 0) G [.ref l0, .int l1, .int l2] n h (some (.int res)) n h := by
  unfold x_X8_isHeard at hx
  obtain ⟨_, _, hx⟩ := ob hx
  refine jj_entry RX8 rfl (by decide) (Nat.le_of_ble_eq_true rfl) (fun X _ _ C => ?_)
  show J X G (0, 0, some (.int res), n, h) (0, 0, n) h 0 [(0, .ref l0), (1, .int l1), (2, .int l2)] []
  refine jj_iload_n C 2 2 dX8_isHeard_0 rfl rfl ?_
  refine jj_aload_n C 0 0 dX8_isHeard_1 rfl rfl ?_
  obtain ⟨v1, ev1, hx⟩ := ob hx
  refine jj_getR C fd_X8_22 dX8_isHeard_2 ev1 ?_
  refine jj_iload_n C 1 1 dX8_isHeard_5 rfl rfl ?_
  obtain ⟨v2, ev2, hx⟩ := ob hx
  refine jj_iald C dX8_isHeard_6 ev2 ?_
  refine jj_icmp_ge (tgt := 12) C dX8_isHeard_7 (by decide) (fun q7 => ?_) (fun q7 => ?_)
  · rw [if_pos q7] at hx
    refine jj_iconst (v := 0) C dX8_isHeard_12 (by decide) ?_
    refine jj_istore_n C 3 dX8_isHeard_13 rfl rfl (by decide) ?_
    refine jj_sub [1, 2, 3, 0] rfl ?_
    exact t_X8_isHeard_14 C F F _ hx
  · rw [if_neg q7] at hx
    refine jj_iconst (v := 0) C dX8_isHeard_10 (by decide) ?_
    obtain rfl := Option.some.inj hx
    exact jj_zret C (Or.inl rfl) dX8_isHeard_11 rfl
def x_X8_heardBehind_29 (F : Nat) (k4 : Int32 → Int32 → Option Int32) (h : pH) (l0 : Nat) (l1 : Int32) (l3 : Int32) (s0 : Int32) (s1 : Int32) : Option Int32 :=
  k4 (s1 ||| s0) (l3 + 1)
theorem t_X8_heardBehind_29 {X : pX} {G : pG} {n : Nat} {res : Int32} (C : Cx X G RX8 cX8_heardBehind 4 (rmD 2 0 0) n (some (FieldType.int))) (F : Nat) {h : pH} {l0 : Nat} {l1 : Int32} {l3 : Int32} {s0 : Int32} {s1 : Int32} {k4 : Int32 → Int32 → Option Int32} (hk4 : ∀ (l2 : Int32) (l3 : Int32), k4 l2 l3 = some res → J X G (0, 0, some (.int res), n, h) (0, 0, n) h 4 [(0, .ref l0), (1, .int l1), (2, .int l2), (3, .int l3)] []) (hx : x_X8_heardBehind_29 F k4 h l0 l1 l3 s0 s1 = some res) : J X G (0, 0, some (.int res), n, h) (0, 0, n) h 29 [(0, .ref l0), (1, .int l1), (3, .int l3)] [.int s0, .int s1] := by
  unfold x_X8_heardBehind_29 at hx
  refine jj_ior C dX8_heardBehind_29 ?_
  refine jj_istore_n C 2 dX8_heardBehind_30 rfl rfl (by decide) ?_
  refine jj_iinc (v := l3 + 1) C 3 3 dX8_heardBehind_31 rfl rfl rfl (by decide) ?_
  refine jj_goto (tgt := 4) C dX8_heardBehind_34 (by decide) ?_
  refine jj_sub [2, 3, 1, 0] rfl ?_
  exact hk4 _ _ hx
def s_X8_heardBehind_4 (F : Nat)  (h : pH) (l0 : Nat) (l1 : Int32) (k4 : Int32 → Int32 → Option Int32) (l2 : Int32) (l3 : Int32) : Option Int32 :=
  (getI 8 h l0 5).bind fun v1 =>
  if v1 ≤ l3 then
    some l2
  else
    (x_X8_isHeard F h l0 l3 l1).bind fun v2 =>
    if v2 = 0 then
      x_X8_heardBehind_29 F k4 h l0 l1 l3 0 l2
    else
      x_X8_heardBehind_29 F k4 h l0 l1 l3 ((1 : Int32) <<< (l3 &&& 31)) l2
def x_X8_heardBehind_4 (F : Nat)  (h : pH) (l0 : Nat) (l1 : Int32) : Nat → Int32 → Int32 → Option Int32
  | 0, _, _ => none
  | m + 1, l2, l3 => s_X8_heardBehind_4 F h l0 l1 (x_X8_heardBehind_4 F h l0 l1 m) l2 l3
theorem ts_X8_heardBehind_4 {X : pX} {G : pG} {n : Nat} {res : Int32} (C : Cx X G RX8 cX8_heardBehind 4 (rmD 2 0 0) n (some (FieldType.int))) (F : Nat) {h : pH} {l0 : Nat} {l1 : Int32} {k4 : Int32 → Int32 → Option Int32} (hk4 : ∀ (l2 : Int32) (l3 : Int32), k4 l2 l3 = some res → J X G (0, 0, some (.int res), n, h) (0, 0, n) h 4 [(0, .ref l0), (1, .int l1), (2, .int l2), (3, .int l3)] []) {l2 : Int32} {l3 : Int32} (hx : s_X8_heardBehind_4 F h l0 l1 k4 l2 l3 = some res) : J X G (0, 0, some (.int res), n, h) (0, 0, n) h 4 [(0, .ref l0), (1, .int l1), (2, .int l2), (3, .int l3)] [] := by
  unfold s_X8_heardBehind_4 at hx
  refine jj_iload_n C 3 3 dX8_heardBehind_4 rfl rfl ?_
  refine jj_aload_n C 0 0 dX8_heardBehind_5 rfl rfl ?_
  obtain ⟨v1, ev1, hx⟩ := ob hx
  refine jj_getI C fd_X8_87 dX8_heardBehind_6 ev1 ?_
  refine jj_icmp_ge (tgt := 37) C dX8_heardBehind_9 (by decide) (fun q9 => ?_) (fun q9 => ?_)
  · rw [if_pos q9] at hx
    refine jj_iload_n C 2 2 dX8_heardBehind_37 rfl rfl ?_
    obtain rfl := Option.some.inj hx
    exact jj_iret C dX8_heardBehind_38 rfl
  · rw [if_neg q9] at hx
    refine jj_iload_n C 2 2 dX8_heardBehind_12 rfl rfl ?_
    refine jj_aload_n C 0 0 dX8_heardBehind_13 rfl rfl ?_
    refine jj_iload_n C 3 3 dX8_heardBehind_14 rfl rfl ?_
    refine jj_iload_n C 1 1 dX8_heardBehind_15 rfl rfl ?_
    obtain ⟨v2, ev2, hx⟩ := ob hx
    refine jj_callV C [.int l3, .int l1] lk_X8_130 (mc_X8_isHeard X.2.1 G F n ev2) (o_X8_isHeard ev2) rfl rfl (Nat.le_of_ble_eq_true rfl) ⟨Nat.le_of_ble_eq_true rfl, Nat.le_of_ble_eq_true rfl⟩ ⟨Nat.zero_le _, Nat.zero_le _⟩ rfl dX8_heardBehind_16 rfl rfl ?_
    refine jj_if_eq (tgt := 28) C dX8_heardBehind_19 (by decide) (fun q19 => ?_) (fun q19 => ?_)
    · rw [if_pos q19] at hx
      refine jj_iconst (v := 0) C dX8_heardBehind_28 (by decide) ?_
      refine jj_sub [0, 1, 3] rfl ?_
      exact t_X8_heardBehind_29 C F hk4 hx
    · rw [if_neg q19] at hx
      refine jj_iconst (v := 1) C dX8_heardBehind_22 (by decide) ?_
      refine jj_iload_n C 3 3 dX8_heardBehind_23 rfl rfl ?_
      refine jj_ishl C dX8_heardBehind_24 ?_
      refine jj_goto (tgt := 29) C dX8_heardBehind_25 (by decide) ?_
      refine jj_sub [0, 1, 3] rfl ?_
      exact t_X8_heardBehind_29 C F hk4 hx
theorem t_X8_heardBehind_4 {X : pX} {G : pG} {n : Nat} {res : Int32} (C : Cx X G RX8 cX8_heardBehind 4 (rmD 2 0 0) n (some (FieldType.int))) (F : Nat) {h : pH} {l0 : Nat} {l1 : Int32} : ∀ (m : Nat) (l2 : Int32) (l3 : Int32), x_X8_heardBehind_4 F h l0 l1 m l2 l3 = some res → J X G (0, 0, some (.int res), n, h) (0, 0, n) h 4 [(0, .ref l0), (1, .int l1), (2, .int l2), (3, .int l3)] [] := by
  intro m
  induction m with
  | zero => intro l2 l3 hx; exact nomatch (show (none : Option Int32) = some res from hx)
  | succ m ih => intro l2 l3 hx; exact ts_X8_heardBehind_4 C F  ih hx
def x_X8_heardBehind (F : Nat) (h : pH) (l0 : Nat) (l1 : Int32) : Option Int32 :=
  (chk 8 h l0).bind fun _ =>
  x_X8_heardBehind_4 F h l0 l1 F 0 0
theorem o_X8_heardBehind {F : Nat} {h : pH} {l0 : Nat} {l1 : Int32} {res : Int32} (hx : x_X8_heardBehind F h l0 l1 = some res) : chk 8 h l0 = some () := by
  unfold x_X8_heardBehind at hx
  obtain ⟨_, e, _⟩ := ob hx
  exact e
theorem mc_X8_heardBehind (l : Launch) (G : pG) (F n : Nat) {h : pH} {l0 : Nat} {l1 : Int32} {res : Int32} (hx : x_X8_heardBehind F h l0 l1 = some res) : MC l yX8_heardBehind cX8_heardBehind 4 (some (FieldType.int)) (rmD 2 0 0) G [.ref l0, .int l1] n h (some (.int res)) n h := by
  unfold x_X8_heardBehind at hx
  obtain ⟨_, _, hx⟩ := ob hx
  refine jj_entry RX8 rfl (by decide) (Nat.le_of_ble_eq_true rfl) (fun X _ _ C => ?_)
  show J X G (0, 0, some (.int res), n, h) (0, 0, n) h 0 [(0, .ref l0), (1, .int l1)] []
  refine jj_iconst (v := 0) C dX8_heardBehind_0 (by decide) ?_
  refine jj_istore_n C 2 dX8_heardBehind_1 rfl rfl (by decide) ?_
  refine jj_iconst (v := 0) C dX8_heardBehind_2 (by decide) ?_
  refine jj_istore_n C 3 dX8_heardBehind_3 rfl rfl (by decide) ?_
  refine jj_sub [2, 3, 1, 0] rfl ?_
  exact t_X8_heardBehind_4 C F F _ _ hx
def s_X8_findNext_101 (F : Nat) (k2 : pH → Int32 → Option pH) (l0 : Nat) (l1 : Int32) (l2 : Int32) (k101 : pH → Int32 → Option pH) (h : pH) (l4 : Int32) : Option pH :=
  if 3 ≤ l4 then
    k2 h (l1 + 1)
  else
    (getR 8 h l0 16).bind fun v1 =>
    (astI 0 h v1 l2 l4).bind fun v2 =>
    (getR 8 v2 l0 18).bind fun v3 =>
    (x_X8_endOf F v2 l0 (l2 + (1 : Int32))).bind fun v4 =>
    (astI 0 v2 v3 (((3 : Int32) * l1) + l4) v4).bind fun v5 =>
    (getR 8 v5 l0 19).bind fun v6 =>
    (x_X8_heardBehind F v5 l0 (l2 + (1 : Int32))).bind fun v7 =>
    (astI 0 v5 v6 (((3 : Int32) * l1) + l4) v7).bind fun v8 =>
    k101 v8 (l4 + 1)
def x_X8_findNext_101 (F : Nat) (k2 : pH → Int32 → Option pH) (l0 : Nat) (l1 : Int32) (l2 : Int32) : Nat → pH → Int32 → Option pH
  | 0, _, _ => none
  | m + 1, h, l4 => s_X8_findNext_101 F k2 l0 l1 l2 (x_X8_findNext_101 F k2 l0 l1 l2 m) h l4
theorem ts_X8_findNext_101 {X : pX} {G : pG} {n : Nat} {res : pH} (C : Cx X G RX8 cX8_findNext 5 (rmD 3 0 0) n none) (F : Nat) {l0 : Nat} {l1 : Int32} {l2 : Int32} {k2 : pH → Int32 → Option pH} (hk2 : ∀ (h : pH) (l1 : Int32), k2 h l1 = some res → J X G (0, 0, none, n, res) (0, 0, n) h 2 [(0, .ref l0), (1, .int l1)] []) {k101 : pH → Int32 → Option pH} (hk101 : ∀ (h : pH) (l4 : Int32), k101 h l4 = some res → J X G (0, 0, none, n, res) (0, 0, n) h 101 [(0, .ref l0), (1, .int l1), (2, .int l2), (4, .int l4)] []) {h : pH} {l4 : Int32} (hx : s_X8_findNext_101 F k2 l0 l1 l2 k101 h l4 = some res) : J X G (0, 0, none, n, res) (0, 0, n) h 101 [(0, .ref l0), (1, .int l1), (2, .int l2), (4, .int l4)] [] := by
  unfold s_X8_findNext_101 at hx
  refine jj_iload C 4 3 dX8_findNext_101 rfl ?_
  refine jj_iconst (v := 3) C dX8_findNext_103 (by decide) ?_
  refine jj_icmp_ge (tgt := 157) C dX8_findNext_104 (by decide) (fun q104 => ?_) (fun q104 => ?_)
  · rw [if_pos q104] at hx
    refine jj_iinc (v := l1 + 1) C 1 1 dX8_findNext_157 rfl rfl rfl (by decide) ?_
    refine jj_goto (tgt := 2) C dX8_findNext_160 (by decide) ?_
    refine jj_sub [1, 0] rfl ?_
    exact hk2 _ _ hx
  · rw [if_neg q104] at hx
    refine jj_aload_n C 0 0 dX8_findNext_107 rfl rfl ?_
    obtain ⟨v1, ev1, hx⟩ := ob hx
    refine jj_getR C fd_X8_40 dX8_findNext_108 ev1 ?_
    refine jj_iload_n C 2 2 dX8_findNext_111 rfl rfl ?_
    refine jj_iload C 4 3 dX8_findNext_112 rfl ?_
    obtain ⟨v2, ev2, hx⟩ := ob hx
    refine jj_iast C dX8_findNext_114 ev2 ?_
    refine jj_aload_n C 0 0 dX8_findNext_115 rfl rfl ?_
    obtain ⟨v3, ev3, hx⟩ := ob hx
    refine jj_getR C fd_X8_43 dX8_findNext_116 ev3 ?_
    refine jj_iconst (v := 3) C dX8_findNext_119 (by decide) ?_
    refine jj_iload_n C 1 1 dX8_findNext_120 rfl rfl ?_
    refine jj_imul C dX8_findNext_121 ?_
    refine jj_iload C 4 3 dX8_findNext_122 rfl ?_
    refine jj_iadd C dX8_findNext_124 ?_
    refine jj_aload_n C 0 0 dX8_findNext_125 rfl rfl ?_
    refine jj_iload_n C 2 2 dX8_findNext_126 rfl rfl ?_
    refine jj_iconst (v := 1) C dX8_findNext_127 (by decide) ?_
    refine jj_iadd C dX8_findNext_128 ?_
    obtain ⟨v4, ev4, hx⟩ := ob hx
    refine jj_callV C [.int (l2 + (1 : Int32))] lk_X8_169 (mc_X8_endOf X.2.1 G F n ev4) (o_X8_endOf ev4) rfl rfl (Nat.le_of_ble_eq_true rfl) ⟨Nat.le_of_ble_eq_true rfl, Nat.le_of_ble_eq_true rfl⟩ ⟨Nat.zero_le _, Nat.zero_le _⟩ rfl dX8_findNext_129 rfl rfl ?_
    obtain ⟨v5, ev5, hx⟩ := ob hx
    refine jj_iast C dX8_findNext_132 ev5 ?_
    refine jj_aload_n C 0 0 dX8_findNext_133 rfl rfl ?_
    obtain ⟨v6, ev6, hx⟩ := ob hx
    refine jj_getR C fd_X8_46 dX8_findNext_134 ev6 ?_
    refine jj_iconst (v := 3) C dX8_findNext_137 (by decide) ?_
    refine jj_iload_n C 1 1 dX8_findNext_138 rfl rfl ?_
    refine jj_imul C dX8_findNext_139 ?_
    refine jj_iload C 4 3 dX8_findNext_140 rfl ?_
    refine jj_iadd C dX8_findNext_142 ?_
    refine jj_aload_n C 0 0 dX8_findNext_143 rfl rfl ?_
    refine jj_iload_n C 2 2 dX8_findNext_144 rfl rfl ?_
    refine jj_iconst (v := 1) C dX8_findNext_145 (by decide) ?_
    refine jj_iadd C dX8_findNext_146 ?_
    obtain ⟨v7, ev7, hx⟩ := ob hx
    refine jj_callV C [.int (l2 + (1 : Int32))] lk_X8_148 (mc_X8_heardBehind X.2.1 G F n ev7) (o_X8_heardBehind ev7) rfl rfl (Nat.le_of_ble_eq_true rfl) ⟨Nat.le_of_ble_eq_true rfl, Nat.le_of_ble_eq_true rfl⟩ ⟨Nat.zero_le _, Nat.zero_le _⟩ rfl dX8_findNext_147 rfl rfl ?_
    obtain ⟨v8, ev8, hx⟩ := ob hx
    refine jj_iast C dX8_findNext_150 ev8 ?_
    refine jj_iinc (v := l4 + 1) C 4 3 dX8_findNext_151 rfl rfl rfl (by decide) ?_
    refine jj_goto (tgt := 101) C dX8_findNext_154 (by decide) ?_
    refine jj_sub [1, 2, 3, 0] rfl ?_
    exact hk101 _ _ hx
theorem t_X8_findNext_101 {X : pX} {G : pG} {n : Nat} {res : pH} (C : Cx X G RX8 cX8_findNext 5 (rmD 3 0 0) n none) (F : Nat) {l0 : Nat} {l1 : Int32} {l2 : Int32} {k2 : pH → Int32 → Option pH} (hk2 : ∀ (h : pH) (l1 : Int32), k2 h l1 = some res → J X G (0, 0, none, n, res) (0, 0, n) h 2 [(0, .ref l0), (1, .int l1)] []) : ∀ (m : Nat) (h : pH) (l4 : Int32), x_X8_findNext_101 F k2 l0 l1 l2 m h l4 = some res → J X G (0, 0, none, n, res) (0, 0, n) h 101 [(0, .ref l0), (1, .int l1), (2, .int l2), (4, .int l4)] [] := by
  intro m
  induction m with
  | zero => intro h l4 hx; exact nomatch (show (none : Option pH) = some res from hx)
  | succ m ih => intro h l4 hx; exact ts_X8_findNext_101 C F hk2 ih hx
def s_X8_findNext_73 (F : Nat) (k2 : pH → Int32 → Option pH) (l0 : Nat) (l1 : Int32) (l2 : Int32) (k73 : pH → Int32 → Int32 → Option pH) (h : pH) (l3 : Int32) (l4 : Int32) : Option pH :=
  if l4 < 0 then
    x_X8_findNext_101 F k2 l0 l1 l2 F h 0
  else
    (getR 8 h l0 16).bind fun v1 =>
    (astI 0 h v1 l4 (l3 - l3 / (3 : Int32) * (3 : Int32))).bind fun v2 =>
    k73 v2 (l3 / (3 : Int32)) (l4 + (-1))
def x_X8_findNext_73 (F : Nat) (k2 : pH → Int32 → Option pH) (l0 : Nat) (l1 : Int32) (l2 : Int32) : Nat → pH → Int32 → Int32 → Option pH
  | 0, _, _, _ => none
  | m + 1, h, l3, l4 => s_X8_findNext_73 F k2 l0 l1 l2 (x_X8_findNext_73 F k2 l0 l1 l2 m) h l3 l4
theorem ts_X8_findNext_73 {X : pX} {G : pG} {n : Nat} {res : pH} (C : Cx X G RX8 cX8_findNext 5 (rmD 3 0 0) n none) (F : Nat) {l0 : Nat} {l1 : Int32} {l2 : Int32} {k2 : pH → Int32 → Option pH} (hk2 : ∀ (h : pH) (l1 : Int32), k2 h l1 = some res → J X G (0, 0, none, n, res) (0, 0, n) h 2 [(0, .ref l0), (1, .int l1)] []) {k73 : pH → Int32 → Int32 → Option pH} (hk73 : ∀ (h : pH) (l3 : Int32) (l4 : Int32), k73 h l3 l4 = some res → J X G (0, 0, none, n, res) (0, 0, n) h 73 [(0, .ref l0), (1, .int l1), (2, .int l2), (3, .int l3), (4, .int l4)] []) {h : pH} {l3 : Int32} {l4 : Int32} (hx : s_X8_findNext_73 F k2 l0 l1 l2 k73 h l3 l4 = some res) : J X G (0, 0, none, n, res) (0, 0, n) h 73 [(0, .ref l0), (1, .int l1), (2, .int l2), (3, .int l3), (4, .int l4)] [] := by
  unfold s_X8_findNext_73 at hx
  refine jj_iload C 4 4 dX8_findNext_73 rfl ?_
  refine jj_if_lt (tgt := 98) C dX8_findNext_75 (by decide) (fun q75 => ?_) (fun q75 => ?_)
  · rw [if_pos q75] at hx
    refine jj_iconst (v := 0) C dX8_findNext_98 (by decide) ?_
    refine jj_istore C 4 dX8_findNext_99 rfl (by decide) ?_
    refine jj_sub [1, 2, 3, 0] rfl ?_
    exact t_X8_findNext_101 C F hk2 F _ _ hx
  · rw [if_neg q75] at hx
    refine jj_aload_n C 0 0 dX8_findNext_78 rfl rfl ?_
    obtain ⟨v1, ev1, hx⟩ := ob hx
    refine jj_getR C fd_X8_40 dX8_findNext_79 ev1 ?_
    refine jj_iload C 4 4 dX8_findNext_82 rfl ?_
    refine jj_iload_n C 3 3 dX8_findNext_84 rfl rfl ?_
    refine jj_iconst (v := 3) C dX8_findNext_85 (by decide) ?_
    refine jj_irem C dX8_findNext_86 (by decide) ?_
    obtain ⟨v2, ev2, hx⟩ := ob hx
    refine jj_iast C dX8_findNext_87 ev2 ?_
    refine jj_iload_n C 3 3 dX8_findNext_88 rfl rfl ?_
    refine jj_iconst (v := 3) C dX8_findNext_89 (by decide) ?_
    refine jj_idiv C dX8_findNext_90 (by decide) ?_
    refine jj_istore_n C 3 dX8_findNext_91 rfl rfl (by decide) ?_
    refine jj_iinc (v := l4 + (-1)) C 4 4 dX8_findNext_92 rfl rfl rfl (by decide) ?_
    refine jj_goto (tgt := 73) C dX8_findNext_95 (by decide) ?_
    refine jj_sub [2, 3, 4, 1, 0] rfl ?_
    exact hk73 _ _ _ hx
theorem t_X8_findNext_73 {X : pX} {G : pG} {n : Nat} {res : pH} (C : Cx X G RX8 cX8_findNext 5 (rmD 3 0 0) n none) (F : Nat) {l0 : Nat} {l1 : Int32} {l2 : Int32} {k2 : pH → Int32 → Option pH} (hk2 : ∀ (h : pH) (l1 : Int32), k2 h l1 = some res → J X G (0, 0, none, n, res) (0, 0, n) h 2 [(0, .ref l0), (1, .int l1)] []) : ∀ (m : Nat) (h : pH) (l3 : Int32) (l4 : Int32), x_X8_findNext_73 F k2 l0 l1 l2 m h l3 l4 = some res → J X G (0, 0, none, n, res) (0, 0, n) h 73 [(0, .ref l0), (1, .int l1), (2, .int l2), (3, .int l3), (4, .int l4)] [] := by
  intro m
  induction m with
  | zero => intro h l3 l4 hx; exact nomatch (show (none : Option pH) = some res from hx)
  | succ m ih => intro h l3 l4 hx; exact ts_X8_findNext_73 C F hk2 ih hx
def x_X8_findNext_66 (F : Nat) (k2 : pH → Int32 → Option pH) (h : pH) (l0 : Nat) (l1 : Int32) (l2 : Int32) (s0 : Int32) (s1 : Int32) : Option pH :=
  x_X8_findNext_73 F k2 l0 l1 l2 F h (s1 - s0) (l2 - (1 : Int32))
theorem t_X8_findNext_66 {X : pX} {G : pG} {n : Nat} {res : pH} (C : Cx X G RX8 cX8_findNext 5 (rmD 3 0 0) n none) (F : Nat) {h : pH} {l0 : Nat} {l1 : Int32} {l2 : Int32} {s0 : Int32} {s1 : Int32} {k2 : pH → Int32 → Option pH} (hk2 : ∀ (h : pH) (l1 : Int32), k2 h l1 = some res → J X G (0, 0, none, n, res) (0, 0, n) h 2 [(0, .ref l0), (1, .int l1)] []) (hx : x_X8_findNext_66 F k2 h l0 l1 l2 s0 s1 = some res) : J X G (0, 0, none, n, res) (0, 0, n) h 66 [(0, .ref l0), (1, .int l1), (2, .int l2)] [.int s0, .int s1] := by
  unfold x_X8_findNext_66 at hx
  refine jj_isub C dX8_findNext_66 ?_
  refine jj_istore_n C 3 dX8_findNext_67 rfl rfl (by decide) ?_
  refine jj_iload_n C 2 3 dX8_findNext_68 rfl rfl ?_
  refine jj_iconst (v := 1) C dX8_findNext_69 (by decide) ?_
  refine jj_isub C dX8_findNext_70 ?_
  refine jj_istore C 4 dX8_findNext_71 rfl (by decide) ?_
  refine jj_sub [2, 3, 4, 1, 0] rfl ?_
  exact t_X8_findNext_73 C F hk2 F _ _ _ hx
def x_X8_findNext_36 (F : Nat) (k2 : pH → Int32 → Option pH) (h : pH) (l0 : Nat) (l1 : Int32) (s0 : Int32) : Option pH :=
  if s0 = 0 then
    x_X8_findNext_66 F k2 h l0 l1 s0 0 l1
  else
    if s0 = 1 then
      x_X8_findNext_66 F k2 h l0 l1 s0 1 l1
    else
      if s0 = 2 then
        x_X8_findNext_66 F k2 h l0 l1 s0 4 l1
      else
        x_X8_findNext_66 F k2 h l0 l1 s0 13 l1
theorem t_X8_findNext_36 {X : pX} {G : pG} {n : Nat} {res : pH} (C : Cx X G RX8 cX8_findNext 5 (rmD 3 0 0) n none) (F : Nat) {h : pH} {l0 : Nat} {l1 : Int32} {s0 : Int32} {k2 : pH → Int32 → Option pH} (hk2 : ∀ (h : pH) (l1 : Int32), k2 h l1 = some res → J X G (0, 0, none, n, res) (0, 0, n) h 2 [(0, .ref l0), (1, .int l1)] []) (hx : x_X8_findNext_36 F k2 h l0 l1 s0 = some res) : J X G (0, 0, none, n, res) (0, 0, n) h 36 [(0, .ref l0), (1, .int l1)] [.int s0] := by
  unfold x_X8_findNext_36 at hx
  refine jj_istore_n C 2 dX8_findNext_36 rfl rfl (by decide) ?_
  refine jj_iload_n C 1 2 dX8_findNext_37 rfl rfl ?_
  refine jj_iload_n C 2 0 dX8_findNext_38 rfl rfl ?_
  refine jj_if_ne (tgt := 46) C dX8_findNext_39 (by decide) (fun q39 => ?_) (fun q39 => ?_)
  · rw [if_neg q39] at hx
    refine jj_iload_n C 2 0 dX8_findNext_46 rfl rfl ?_
    refine jj_iconst (v := 1) C dX8_findNext_47 (by decide) ?_
    refine jj_icmp_ne (tgt := 55) C dX8_findNext_48 (by decide) (fun q48 => ?_) (fun q48 => ?_)
    · rw [if_neg q48] at hx
      refine jj_iload_n C 2 0 dX8_findNext_55 rfl rfl ?_
      refine jj_iconst (v := 2) C dX8_findNext_56 (by decide) ?_
      refine jj_icmp_ne (tgt := 64) C dX8_findNext_57 (by decide) (fun q57 => ?_) (fun q57 => ?_)
      · rw [if_neg q57] at hx
        refine jj_bipush (v := 13) C dX8_findNext_64 (by decide) ?_
        refine jj_sub [1, 2, 0] rfl ?_
        exact t_X8_findNext_66 C F hk2 hx
      · rw [if_pos q57] at hx
        refine jj_iconst (v := 4) C dX8_findNext_60 (by decide) ?_
        refine jj_goto (tgt := 66) C dX8_findNext_61 (by decide) ?_
        refine jj_sub [1, 2, 0] rfl ?_
        exact t_X8_findNext_66 C F hk2 hx
    · rw [if_pos q48] at hx
      refine jj_iconst (v := 1) C dX8_findNext_51 (by decide) ?_
      refine jj_goto (tgt := 66) C dX8_findNext_52 (by decide) ?_
      refine jj_sub [1, 2, 0] rfl ?_
      exact t_X8_findNext_66 C F hk2 hx
  · rw [if_pos q39] at hx
    refine jj_iconst (v := 0) C dX8_findNext_42 (by decide) ?_
    refine jj_goto (tgt := 66) C dX8_findNext_43 (by decide) ?_
    refine jj_sub [1, 2, 0] rfl ?_
    exact t_X8_findNext_66 C F hk2 hx
def s_X8_findNext_2 (F : Nat)  (l0 : Nat) (k2 : pH → Int32 → Option pH) (h : pH) (l1 : Int32) : Option pH :=
  if 40 ≤ l1 then
    some h
  else
    if l1 = 0 then
      x_X8_findNext_36 F k2 h l0 l1 0
    else
      if 4 ≤ l1 then
        if 13 ≤ l1 then
          x_X8_findNext_36 F k2 h l0 l1 3
        else
          x_X8_findNext_36 F k2 h l0 l1 2
      else
        x_X8_findNext_36 F k2 h l0 l1 1
def x_X8_findNext_2 (F : Nat)  (l0 : Nat) : Nat → pH → Int32 → Option pH
  | 0, _, _ => none
  | m + 1, h, l1 => s_X8_findNext_2 F l0 (x_X8_findNext_2 F l0 m) h l1
theorem ts_X8_findNext_2 {X : pX} {G : pG} {n : Nat} {res : pH} (C : Cx X G RX8 cX8_findNext 5 (rmD 3 0 0) n none) (F : Nat) {l0 : Nat} {k2 : pH → Int32 → Option pH} (hk2 : ∀ (h : pH) (l1 : Int32), k2 h l1 = some res → J X G (0, 0, none, n, res) (0, 0, n) h 2 [(0, .ref l0), (1, .int l1)] []) {h : pH} {l1 : Int32} (hx : s_X8_findNext_2 F l0 k2 h l1 = some res) : J X G (0, 0, none, n, res) (0, 0, n) h 2 [(0, .ref l0), (1, .int l1)] [] := by
  unfold s_X8_findNext_2 at hx
  refine jj_iload_n C 1 1 dX8_findNext_2 rfl rfl ?_
  refine jj_bipush (v := 40) C dX8_findNext_3 (by decide) ?_
  refine jj_icmp_ge (tgt := 163) C dX8_findNext_5 (by decide) (fun q5 => ?_) (fun q5 => ?_)
  · rw [if_pos q5] at hx
    obtain rfl := Option.some.inj hx
    exact jj_vret C dX8_findNext_163 rfl
  · rw [if_neg q5] at hx
    refine jj_iload_n C 1 1 dX8_findNext_8 rfl rfl ?_
    refine jj_if_ne (tgt := 16) C dX8_findNext_9 (by decide) (fun q9 => ?_) (fun q9 => ?_)
    · rw [if_neg q9] at hx
      refine jj_iload_n C 1 1 dX8_findNext_16 rfl rfl ?_
      refine jj_iconst (v := 4) C dX8_findNext_17 (by decide) ?_
      refine jj_icmp_ge (tgt := 25) C dX8_findNext_18 (by decide) (fun q18 => ?_) (fun q18 => ?_)
      · rw [if_pos q18] at hx
        refine jj_iload_n C 1 1 dX8_findNext_25 rfl rfl ?_
        refine jj_bipush (v := 13) C dX8_findNext_26 (by decide) ?_
        refine jj_icmp_ge (tgt := 35) C dX8_findNext_28 (by decide) (fun q28 => ?_) (fun q28 => ?_)
        · rw [if_pos q28] at hx
          refine jj_iconst (v := 3) C dX8_findNext_35 (by decide) ?_
          exact t_X8_findNext_36 C F hk2 hx
        · rw [if_neg q28] at hx
          refine jj_iconst (v := 2) C dX8_findNext_31 (by decide) ?_
          refine jj_goto (tgt := 36) C dX8_findNext_32 (by decide) ?_
          exact t_X8_findNext_36 C F hk2 hx
      · rw [if_neg q18] at hx
        refine jj_iconst (v := 1) C dX8_findNext_21 (by decide) ?_
        refine jj_goto (tgt := 36) C dX8_findNext_22 (by decide) ?_
        exact t_X8_findNext_36 C F hk2 hx
    · rw [if_pos q9] at hx
      refine jj_iconst (v := 0) C dX8_findNext_12 (by decide) ?_
      refine jj_goto (tgt := 36) C dX8_findNext_13 (by decide) ?_
      exact t_X8_findNext_36 C F hk2 hx
theorem t_X8_findNext_2 {X : pX} {G : pG} {n : Nat} {res : pH} (C : Cx X G RX8 cX8_findNext 5 (rmD 3 0 0) n none) (F : Nat) {l0 : Nat} : ∀ (m : Nat) (h : pH) (l1 : Int32), x_X8_findNext_2 F l0 m h l1 = some res → J X G (0, 0, none, n, res) (0, 0, n) h 2 [(0, .ref l0), (1, .int l1)] [] := by
  intro m
  induction m with
  | zero => intro h l1 hx; exact nomatch (show (none : Option pH) = some res from hx)
  | succ m ih => intro h l1 hx; exact ts_X8_findNext_2 C F  ih hx
def x_X8_findNext (F : Nat) (h : pH) (l0 : Nat) : Option pH :=
  (chk 8 h l0).bind fun _ =>
  x_X8_findNext_2 F l0 F h 0
theorem o_X8_findNext {F : Nat} {h : pH} {l0 : Nat} {res : pH} (hx : x_X8_findNext F h l0 = some res) : chk 8 h l0 = some () := by
  unfold x_X8_findNext at hx
  obtain ⟨_, e, _⟩ := ob hx
  exact e
theorem mc_X8_findNext (l : Launch) (G : pG) (F n : Nat) {h : pH} {l0 : Nat} {res : pH} (hx : x_X8_findNext F h l0 = some res) : MC l yX8_findNext cX8_findNext 5 none (rmD 3 0 0) G [.ref l0] n h (none) n res := by
  unfold x_X8_findNext at hx
  obtain ⟨_, _, hx⟩ := ob hx
  refine jj_entry RX8 rfl (by decide) (Nat.le_of_ble_eq_true rfl) (fun X _ _ C => ?_)
  show J X G (0, 0, none, n, res) (0, 0, n) h 0 [(0, .ref l0)] []
  refine jj_iconst (v := 0) C dX8_findNext_0 (by decide) ?_
  refine jj_istore_n C 1 dX8_findNext_1 rfl rfl (by decide) ?_
  refine jj_sub [1, 0] rfl ?_
  exact t_X8_findNext_2 C F F _ _ hx
def x_X8_allWords (F : Nat) (h : pH) (l0 : Nat) : Option Int32 :=
  (chk 8 h l0).bind fun _ =>
  (getI 8 h l0 5).bind fun v1 =>
  some (((1 : Int32) <<< (v1 &&& 31)) - (1 : Int32))
theorem o_X8_allWords {F : Nat} {h : pH} {l0 : Nat} {res : Int32} (hx : x_X8_allWords F h l0 = some res) : chk 8 h l0 = some () := by
  unfold x_X8_allWords at hx
  obtain ⟨_, e, _⟩ := ob hx
  exact e
theorem mc_X8_allWords (l : Launch) (G : pG) (F n : Nat) {h : pH} {l0 : Nat} {res : Int32} (hx : x_X8_allWords F h l0 = some res) : MC l yX8_allWords cX8_allWords 1 (some (FieldType.int)) (rmD 0 0 0) G [.ref l0] n h (some (.int res)) n h := by
  unfold x_X8_allWords at hx
  obtain ⟨_, _, hx⟩ := ob hx
  refine jj_entry RX8 rfl (by decide) (Nat.le_of_ble_eq_true rfl) (fun X _ _ C => ?_)
  show J X G (0, 0, some (.int res), n, h) (0, 0, n) h 0 [(0, .ref l0)] []
  refine jj_iconst (v := 1) C dX8_allWords_0 (by decide) ?_
  refine jj_aload_n C 0 0 dX8_allWords_1 rfl rfl ?_
  obtain ⟨v1, ev1, hx⟩ := ob hx
  refine jj_getI C fd_X8_87 dX8_allWords_2 ev1 ?_
  refine jj_ishl C dX8_allWords_5 ?_
  refine jj_iconst (v := 1) C dX8_allWords_6 (by decide) ?_
  refine jj_isub C dX8_allWords_7 ?_
  obtain rfl := Option.some.inj hx
  exact jj_iret C dX8_allWords_8 rfl
def x_X8_behindLetter (F : Nat) (h : pH) (l0 : Nat) (l1 : Int32) (l2 : Int32) : Option Int32 :=
  (chk 8 h l0).bind fun _ =>
  (getR 8 h l0 18).bind fun v1 =>
  (aldI 0 h v1 (((3 : Int32) * (l1 / (16 : Int32))) + l2)).bind fun v2 =>
  (getR 8 h l0 19).bind fun v3 =>
  (aldI 0 h v3 (((3 : Int32) * (l1 / (16 : Int32))) + l2)).bind fun v4 =>
  some (((16 : Int32) * v2) + ((l1 - l1 / (16 : Int32) * (16 : Int32)) ||| v4))
theorem o_X8_behindLetter {F : Nat} {h : pH} {l0 : Nat} {l1 : Int32} {l2 : Int32} {res : Int32} (hx : x_X8_behindLetter F h l0 l1 l2 = some res) : chk 8 h l0 = some () := by
  unfold x_X8_behindLetter at hx
  obtain ⟨_, e, _⟩ := ob hx
  exact e
theorem mc_X8_behindLetter (l : Launch) (G : pG) (F n : Nat) {h : pH} {l0 : Nat} {l1 : Int32} {l2 : Int32} {res : Int32} (hx : x_X8_behindLetter F h l0 l1 l2 = some res) : MC l yX8_behindLetter cX8_behindLetter 4 (some (FieldType.int)) (rmD 0 0 0) G [.ref l0, .int l1, .int l2] n h (some (.int res)) n h := by
  unfold x_X8_behindLetter at hx
  obtain ⟨_, _, hx⟩ := ob hx
  refine jj_entry RX8 rfl (by decide) (Nat.le_of_ble_eq_true rfl) (fun X _ _ C => ?_)
  show J X G (0, 0, some (.int res), n, h) (0, 0, n) h 0 [(0, .ref l0), (1, .int l1), (2, .int l2)] []
  refine jj_iconst (v := 3) C dX8_behindLetter_0 (by decide) ?_
  refine jj_iload_n C 1 1 dX8_behindLetter_1 rfl rfl ?_
  refine jj_bipush (v := 16) C dX8_behindLetter_2 (by decide) ?_
  refine jj_idiv C dX8_behindLetter_4 (by decide) ?_
  refine jj_imul C dX8_behindLetter_5 ?_
  refine jj_iload_n C 2 2 dX8_behindLetter_6 rfl rfl ?_
  refine jj_iadd C dX8_behindLetter_7 ?_
  refine jj_istore_n C 3 dX8_behindLetter_8 rfl rfl (by decide) ?_
  refine jj_bipush (v := 16) C dX8_behindLetter_9 (by decide) ?_
  refine jj_aload_n C 0 1 dX8_behindLetter_11 rfl rfl ?_
  obtain ⟨v1, ev1, hx⟩ := ob hx
  refine jj_getR C fd_X8_43 dX8_behindLetter_12 ev1 ?_
  refine jj_iload_n C 3 0 dX8_behindLetter_15 rfl rfl ?_
  obtain ⟨v2, ev2, hx⟩ := ob hx
  refine jj_iald C dX8_behindLetter_16 ev2 ?_
  refine jj_imul C dX8_behindLetter_17 ?_
  refine jj_iload_n C 1 2 dX8_behindLetter_18 rfl rfl ?_
  refine jj_bipush (v := 16) C dX8_behindLetter_19 (by decide) ?_
  refine jj_irem C dX8_behindLetter_21 (by decide) ?_
  refine jj_aload_n C 0 1 dX8_behindLetter_22 rfl rfl ?_
  obtain ⟨v3, ev3, hx⟩ := ob hx
  refine jj_getR C fd_X8_46 dX8_behindLetter_23 ev3 ?_
  refine jj_iload_n C 3 0 dX8_behindLetter_26 rfl rfl ?_
  obtain ⟨v4, ev4, hx⟩ := ob hx
  refine jj_iald C dX8_behindLetter_27 ev4 ?_
  refine jj_ior C dX8_behindLetter_28 ?_
  refine jj_iadd C dX8_behindLetter_29 ?_
  obtain rfl := Option.some.inj hx
  exact jj_iret C dX8_behindLetter_30 rfl
def x_X8_findFar_35 (F : Nat) (k6 : pH → Int32 → Option pH) (h : pH) (l0 : Nat) (l1 : Int32) (s0 : Int32) (s1 : Int32) (s2 : Nat) : Option pH :=
  (astI 0 h s2 s1 s0).bind fun v1 =>
  k6 v1 (l1 + 1)
theorem t_X8_findFar_35 {X : pX} {G : pG} {n : Nat} {res : pH} (C : Cx X G RX8 cX8_findFar 5 (rmD 4 0 0) n none) (F : Nat) {h : pH} {l0 : Nat} {l1 : Int32} {s0 : Int32} {s1 : Int32} {s2 : Nat} {k6 : pH → Int32 → Option pH} (hk6 : ∀ (h : pH) (l1 : Int32), k6 h l1 = some res → J X G (0, 0, none, n, res) (0, 0, n) h 6 [(0, .ref l0), (1, .int l1)] []) (hx : x_X8_findFar_35 F k6 h l0 l1 s0 s1 s2 = some res) : J X G (0, 0, none, n, res) (0, 0, n) h 35 [(0, .ref l0), (1, .int l1)] [.int s0, .int s1, .ref s2] := by
  unfold x_X8_findFar_35 at hx
  obtain ⟨v1, ev1, hx⟩ := ob hx
  refine jj_iast C dX8_findFar_35 ev1 ?_
  refine jj_iinc (v := l1 + 1) C 1 1 dX8_findFar_36 rfl rfl rfl (by decide) ?_
  refine jj_goto (tgt := 6) C dX8_findFar_39 (by decide) ?_
  refine jj_sub [1, 0] rfl ?_
  exact hk6 _ _ hx
def x_X8_findFar_108 (F : Nat) (k46 : pH → Int32 → Int32 → Option pH) (k54 : pH → Int32 → Int32 → Option pH) (k64 : pH → Int32 → Int32 → Option pH) (h : pH) (l0 : Nat) (l1 : Int32) (l2 : Int32) (l3 : Int32) (l4 : Int32) : Option pH :=
  k64 h l1 (l4 + 1)
theorem t_X8_findFar_108 {X : pX} {G : pG} {n : Nat} {res : pH} (C : Cx X G RX8 cX8_findFar 5 (rmD 4 0 0) n none) (F : Nat) {h : pH} {l0 : Nat} {l1 : Int32} {l2 : Int32} {l3 : Int32} {l4 : Int32} {k46 : pH → Int32 → Int32 → Option pH} (hk46 : ∀ (h : pH) (l1 : Int32) (l2 : Int32), k46 h l1 l2 = some res → J X G (0, 0, none, n, res) (0, 0, n) h 46 [(0, .ref l0), (1, .int l1), (2, .int l2)] []) {k54 : pH → Int32 → Int32 → Option pH} (hk54 : ∀ (h : pH) (l1 : Int32) (l3 : Int32), k54 h l1 l3 = some res → J X G (0, 0, none, n, res) (0, 0, n) h 54 [(0, .ref l0), (1, .int l1), (2, .int l2), (3, .int l3)] []) {k64 : pH → Int32 → Int32 → Option pH} (hk64 : ∀ (h : pH) (l1 : Int32) (l4 : Int32), k64 h l1 l4 = some res → J X G (0, 0, none, n, res) (0, 0, n) h 64 [(0, .ref l0), (1, .int l1), (2, .int l2), (3, .int l3), (4, .int l4)] []) (hx : x_X8_findFar_108 F k46 k54 k64 h l0 l1 l2 l3 l4 = some res) : J X G (0, 0, none, n, res) (0, 0, n) h 108 [(0, .ref l0), (1, .int l1), (2, .int l2), (3, .int l3), (4, .int l4)] [] := by
  unfold x_X8_findFar_108 at hx
  refine jj_iinc (v := l4 + 1) C 4 4 dX8_findFar_108 rfl rfl rfl (by decide) ?_
  refine jj_goto (tgt := 64) C dX8_findFar_111 (by decide) ?_
  refine jj_sub [1, 2, 3, 4, 0] rfl ?_
  exact hk64 _ _ _ hx
def x_X8_findFar_114 (F : Nat) (k46 : pH → Int32 → Int32 → Option pH) (k54 : pH → Int32 → Int32 → Option pH) (h : pH) (l0 : Nat) (l1 : Int32) (l2 : Int32) (l3 : Int32) : Option pH :=
  k54 h l1 (l3 + 1)
theorem t_X8_findFar_114 {X : pX} {G : pG} {n : Nat} {res : pH} (C : Cx X G RX8 cX8_findFar 5 (rmD 4 0 0) n none) (F : Nat) {h : pH} {l0 : Nat} {l1 : Int32} {l2 : Int32} {l3 : Int32} {k46 : pH → Int32 → Int32 → Option pH} (hk46 : ∀ (h : pH) (l1 : Int32) (l2 : Int32), k46 h l1 l2 = some res → J X G (0, 0, none, n, res) (0, 0, n) h 46 [(0, .ref l0), (1, .int l1), (2, .int l2)] []) {k54 : pH → Int32 → Int32 → Option pH} (hk54 : ∀ (h : pH) (l1 : Int32) (l3 : Int32), k54 h l1 l3 = some res → J X G (0, 0, none, n, res) (0, 0, n) h 54 [(0, .ref l0), (1, .int l1), (2, .int l2), (3, .int l3)] []) (hx : x_X8_findFar_114 F k46 k54 h l0 l1 l2 l3 = some res) : J X G (0, 0, none, n, res) (0, 0, n) h 114 [(0, .ref l0), (1, .int l1), (2, .int l2), (3, .int l3)] [] := by
  unfold x_X8_findFar_114 at hx
  refine jj_iinc (v := l3 + 1) C 3 3 dX8_findFar_114 rfl rfl rfl (by decide) ?_
  refine jj_goto (tgt := 54) C dX8_findFar_117 (by decide) ?_
  refine jj_sub [1, 2, 3, 0] rfl ?_
  exact hk54 _ _ _ hx
def s_X8_findFar_64 (F : Nat) (k46 : pH → Int32 → Int32 → Option pH) (k54 : pH → Int32 → Int32 → Option pH) (l0 : Nat) (l2 : Int32) (l3 : Int32) (k64 : pH → Int32 → Int32 → Option pH) (h : pH) (l1 : Int32) (l4 : Int32) : Option pH :=
  if 3 ≤ l4 then
    x_X8_findFar_114 F k46 k54 h l0 l1 l2 l3
  else
    (getR 8 h l0 20).bind fun v1 =>
    (aldI 0 h v1 l3).bind fun v2 =>
    if v2 = ((-9)) then
      (getR 8 h l0 20).bind fun v3 =>
      (x_X8_behindLetter F h l0 l3 l4).bind fun v4 =>
      (aldI 0 h v3 v4).bind fun v5 =>
      if v5 = (l2 - (1 : Int32)) then
        (getR 8 h l0 20).bind fun v6 =>
        (astI 0 h v6 l3 l2).bind fun v7 =>
        x_X8_findFar_108 F k46 k54 k64 v7 l0 1 l2 l3 l4
      else
        x_X8_findFar_108 F k46 k54 k64 h l0 l1 l2 l3 l4
    else
      x_X8_findFar_114 F k46 k54 h l0 l1 l2 l3
def x_X8_findFar_64 (F : Nat) (k46 : pH → Int32 → Int32 → Option pH) (k54 : pH → Int32 → Int32 → Option pH) (l0 : Nat) (l2 : Int32) (l3 : Int32) : Nat → pH → Int32 → Int32 → Option pH
  | 0, _, _, _ => none
  | m + 1, h, l1, l4 => s_X8_findFar_64 F k46 k54 l0 l2 l3 (x_X8_findFar_64 F k46 k54 l0 l2 l3 m) h l1 l4
theorem ts_X8_findFar_64 {X : pX} {G : pG} {n : Nat} {res : pH} (C : Cx X G RX8 cX8_findFar 5 (rmD 4 0 0) n none) (F : Nat) {l0 : Nat} {l2 : Int32} {l3 : Int32} {k46 : pH → Int32 → Int32 → Option pH} (hk46 : ∀ (h : pH) (l1 : Int32) (l2 : Int32), k46 h l1 l2 = some res → J X G (0, 0, none, n, res) (0, 0, n) h 46 [(0, .ref l0), (1, .int l1), (2, .int l2)] []) {k54 : pH → Int32 → Int32 → Option pH} (hk54 : ∀ (h : pH) (l1 : Int32) (l3 : Int32), k54 h l1 l3 = some res → J X G (0, 0, none, n, res) (0, 0, n) h 54 [(0, .ref l0), (1, .int l1), (2, .int l2), (3, .int l3)] []) {k64 : pH → Int32 → Int32 → Option pH} (hk64 : ∀ (h : pH) (l1 : Int32) (l4 : Int32), k64 h l1 l4 = some res → J X G (0, 0, none, n, res) (0, 0, n) h 64 [(0, .ref l0), (1, .int l1), (2, .int l2), (3, .int l3), (4, .int l4)] []) {h : pH} {l1 : Int32} {l4 : Int32} (hx : s_X8_findFar_64 F k46 k54 l0 l2 l3 k64 h l1 l4 = some res) : J X G (0, 0, none, n, res) (0, 0, n) h 64 [(0, .ref l0), (1, .int l1), (2, .int l2), (3, .int l3), (4, .int l4)] [] := by
  unfold s_X8_findFar_64 at hx
  refine jj_iload C 4 4 dX8_findFar_64 rfl ?_
  refine jj_iconst (v := 3) C dX8_findFar_66 (by decide) ?_
  refine jj_icmp_ge (tgt := 114) C dX8_findFar_67 (by decide) (fun q67 => ?_) (fun q67 => ?_)
  · rw [if_pos q67] at hx
    refine jj_sub [0, 1, 2, 3] rfl ?_
    exact t_X8_findFar_114 C F hk46 hk54 hx
  · rw [if_neg q67] at hx
    refine jj_aload_n C 0 0 dX8_findFar_70 rfl rfl ?_
    obtain ⟨v1, ev1, hx⟩ := ob hx
    refine jj_getR C fd_X8_49 dX8_findFar_71 ev1 ?_
    refine jj_iload_n C 3 3 dX8_findFar_74 rfl rfl ?_
    obtain ⟨v2, ev2, hx⟩ := ob hx
    refine jj_iald C dX8_findFar_75 ev2 ?_
    refine jj_bipush (v := (-9)) C dX8_findFar_76 (by decide) ?_
    refine jj_icmp_ne (tgt := 114) C dX8_findFar_78 (by decide) (fun q78 => ?_) (fun q78 => ?_)
    · rw [if_neg q78] at hx
      refine jj_sub [0, 1, 2, 3] rfl ?_
      exact t_X8_findFar_114 C F hk46 hk54 hx
    · rw [if_pos q78] at hx
      refine jj_aload_n C 0 0 dX8_findFar_81 rfl rfl ?_
      obtain ⟨v3, ev3, hx⟩ := ob hx
      refine jj_getR C fd_X8_49 dX8_findFar_82 ev3 ?_
      refine jj_aload_n C 0 0 dX8_findFar_85 rfl rfl ?_
      refine jj_iload_n C 3 3 dX8_findFar_86 rfl rfl ?_
      refine jj_iload C 4 4 dX8_findFar_87 rfl ?_
      obtain ⟨v4, ev4, hx⟩ := ob hx
      refine jj_callV C [.int l3, .int l4] lk_X8_178 (mc_X8_behindLetter X.2.1 G F n ev4) (o_X8_behindLetter ev4) rfl rfl (Nat.le_of_ble_eq_true rfl) ⟨Nat.le_of_ble_eq_true rfl, Nat.le_of_ble_eq_true rfl⟩ ⟨Nat.zero_le _, Nat.zero_le _⟩ rfl dX8_findFar_89 rfl rfl ?_
      obtain ⟨v5, ev5, hx⟩ := ob hx
      refine jj_iald C dX8_findFar_92 ev5 ?_
      refine jj_iload_n C 2 2 dX8_findFar_93 rfl rfl ?_
      refine jj_iconst (v := 1) C dX8_findFar_94 (by decide) ?_
      refine jj_isub C dX8_findFar_95 ?_
      refine jj_icmp_ne (tgt := 108) C dX8_findFar_96 (by decide) (fun q96 => ?_) (fun q96 => ?_)
      · rw [if_neg q96] at hx
        exact t_X8_findFar_108 C F hk46 hk54 hk64 hx
      · rw [if_pos q96] at hx
        refine jj_aload_n C 0 0 dX8_findFar_99 rfl rfl ?_
        obtain ⟨v6, ev6, hx⟩ := ob hx
        refine jj_getR C fd_X8_49 dX8_findFar_100 ev6 ?_
        refine jj_iload_n C 3 3 dX8_findFar_103 rfl rfl ?_
        refine jj_iload_n C 2 2 dX8_findFar_104 rfl rfl ?_
        obtain ⟨v7, ev7, hx⟩ := ob hx
        refine jj_iast C dX8_findFar_105 ev7 ?_
        refine jj_iconst (v := 1) C dX8_findFar_106 (by decide) ?_
        refine jj_istore_n C 1 dX8_findFar_107 rfl rfl (by decide) ?_
        refine jj_sub [1, 0, 2, 3, 4] rfl ?_
        exact t_X8_findFar_108 C F hk46 hk54 hk64 hx
theorem t_X8_findFar_64 {X : pX} {G : pG} {n : Nat} {res : pH} (C : Cx X G RX8 cX8_findFar 5 (rmD 4 0 0) n none) (F : Nat) {l0 : Nat} {l2 : Int32} {l3 : Int32} {k46 : pH → Int32 → Int32 → Option pH} (hk46 : ∀ (h : pH) (l1 : Int32) (l2 : Int32), k46 h l1 l2 = some res → J X G (0, 0, none, n, res) (0, 0, n) h 46 [(0, .ref l0), (1, .int l1), (2, .int l2)] []) {k54 : pH → Int32 → Int32 → Option pH} (hk54 : ∀ (h : pH) (l1 : Int32) (l3 : Int32), k54 h l1 l3 = some res → J X G (0, 0, none, n, res) (0, 0, n) h 54 [(0, .ref l0), (1, .int l1), (2, .int l2), (3, .int l3)] []) : ∀ (m : Nat) (h : pH) (l1 : Int32) (l4 : Int32), x_X8_findFar_64 F k46 k54 l0 l2 l3 m h l1 l4 = some res → J X G (0, 0, none, n, res) (0, 0, n) h 64 [(0, .ref l0), (1, .int l1), (2, .int l2), (3, .int l3), (4, .int l4)] [] := by
  intro m
  induction m with
  | zero => intro h l1 l4 hx; exact nomatch (show (none : Option pH) = some res from hx)
  | succ m ih => intro h l1 l4 hx; exact ts_X8_findFar_64 C F hk46 hk54 ih hx
def s_X8_findFar_54 (F : Nat) (k46 : pH → Int32 → Int32 → Option pH) (l0 : Nat) (l2 : Int32) (k54 : pH → Int32 → Int32 → Option pH) (h : pH) (l1 : Int32) (l3 : Int32) : Option pH :=
  if 640 ≤ l3 then
    k46 h l1 (l2 + 1)
  else
    x_X8_findFar_64 F k46 k54 l0 l2 l3 F h l1 0
def x_X8_findFar_54 (F : Nat) (k46 : pH → Int32 → Int32 → Option pH) (l0 : Nat) (l2 : Int32) : Nat → pH → Int32 → Int32 → Option pH
  | 0, _, _, _ => none
  | m + 1, h, l1, l3 => s_X8_findFar_54 F k46 l0 l2 (x_X8_findFar_54 F k46 l0 l2 m) h l1 l3
theorem ts_X8_findFar_54 {X : pX} {G : pG} {n : Nat} {res : pH} (C : Cx X G RX8 cX8_findFar 5 (rmD 4 0 0) n none) (F : Nat) {l0 : Nat} {l2 : Int32} {k46 : pH → Int32 → Int32 → Option pH} (hk46 : ∀ (h : pH) (l1 : Int32) (l2 : Int32), k46 h l1 l2 = some res → J X G (0, 0, none, n, res) (0, 0, n) h 46 [(0, .ref l0), (1, .int l1), (2, .int l2)] []) {k54 : pH → Int32 → Int32 → Option pH} (hk54 : ∀ (h : pH) (l1 : Int32) (l3 : Int32), k54 h l1 l3 = some res → J X G (0, 0, none, n, res) (0, 0, n) h 54 [(0, .ref l0), (1, .int l1), (2, .int l2), (3, .int l3)] []) {h : pH} {l1 : Int32} {l3 : Int32} (hx : s_X8_findFar_54 F k46 l0 l2 k54 h l1 l3 = some res) : J X G (0, 0, none, n, res) (0, 0, n) h 54 [(0, .ref l0), (1, .int l1), (2, .int l2), (3, .int l3)] [] := by
  unfold s_X8_findFar_54 at hx
  refine jj_iload_n C 3 3 dX8_findFar_54 rfl rfl ?_
  refine jj_sipush (v := 640) C dX8_findFar_55 (by decide) ?_
  refine jj_icmp_ge (tgt := 120) C dX8_findFar_58 (by decide) (fun q58 => ?_) (fun q58 => ?_)
  · rw [if_pos q58] at hx
    refine jj_iinc (v := l2 + 1) C 2 2 dX8_findFar_120 rfl rfl rfl (by decide) ?_
    refine jj_goto (tgt := 46) C dX8_findFar_123 (by decide) ?_
    refine jj_sub [1, 2, 0] rfl ?_
    exact hk46 _ _ _ hx
  · rw [if_neg q58] at hx
    refine jj_iconst (v := 0) C dX8_findFar_61 (by decide) ?_
    refine jj_istore C 4 dX8_findFar_62 rfl (by decide) ?_
    refine jj_sub [1, 2, 3, 4, 0] rfl ?_
    exact t_X8_findFar_64 C F hk46 hk54 F _ _ _ hx
theorem t_X8_findFar_54 {X : pX} {G : pG} {n : Nat} {res : pH} (C : Cx X G RX8 cX8_findFar 5 (rmD 4 0 0) n none) (F : Nat) {l0 : Nat} {l2 : Int32} {k46 : pH → Int32 → Int32 → Option pH} (hk46 : ∀ (h : pH) (l1 : Int32) (l2 : Int32), k46 h l1 l2 = some res → J X G (0, 0, none, n, res) (0, 0, n) h 46 [(0, .ref l0), (1, .int l1), (2, .int l2)] []) : ∀ (m : Nat) (h : pH) (l1 : Int32) (l3 : Int32), x_X8_findFar_54 F k46 l0 l2 m h l1 l3 = some res → J X G (0, 0, none, n, res) (0, 0, n) h 54 [(0, .ref l0), (1, .int l1), (2, .int l2), (3, .int l3)] [] := by
  intro m
  induction m with
  | zero => intro h l1 l3 hx; exact nomatch (show (none : Option pH) = some res from hx)
  | succ m ih => intro h l1 l3 hx; exact ts_X8_findFar_54 C F hk46 ih hx
def s_X8_findFar_46 (F : Nat)  (l0 : Nat) (k46 : pH → Int32 → Int32 → Option pH) (h : pH) (l1 : Int32) (l2 : Int32) : Option pH :=
  if l1 = 0 then
    some h
  else
    x_X8_findFar_54 F k46 l0 l2 F h 0 0
def x_X8_findFar_46 (F : Nat)  (l0 : Nat) : Nat → pH → Int32 → Int32 → Option pH
  | 0, _, _, _ => none
  | m + 1, h, l1, l2 => s_X8_findFar_46 F l0 (x_X8_findFar_46 F l0 m) h l1 l2
theorem ts_X8_findFar_46 {X : pX} {G : pG} {n : Nat} {res : pH} (C : Cx X G RX8 cX8_findFar 5 (rmD 4 0 0) n none) (F : Nat) {l0 : Nat} {k46 : pH → Int32 → Int32 → Option pH} (hk46 : ∀ (h : pH) (l1 : Int32) (l2 : Int32), k46 h l1 l2 = some res → J X G (0, 0, none, n, res) (0, 0, n) h 46 [(0, .ref l0), (1, .int l1), (2, .int l2)] []) {h : pH} {l1 : Int32} {l2 : Int32} (hx : s_X8_findFar_46 F l0 k46 h l1 l2 = some res) : J X G (0, 0, none, n, res) (0, 0, n) h 46 [(0, .ref l0), (1, .int l1), (2, .int l2)] [] := by
  unfold s_X8_findFar_46 at hx
  refine jj_iload_n C 1 1 dX8_findFar_46 rfl rfl ?_
  refine jj_if_eq (tgt := 126) C dX8_findFar_47 (by decide) (fun q47 => ?_) (fun q47 => ?_)
  · rw [if_pos q47] at hx
    obtain rfl := Option.some.inj hx
    exact jj_vret C dX8_findFar_126 rfl
  · rw [if_neg q47] at hx
    refine jj_iconst (v := 0) C dX8_findFar_50 (by decide) ?_
    refine jj_istore_n C 1 dX8_findFar_51 rfl rfl (by decide) ?_
    refine jj_iconst (v := 0) C dX8_findFar_52 (by decide) ?_
    refine jj_istore_n C 3 dX8_findFar_53 rfl rfl (by decide) ?_
    refine jj_sub [2, 1, 3, 0] rfl ?_
    exact t_X8_findFar_54 C F hk46 F _ _ _ hx
theorem t_X8_findFar_46 {X : pX} {G : pG} {n : Nat} {res : pH} (C : Cx X G RX8 cX8_findFar 5 (rmD 4 0 0) n none) (F : Nat) {l0 : Nat} : ∀ (m : Nat) (h : pH) (l1 : Int32) (l2 : Int32), x_X8_findFar_46 F l0 m h l1 l2 = some res → J X G (0, 0, none, n, res) (0, 0, n) h 46 [(0, .ref l0), (1, .int l1), (2, .int l2)] [] := by
  intro m
  induction m with
  | zero => intro h l1 l2 hx; exact nomatch (show (none : Option pH) = some res from hx)
  | succ m ih => intro h l1 l2 hx; exact ts_X8_findFar_46 C F  ih hx
def s_X8_findFar_6 (F : Nat)  (l0 : Nat) (k6 : pH → Int32 → Option pH) (h : pH) (l1 : Int32) : Option pH :=
  if 640 ≤ l1 then
    x_X8_findFar_46 F l0 F h 1 1
  else
    (getR 8 h l0 20).bind fun v1 =>
    (x_X8_allWords F h l0).bind fun v2 =>
    if (l1 - l1 / (16 : Int32) * (16 : Int32)) = v2 then
      x_X8_findFar_35 F k6 h l0 l1 0 l1 v1
    else
      x_X8_findFar_35 F k6 h l0 l1 ((-9)) l1 v1
def x_X8_findFar_6 (F : Nat)  (l0 : Nat) : Nat → pH → Int32 → Option pH
  | 0, _, _ => none
  | m + 1, h, l1 => s_X8_findFar_6 F l0 (x_X8_findFar_6 F l0 m) h l1
theorem ts_X8_findFar_6 {X : pX} {G : pG} {n : Nat} {res : pH} (C : Cx X G RX8 cX8_findFar 5 (rmD 4 0 0) n none) (F : Nat) {l0 : Nat} {k6 : pH → Int32 → Option pH} (hk6 : ∀ (h : pH) (l1 : Int32), k6 h l1 = some res → J X G (0, 0, none, n, res) (0, 0, n) h 6 [(0, .ref l0), (1, .int l1)] []) {h : pH} {l1 : Int32} (hx : s_X8_findFar_6 F l0 k6 h l1 = some res) : J X G (0, 0, none, n, res) (0, 0, n) h 6 [(0, .ref l0), (1, .int l1)] [] := by
  unfold s_X8_findFar_6 at hx
  refine jj_iload_n C 1 1 dX8_findFar_6 rfl rfl ?_
  refine jj_sipush (v := 640) C dX8_findFar_7 (by decide) ?_
  refine jj_icmp_ge (tgt := 42) C dX8_findFar_10 (by decide) (fun q10 => ?_) (fun q10 => ?_)
  · rw [if_pos q10] at hx
    refine jj_iconst (v := 1) C dX8_findFar_42 (by decide) ?_
    refine jj_istore_n C 1 dX8_findFar_43 rfl rfl (by decide) ?_
    refine jj_iconst (v := 1) C dX8_findFar_44 (by decide) ?_
    refine jj_istore_n C 2 dX8_findFar_45 rfl rfl (by decide) ?_
    refine jj_sub [2, 1, 0] rfl ?_
    exact t_X8_findFar_46 C F F _ _ _ hx
  · rw [if_neg q10] at hx
    refine jj_aload_n C 0 0 dX8_findFar_13 rfl rfl ?_
    obtain ⟨v1, ev1, hx⟩ := ob hx
    refine jj_getR C fd_X8_49 dX8_findFar_14 ev1 ?_
    refine jj_iload_n C 1 1 dX8_findFar_17 rfl rfl ?_
    refine jj_iload_n C 1 1 dX8_findFar_18 rfl rfl ?_
    refine jj_bipush (v := 16) C dX8_findFar_19 (by decide) ?_
    refine jj_irem C dX8_findFar_21 (by decide) ?_
    refine jj_aload_n C 0 0 dX8_findFar_22 rfl rfl ?_
    obtain ⟨v2, ev2, hx⟩ := ob hx
    refine jj_callV C [] lk_X8_175 (mc_X8_allWords X.2.1 G F n ev2) (o_X8_allWords ev2) rfl rfl (Nat.le_of_ble_eq_true rfl) ⟨Nat.le_of_ble_eq_true rfl, Nat.le_of_ble_eq_true rfl⟩ ⟨Nat.zero_le _, Nat.zero_le _⟩ rfl dX8_findFar_23 rfl rfl ?_
    refine jj_icmp_ne (tgt := 33) C dX8_findFar_26 (by decide) (fun q26 => ?_) (fun q26 => ?_)
    · rw [if_neg q26] at hx
      refine jj_bipush (v := (-9)) C dX8_findFar_33 (by decide) ?_
      exact t_X8_findFar_35 C F hk6 hx
    · rw [if_pos q26] at hx
      refine jj_iconst (v := 0) C dX8_findFar_29 (by decide) ?_
      refine jj_goto (tgt := 35) C dX8_findFar_30 (by decide) ?_
      exact t_X8_findFar_35 C F hk6 hx
theorem t_X8_findFar_6 {X : pX} {G : pG} {n : Nat} {res : pH} (C : Cx X G RX8 cX8_findFar 5 (rmD 4 0 0) n none) (F : Nat) {l0 : Nat} : ∀ (m : Nat) (h : pH) (l1 : Int32), x_X8_findFar_6 F l0 m h l1 = some res → J X G (0, 0, none, n, res) (0, 0, n) h 6 [(0, .ref l0), (1, .int l1)] [] := by
  intro m
  induction m with
  | zero => intro h l1 hx; exact nomatch (show (none : Option pH) = some res from hx)
  | succ m ih => intro h l1 hx; exact ts_X8_findFar_6 C F  ih hx
def x_X8_findFar (F : Nat) (h : pH) (l0 : Nat) : Option pH :=
  (chk 8 h l0).bind fun _ =>
  (x_X8_findNext F h l0).bind fun v1 =>
  x_X8_findFar_6 F l0 F v1 0
theorem o_X8_findFar {F : Nat} {h : pH} {l0 : Nat} {res : pH} (hx : x_X8_findFar F h l0 = some res) : chk 8 h l0 = some () := by
  unfold x_X8_findFar at hx
  obtain ⟨_, e, _⟩ := ob hx
  exact e
theorem mc_X8_findFar (l : Launch) (G : pG) (F n : Nat) {h : pH} {l0 : Nat} {res : pH} (hx : x_X8_findFar F h l0 = some res) : MC l yX8_findFar cX8_findFar 5 none (rmD 4 0 0) G [.ref l0] n h (none) n res := by
  unfold x_X8_findFar at hx
  obtain ⟨_, _, hx⟩ := ob hx
  refine jj_entry RX8 rfl (by decide) (Nat.le_of_ble_eq_true rfl) (fun X _ _ C => ?_)
  show J X G (0, 0, none, n, res) (0, 0, n) h 0 [(0, .ref l0)] []
  refine jj_aload_n C 0 0 dX8_findFar_0 rfl rfl ?_
  obtain ⟨v1, ev1, hx⟩ := ob hx
  refine jj_callV C [] lk_X8_172 (mc_X8_findNext X.2.1 G F n ev1) (o_X8_findNext ev1) rfl rfl (Nat.le_of_ble_eq_true rfl) ⟨Nat.le_of_ble_eq_true rfl, Nat.le_of_ble_eq_true rfl⟩ ⟨Nat.zero_le _, Nat.zero_le _⟩ rfl dX8_findFar_1 rfl rfl ?_
  refine jj_iconst (v := 0) C dX8_findFar_4 (by decide) ?_
  refine jj_istore_n C 1 dX8_findFar_5 rfl rfl (by decide) ?_
  refine jj_sub [1, 0] rfl ?_
  exact t_X8_findFar_6 C F F _ _ hx
def s_X8_all_67 (F : Nat) (k59 : Int32 → Int32 → Int32 → Option (Int32 × pH)) (h : pH) (l0 : Nat) (l1 : Int32) (l2 : Int32) (l4 : Int32) (k67 : Int32 → Option (Int32 × pH)) (l3 : Int32) : Option (Int32 × pH) :=
  (getR 8 h l0 20).bind fun v1 =>
  (x_X8_behindLetter F h l0 l2 l3).bind fun v2 =>
  (aldI 0 h v1 v2).bind fun v3 =>
  (getR 8 h l0 20).bind fun v4 =>
  (aldI 0 h v4 l2).bind fun v5 =>
  if v3 = (v5 - (1 : Int32)) then
    (x_X8_behindLetter F h l0 l2 l3).bind fun v6 =>
    k59 v6 l3 (l4 + 1)
  else
    k67 (l3 + 1)
def x_X8_all_67 (F : Nat) (k59 : Int32 → Int32 → Int32 → Option (Int32 × pH)) (h : pH) (l0 : Nat) (l1 : Int32) (l2 : Int32) (l4 : Int32) : Nat → Int32 → Option (Int32 × pH)
  | 0, _ => none
  | m + 1, l3 => s_X8_all_67 F k59 h l0 l1 l2 l4 (x_X8_all_67 F k59 h l0 l1 l2 l4 m) l3
theorem ts_X8_all_67 {X : pX} {G : pG} {n : Nat} {res : (Int32 × pH)} (C : Cx X G RX8 cX8_all 5 (rmD 5 0 0) n (some (FieldType.int))) (F : Nat) {h : pH} {l0 : Nat} {l1 : Int32} {l2 : Int32} {l4 : Int32} {k59 : Int32 → Int32 → Int32 → Option (Int32 × pH)} (hk59 : ∀ (l2 : Int32) (l3 : Int32) (l4 : Int32), k59 l2 l3 l4 = some res → J X G (0, 0, some (.int res.1), n, res.2) (0, 0, n) h 59 [(0, .ref l0), (1, .int l1), (2, .int l2), (3, .int l3), (4, .int l4)] []) {k67 : Int32 → Option (Int32 × pH)} (hk67 : ∀ (l3 : Int32), k67 l3 = some res → J X G (0, 0, some (.int res.1), n, res.2) (0, 0, n) h 67 [(0, .ref l0), (1, .int l1), (2, .int l2), (3, .int l3), (4, .int l4)] []) {l3 : Int32} (hx : s_X8_all_67 F k59 h l0 l1 l2 l4 k67 l3 = some res) : J X G (0, 0, some (.int res.1), n, res.2) (0, 0, n) h 67 [(0, .ref l0), (1, .int l1), (2, .int l2), (3, .int l3), (4, .int l4)] [] := by
  unfold s_X8_all_67 at hx
  refine jj_aload_n C 0 0 dX8_all_67 rfl rfl ?_
  obtain ⟨v1, ev1, hx⟩ := ob hx
  refine jj_getR C fd_X8_49 dX8_all_68 ev1 ?_
  refine jj_aload_n C 0 0 dX8_all_71 rfl rfl ?_
  refine jj_iload_n C 2 2 dX8_all_72 rfl rfl ?_
  refine jj_iload_n C 3 3 dX8_all_73 rfl rfl ?_
  obtain ⟨v2, ev2, hx⟩ := ob hx
  refine jj_callV C [.int l2, .int l3] lk_X8_178 (mc_X8_behindLetter X.2.1 G F n ev2) (o_X8_behindLetter ev2) rfl rfl (Nat.le_of_ble_eq_true rfl) ⟨Nat.le_of_ble_eq_true rfl, Nat.le_of_ble_eq_true rfl⟩ ⟨Nat.zero_le _, Nat.zero_le _⟩ rfl dX8_all_74 rfl rfl ?_
  obtain ⟨v3, ev3, hx⟩ := ob hx
  refine jj_iald C dX8_all_77 ev3 ?_
  refine jj_aload_n C 0 0 dX8_all_78 rfl rfl ?_
  obtain ⟨v4, ev4, hx⟩ := ob hx
  refine jj_getR C fd_X8_49 dX8_all_79 ev4 ?_
  refine jj_iload_n C 2 2 dX8_all_82 rfl rfl ?_
  obtain ⟨v5, ev5, hx⟩ := ob hx
  refine jj_iald C dX8_all_83 ev5 ?_
  refine jj_iconst (v := 1) C dX8_all_84 (by decide) ?_
  refine jj_isub C dX8_all_85 ?_
  refine jj_icmp_eq (tgt := 95) C dX8_all_86 (by decide) (fun q86 => ?_) (fun q86 => ?_)
  · rw [if_pos q86] at hx
    refine jj_aload_n C 0 0 dX8_all_95 rfl rfl ?_
    refine jj_iload_n C 2 2 dX8_all_96 rfl rfl ?_
    refine jj_iload_n C 3 3 dX8_all_97 rfl rfl ?_
    obtain ⟨v6, ev6, hx⟩ := ob hx
    refine jj_callV C [.int l2, .int l3] lk_X8_178 (mc_X8_behindLetter X.2.1 G F n ev6) (o_X8_behindLetter ev6) rfl rfl (Nat.le_of_ble_eq_true rfl) ⟨Nat.le_of_ble_eq_true rfl, Nat.le_of_ble_eq_true rfl⟩ ⟨Nat.zero_le _, Nat.zero_le _⟩ rfl dX8_all_98 rfl rfl ?_
    refine jj_istore_n C 2 dX8_all_101 rfl rfl (by decide) ?_
    refine jj_iinc (v := l4 + 1) C 4 4 dX8_all_102 rfl rfl rfl (by decide) ?_
    refine jj_goto (tgt := 59) C dX8_all_105 (by decide) ?_
    refine jj_sub [2, 3, 1, 4, 0] rfl ?_
    exact hk59 _ _ _ hx
  · rw [if_neg q86] at hx
    refine jj_iinc (v := l3 + 1) C 3 3 dX8_all_89 rfl rfl rfl (by decide) ?_
    refine jj_goto (tgt := 67) C dX8_all_92 (by decide) ?_
    refine jj_sub [1, 2, 3, 0, 4] rfl ?_
    exact hk67 _ hx
theorem t_X8_all_67 {X : pX} {G : pG} {n : Nat} {res : (Int32 × pH)} (C : Cx X G RX8 cX8_all 5 (rmD 5 0 0) n (some (FieldType.int))) (F : Nat) {h : pH} {l0 : Nat} {l1 : Int32} {l2 : Int32} {l4 : Int32} {k59 : Int32 → Int32 → Int32 → Option (Int32 × pH)} (hk59 : ∀ (l2 : Int32) (l3 : Int32) (l4 : Int32), k59 l2 l3 l4 = some res → J X G (0, 0, some (.int res.1), n, res.2) (0, 0, n) h 59 [(0, .ref l0), (1, .int l1), (2, .int l2), (3, .int l3), (4, .int l4)] []) : ∀ (m : Nat) (l3 : Int32), x_X8_all_67 F k59 h l0 l1 l2 l4 m l3 = some res → J X G (0, 0, some (.int res.1), n, res.2) (0, 0, n) h 67 [(0, .ref l0), (1, .int l1), (2, .int l2), (3, .int l3), (4, .int l4)] [] := by
  intro m
  induction m with
  | zero => intro l3 hx; exact nomatch (show (none : Option (Int32 × pH)) = some res from hx)
  | succ m ih => intro l3 hx; exact ts_X8_all_67 C F hk59 ih hx
def s_X8_all_59 (F : Nat)  (h : pH) (l0 : Nat) (l1 : Int32) (k59 : Int32 → Int32 → Int32 → Option (Int32 × pH)) (l2 : Int32) (l3 : Int32) (l4 : Int32) : Option (Int32 × pH) :=
  if l1 < l4 then
    some (l3, h)
  else
    x_X8_all_67 F k59 h l0 l1 l2 l4 F 0
def x_X8_all_59 (F : Nat)  (h : pH) (l0 : Nat) (l1 : Int32) : Nat → Int32 → Int32 → Int32 → Option (Int32 × pH)
  | 0, _, _, _ => none
  | m + 1, l2, l3, l4 => s_X8_all_59 F h l0 l1 (x_X8_all_59 F h l0 l1 m) l2 l3 l4
theorem ts_X8_all_59 {X : pX} {G : pG} {n : Nat} {res : (Int32 × pH)} (C : Cx X G RX8 cX8_all 5 (rmD 5 0 0) n (some (FieldType.int))) (F : Nat) {h : pH} {l0 : Nat} {l1 : Int32} {k59 : Int32 → Int32 → Int32 → Option (Int32 × pH)} (hk59 : ∀ (l2 : Int32) (l3 : Int32) (l4 : Int32), k59 l2 l3 l4 = some res → J X G (0, 0, some (.int res.1), n, res.2) (0, 0, n) h 59 [(0, .ref l0), (1, .int l1), (2, .int l2), (3, .int l3), (4, .int l4)] []) {l2 : Int32} {l3 : Int32} {l4 : Int32} (hx : s_X8_all_59 F h l0 l1 k59 l2 l3 l4 = some res) : J X G (0, 0, some (.int res.1), n, res.2) (0, 0, n) h 59 [(0, .ref l0), (1, .int l1), (2, .int l2), (3, .int l3), (4, .int l4)] [] := by
  unfold s_X8_all_59 at hx
  refine jj_iload C 4 4 dX8_all_59 rfl ?_
  refine jj_iload_n C 1 1 dX8_all_61 rfl rfl ?_
  refine jj_icmp_gt (tgt := 108) C dX8_all_62 (by decide) (fun q62 => ?_) (fun q62 => ?_)
  · rw [if_pos q62] at hx
    refine jj_iload_n C 3 3 dX8_all_108 rfl rfl ?_
    obtain rfl := Option.some.inj hx
    exact jj_iret C dX8_all_109 rfl
  · rw [if_neg q62] at hx
    refine jj_iconst (v := 0) C dX8_all_65 (by decide) ?_
    refine jj_istore_n C 3 dX8_all_66 rfl rfl (by decide) ?_
    refine jj_sub [1, 2, 3, 0, 4] rfl ?_
    exact t_X8_all_67 C F hk59 F _ hx
theorem t_X8_all_59 {X : pX} {G : pG} {n : Nat} {res : (Int32 × pH)} (C : Cx X G RX8 cX8_all 5 (rmD 5 0 0) n (some (FieldType.int))) (F : Nat) {h : pH} {l0 : Nat} {l1 : Int32} : ∀ (m : Nat) (l2 : Int32) (l3 : Int32) (l4 : Int32), x_X8_all_59 F h l0 l1 m l2 l3 l4 = some res → J X G (0, 0, some (.int res.1), n, res.2) (0, 0, n) h 59 [(0, .ref l0), (1, .int l1), (2, .int l2), (3, .int l3), (4, .int l4)] [] := by
  intro m
  induction m with
  | zero => intro l2 l3 l4 hx; exact nomatch (show (none : Option (Int32 × pH)) = some res from hx)
  | succ m ih => intro l2 l3 l4 hx; exact ts_X8_all_59 C F  ih hx
def x_X8_all (F : Nat) (h : pH) (l0 : Nat) (l1 : Int32) : Option (Int32 × pH) :=
  (chk 8 h l0).bind fun _ =>
  (x_X8_within F h l1 ((-1)) 15).bind fun v1 =>
  if v1 = 0 then
    some ((-2 : Int32), h)
  else
    (getI 8 h l0 5).bind fun v2 =>
    if v2 = 0 then
      some ((-3 : Int32), h)
    else
      (x_X8_findFar F h l0).bind fun v3 =>
      if l1 = ((-1)) then
        (getR 8 v3 l0 20).bind fun v6 =>
        (aldI 0 v3 v6 0).bind fun v7 =>
        some (v7, v3)
      else
        (getR 8 v3 l0 20).bind fun v4 =>
        (aldI 0 v3 v4 0).bind fun v5 =>
        if l1 < v5 then
          x_X8_all_59 F v3 l0 l1 F 0 0 0
        else
          some ((-9 : Int32), v3)
theorem o_X8_all {F : Nat} {h : pH} {l0 : Nat} {l1 : Int32} {res : (Int32 × pH)} (hx : x_X8_all F h l0 l1 = some res) : chk 8 h l0 = some () := by
  unfold x_X8_all at hx
  obtain ⟨_, e, _⟩ := ob hx
  exact e
theorem mc_X8_all (l : Launch) (G : pG) (F n : Nat) {h : pH} {l0 : Nat} {l1 : Int32} {res : (Int32 × pH)} (hx : x_X8_all F h l0 l1 = some res) : MC l yX8_all cX8_all 5 (some (FieldType.int)) (rmD 5 0 0) G [.ref l0, .int l1] n h (some (.int res.1)) n res.2 := by
  unfold x_X8_all at hx
  obtain ⟨_, _, hx⟩ := ob hx
  refine jj_entry RX8 rfl (by decide) (Nat.le_of_ble_eq_true rfl) (fun X _ _ C => ?_)
  show J X G (0, 0, some (.int res.1), n, res.2) (0, 0, n) h 0 [(0, .ref l0), (1, .int l1)] []
  refine jj_iload_n C 1 1 dX8_all_0 rfl rfl ?_
  refine jj_iconst (v := (-1)) C dX8_all_1 (by decide) ?_
  refine jj_bipush (v := 15) C dX8_all_2 (by decide) ?_
  obtain ⟨v1, ev1, hx⟩ := ob hx
  refine jj_callS C [.int l1, .int ((-1)), .int 15] lk_X8_83 (mc_X8_within X.2.1 G F n ev1) rfl rfl (Nat.le_of_ble_eq_true rfl) ⟨Nat.le_of_ble_eq_true rfl, Nat.le_of_ble_eq_true rfl⟩ ⟨Nat.zero_le _, Nat.zero_le _⟩ rfl dX8_all_4 rfl rfl ?_
  refine jj_if_ne (tgt := 13) C dX8_all_7 (by decide) (fun q7 => ?_) (fun q7 => ?_)
  · rw [if_neg q7] at hx
    refine jj_aload_n C 0 0 dX8_all_13 rfl rfl ?_
    obtain ⟨v2, ev2, hx⟩ := ob hx
    refine jj_getI C fd_X8_87 dX8_all_14 ev2 ?_
    refine jj_if_ne (tgt := 23) C dX8_all_17 (by decide) (fun q17 => ?_) (fun q17 => ?_)
    · rw [if_neg q17] at hx
      refine jj_aload_n C 0 0 dX8_all_23 rfl rfl ?_
      obtain ⟨v3, ev3, hx⟩ := ob hx
      refine jj_callV C [] lk_X8_182 (mc_X8_findFar X.2.1 G F n ev3) (o_X8_findFar ev3) rfl rfl (Nat.le_of_ble_eq_true rfl) ⟨Nat.le_of_ble_eq_true rfl, Nat.le_of_ble_eq_true rfl⟩ ⟨Nat.zero_le _, Nat.zero_le _⟩ rfl dX8_all_24 rfl rfl ?_
      refine jj_iload_n C 1 1 dX8_all_27 rfl rfl ?_
      refine jj_iconst (v := (-1)) C dX8_all_28 (by decide) ?_
      refine jj_icmp_ne (tgt := 39) C dX8_all_29 (by decide) (fun q29 => ?_) (fun q29 => ?_)
      · rw [if_neg q29] at hx
        refine jj_iload_n C 1 1 dX8_all_39 rfl rfl ?_
        refine jj_aload_n C 0 0 dX8_all_40 rfl rfl ?_
        obtain ⟨v4, ev4, hx⟩ := ob hx
        refine jj_getR C fd_X8_49 dX8_all_41 ev4 ?_
        refine jj_iconst (v := 0) C dX8_all_44 (by decide) ?_
        obtain ⟨v5, ev5, hx⟩ := ob hx
        refine jj_iald C dX8_all_45 ev5 ?_
        refine jj_icmp_lt (tgt := 52) C dX8_all_46 (by decide) (fun q46 => ?_) (fun q46 => ?_)
        · rw [if_pos q46] at hx
          refine jj_iconst (v := 0) C dX8_all_52 (by decide) ?_
          refine jj_istore_n C 2 dX8_all_53 rfl rfl (by decide) ?_
          refine jj_iconst (v := 0) C dX8_all_54 (by decide) ?_
          refine jj_istore_n C 3 dX8_all_55 rfl rfl (by decide) ?_
          refine jj_iconst (v := 0) C dX8_all_56 (by decide) ?_
          refine jj_istore C 4 dX8_all_57 rfl (by decide) ?_
          refine jj_sub [3, 4, 2, 1, 0] rfl ?_
          exact t_X8_all_59 C F F _ _ _ hx
        · rw [if_neg q46] at hx
          refine jj_bipush (v := (-9)) C dX8_all_49 (by decide) ?_
          obtain rfl := Option.some.inj hx
          exact jj_iret C dX8_all_51 rfl
      · rw [if_pos q29] at hx
        refine jj_aload_n C 0 0 dX8_all_32 rfl rfl ?_
        obtain ⟨v6, ev6, hx⟩ := ob hx
        refine jj_getR C fd_X8_49 dX8_all_33 ev6 ?_
        refine jj_iconst (v := 0) C dX8_all_36 (by decide) ?_
        obtain ⟨v7, ev7, hx⟩ := ob hx
        refine jj_iald C dX8_all_37 ev7 ?_
        obtain rfl := Option.some.inj hx
        exact jj_iret C dX8_all_38 rfl
    · rw [if_pos q17] at hx
      refine jj_bipush (v := (-3)) C dX8_all_20 (by decide) ?_
      obtain rfl := Option.some.inj hx
      exact jj_iret C dX8_all_22 rfl
  · rw [if_pos q7] at hx
    refine jj_bipush (v := (-2)) C dX8_all_10 (by decide) ?_
    obtain rfl := Option.some.inj hx
    exact jj_iret C dX8_all_12 rfl
def x_X8_timesHeard_27 (F : Nat) (k4 : Int32 → Int32 → Option Int32) (h : pH) (l0 : Nat) (l1 : Int32) (l3 : Int32) (s0 : Int32) (s1 : Int32) : Option Int32 :=
  k4 (s1 + s0) (l3 + 1)
theorem t_X8_timesHeard_27 {X : pX} {G : pG} {n : Nat} {res : Int32} (C : Cx X G RX8 cX8_timesHeard 4 (rmD 2 0 0) n (some (FieldType.int))) (F : Nat) {h : pH} {l0 : Nat} {l1 : Int32} {l3 : Int32} {s0 : Int32} {s1 : Int32} {k4 : Int32 → Int32 → Option Int32} (hk4 : ∀ (l2 : Int32) (l3 : Int32), k4 l2 l3 = some res → J X G (0, 0, some (.int res), n, h) (0, 0, n) h 4 [(0, .ref l0), (1, .int l1), (2, .int l2), (3, .int l3)] []) (hx : x_X8_timesHeard_27 F k4 h l0 l1 l3 s0 s1 = some res) : J X G (0, 0, some (.int res), n, h) (0, 0, n) h 27 [(0, .ref l0), (1, .int l1), (3, .int l3)] [.int s0, .int s1] := by
  unfold x_X8_timesHeard_27 at hx
  refine jj_iadd C dX8_timesHeard_27 ?_
  refine jj_istore_n C 2 dX8_timesHeard_28 rfl rfl (by decide) ?_
  refine jj_iinc (v := l3 + 1) C 3 3 dX8_timesHeard_29 rfl rfl rfl (by decide) ?_
  refine jj_goto (tgt := 4) C dX8_timesHeard_32 (by decide) ?_
  refine jj_sub [2, 3, 1, 0] rfl ?_
  exact hk4 _ _ hx
def s_X8_timesHeard_4 (F : Nat)  (h : pH) (l0 : Nat) (l1 : Int32) (k4 : Int32 → Int32 → Option Int32) (l2 : Int32) (l3 : Int32) : Option Int32 :=
  (getI 8 h l0 17).bind fun v1 =>
  if v1 < l3 then
    some l2
  else
    (x_X8_isHeard F h l0 l1 l3).bind fun v2 =>
    if v2 = 0 then
      x_X8_timesHeard_27 F k4 h l0 l1 l3 0 l2
    else
      x_X8_timesHeard_27 F k4 h l0 l1 l3 1 l2
def x_X8_timesHeard_4 (F : Nat)  (h : pH) (l0 : Nat) (l1 : Int32) : Nat → Int32 → Int32 → Option Int32
  | 0, _, _ => none
  | m + 1, l2, l3 => s_X8_timesHeard_4 F h l0 l1 (x_X8_timesHeard_4 F h l0 l1 m) l2 l3
theorem ts_X8_timesHeard_4 {X : pX} {G : pG} {n : Nat} {res : Int32} (C : Cx X G RX8 cX8_timesHeard 4 (rmD 2 0 0) n (some (FieldType.int))) (F : Nat) {h : pH} {l0 : Nat} {l1 : Int32} {k4 : Int32 → Int32 → Option Int32} (hk4 : ∀ (l2 : Int32) (l3 : Int32), k4 l2 l3 = some res → J X G (0, 0, some (.int res), n, h) (0, 0, n) h 4 [(0, .ref l0), (1, .int l1), (2, .int l2), (3, .int l3)] []) {l2 : Int32} {l3 : Int32} (hx : s_X8_timesHeard_4 F h l0 l1 k4 l2 l3 = some res) : J X G (0, 0, some (.int res), n, h) (0, 0, n) h 4 [(0, .ref l0), (1, .int l1), (2, .int l2), (3, .int l3)] [] := by
  unfold s_X8_timesHeard_4 at hx
  refine jj_iload_n C 3 3 dX8_timesHeard_4 rfl rfl ?_
  refine jj_aload_n C 0 0 dX8_timesHeard_5 rfl rfl ?_
  obtain ⟨v1, ev1, hx⟩ := ob hx
  refine jj_getI C fd_X8_133 dX8_timesHeard_6 ev1 ?_
  refine jj_icmp_gt (tgt := 35) C dX8_timesHeard_9 (by decide) (fun q9 => ?_) (fun q9 => ?_)
  · rw [if_pos q9] at hx
    refine jj_iload_n C 2 2 dX8_timesHeard_35 rfl rfl ?_
    obtain rfl := Option.some.inj hx
    exact jj_iret C dX8_timesHeard_36 rfl
  · rw [if_neg q9] at hx
    refine jj_iload_n C 2 2 dX8_timesHeard_12 rfl rfl ?_
    refine jj_aload_n C 0 0 dX8_timesHeard_13 rfl rfl ?_
    refine jj_iload_n C 1 1 dX8_timesHeard_14 rfl rfl ?_
    refine jj_iload_n C 3 3 dX8_timesHeard_15 rfl rfl ?_
    obtain ⟨v2, ev2, hx⟩ := ob hx
    refine jj_callV C [.int l1, .int l3] lk_X8_130 (mc_X8_isHeard X.2.1 G F n ev2) (o_X8_isHeard ev2) rfl rfl (Nat.le_of_ble_eq_true rfl) ⟨Nat.le_of_ble_eq_true rfl, Nat.le_of_ble_eq_true rfl⟩ ⟨Nat.zero_le _, Nat.zero_le _⟩ rfl dX8_timesHeard_16 rfl rfl ?_
    refine jj_if_eq (tgt := 26) C dX8_timesHeard_19 (by decide) (fun q19 => ?_) (fun q19 => ?_)
    · rw [if_pos q19] at hx
      refine jj_iconst (v := 0) C dX8_timesHeard_26 (by decide) ?_
      refine jj_sub [0, 1, 3] rfl ?_
      exact t_X8_timesHeard_27 C F hk4 hx
    · rw [if_neg q19] at hx
      refine jj_iconst (v := 1) C dX8_timesHeard_22 (by decide) ?_
      refine jj_goto (tgt := 27) C dX8_timesHeard_23 (by decide) ?_
      refine jj_sub [0, 1, 3] rfl ?_
      exact t_X8_timesHeard_27 C F hk4 hx
theorem t_X8_timesHeard_4 {X : pX} {G : pG} {n : Nat} {res : Int32} (C : Cx X G RX8 cX8_timesHeard 4 (rmD 2 0 0) n (some (FieldType.int))) (F : Nat) {h : pH} {l0 : Nat} {l1 : Int32} : ∀ (m : Nat) (l2 : Int32) (l3 : Int32), x_X8_timesHeard_4 F h l0 l1 m l2 l3 = some res → J X G (0, 0, some (.int res), n, h) (0, 0, n) h 4 [(0, .ref l0), (1, .int l1), (2, .int l2), (3, .int l3)] [] := by
  intro m
  induction m with
  | zero => intro l2 l3 hx; exact nomatch (show (none : Option Int32) = some res from hx)
  | succ m ih => intro l2 l3 hx; exact ts_X8_timesHeard_4 C F  ih hx
def x_X8_timesHeard (F : Nat) (h : pH) (l0 : Nat) (l1 : Int32) : Option Int32 :=
  (chk 8 h l0).bind fun _ =>
  x_X8_timesHeard_4 F h l0 l1 F 0 1
theorem o_X8_timesHeard {F : Nat} {h : pH} {l0 : Nat} {l1 : Int32} {res : Int32} (hx : x_X8_timesHeard F h l0 l1 = some res) : chk 8 h l0 = some () := by
  unfold x_X8_timesHeard at hx
  obtain ⟨_, e, _⟩ := ob hx
  exact e
theorem mc_X8_timesHeard (l : Launch) (G : pG) (F n : Nat) {h : pH} {l0 : Nat} {l1 : Int32} {res : Int32} (hx : x_X8_timesHeard F h l0 l1 = some res) : MC l yX8_timesHeard cX8_timesHeard 4 (some (FieldType.int)) (rmD 2 0 0) G [.ref l0, .int l1] n h (some (.int res)) n h := by
  unfold x_X8_timesHeard at hx
  obtain ⟨_, _, hx⟩ := ob hx
  refine jj_entry RX8 rfl (by decide) (Nat.le_of_ble_eq_true rfl) (fun X _ _ C => ?_)
  show J X G (0, 0, some (.int res), n, h) (0, 0, n) h 0 [(0, .ref l0), (1, .int l1)] []
  refine jj_iconst (v := 0) C dX8_timesHeard_0 (by decide) ?_
  refine jj_istore_n C 2 dX8_timesHeard_1 rfl rfl (by decide) ?_
  refine jj_iconst (v := 1) C dX8_timesHeard_2 (by decide) ?_
  refine jj_istore_n C 3 dX8_timesHeard_3 rfl rfl (by decide) ?_
  refine jj_sub [2, 3, 1, 0] rfl ?_
  exact t_X8_timesHeard_4 C F F _ _ hx
def s_X8_allHeard_4 (F : Nat)  (h : pH) (l0 : Nat) (k4 : Int32 → Int32 → Option Int32) (l1 : Int32) (l2 : Int32) : Option Int32 :=
  (getI 8 h l0 5).bind fun v1 =>
  if v1 ≤ l2 then
    some l1
  else
    (x_X8_timesHeard F h l0 l2).bind fun v2 =>
    k4 (l1 + v2) (l2 + 1)
def x_X8_allHeard_4 (F : Nat)  (h : pH) (l0 : Nat) : Nat → Int32 → Int32 → Option Int32
  | 0, _, _ => none
  | m + 1, l1, l2 => s_X8_allHeard_4 F h l0 (x_X8_allHeard_4 F h l0 m) l1 l2
theorem ts_X8_allHeard_4 {X : pX} {G : pG} {n : Nat} {res : Int32} (C : Cx X G RX8 cX8_allHeard 3 (rmD 3 0 0) n (some (FieldType.int))) (F : Nat) {h : pH} {l0 : Nat} {k4 : Int32 → Int32 → Option Int32} (hk4 : ∀ (l1 : Int32) (l2 : Int32), k4 l1 l2 = some res → J X G (0, 0, some (.int res), n, h) (0, 0, n) h 4 [(0, .ref l0), (1, .int l1), (2, .int l2)] []) {l1 : Int32} {l2 : Int32} (hx : s_X8_allHeard_4 F h l0 k4 l1 l2 = some res) : J X G (0, 0, some (.int res), n, h) (0, 0, n) h 4 [(0, .ref l0), (1, .int l1), (2, .int l2)] [] := by
  unfold s_X8_allHeard_4 at hx
  refine jj_iload_n C 2 2 dX8_allHeard_4 rfl rfl ?_
  refine jj_aload_n C 0 0 dX8_allHeard_5 rfl rfl ?_
  obtain ⟨v1, ev1, hx⟩ := ob hx
  refine jj_getI C fd_X8_87 dX8_allHeard_6 ev1 ?_
  refine jj_icmp_ge (tgt := 26) C dX8_allHeard_9 (by decide) (fun q9 => ?_) (fun q9 => ?_)
  · rw [if_pos q9] at hx
    refine jj_iload_n C 1 1 dX8_allHeard_26 rfl rfl ?_
    obtain rfl := Option.some.inj hx
    exact jj_iret C dX8_allHeard_27 rfl
  · rw [if_neg q9] at hx
    refine jj_iload_n C 1 1 dX8_allHeard_12 rfl rfl ?_
    refine jj_aload_n C 0 0 dX8_allHeard_13 rfl rfl ?_
    refine jj_iload_n C 2 2 dX8_allHeard_14 rfl rfl ?_
    obtain ⟨v2, ev2, hx⟩ := ob hx
    refine jj_callV C [.int l2] lk_X8_136 (mc_X8_timesHeard X.2.1 G F n ev2) (o_X8_timesHeard ev2) rfl rfl (Nat.le_of_ble_eq_true rfl) ⟨Nat.le_of_ble_eq_true rfl, Nat.le_of_ble_eq_true rfl⟩ ⟨Nat.zero_le _, Nat.zero_le _⟩ rfl dX8_allHeard_15 rfl rfl ?_
    refine jj_iadd C dX8_allHeard_18 ?_
    refine jj_istore_n C 1 dX8_allHeard_19 rfl rfl (by decide) ?_
    refine jj_iinc (v := l2 + 1) C 2 2 dX8_allHeard_20 rfl rfl rfl (by decide) ?_
    refine jj_goto (tgt := 4) C dX8_allHeard_23 (by decide) ?_
    refine jj_sub [2, 1, 0] rfl ?_
    exact hk4 _ _ hx
theorem t_X8_allHeard_4 {X : pX} {G : pG} {n : Nat} {res : Int32} (C : Cx X G RX8 cX8_allHeard 3 (rmD 3 0 0) n (some (FieldType.int))) (F : Nat) {h : pH} {l0 : Nat} : ∀ (m : Nat) (l1 : Int32) (l2 : Int32), x_X8_allHeard_4 F h l0 m l1 l2 = some res → J X G (0, 0, some (.int res), n, h) (0, 0, n) h 4 [(0, .ref l0), (1, .int l1), (2, .int l2)] [] := by
  intro m
  induction m with
  | zero => intro l1 l2 hx; exact nomatch (show (none : Option Int32) = some res from hx)
  | succ m ih => intro l1 l2 hx; exact ts_X8_allHeard_4 C F  ih hx
def x_X8_allHeard (F : Nat) (h : pH) (l0 : Nat) : Option Int32 :=
  (chk 8 h l0).bind fun _ =>
  x_X8_allHeard_4 F h l0 F 0 0
theorem o_X8_allHeard {F : Nat} {h : pH} {l0 : Nat} {res : Int32} (hx : x_X8_allHeard F h l0 = some res) : chk 8 h l0 = some () := by
  unfold x_X8_allHeard at hx
  obtain ⟨_, e, _⟩ := ob hx
  exact e
theorem mc_X8_allHeard (l : Launch) (G : pG) (F n : Nat) {h : pH} {l0 : Nat} {res : Int32} (hx : x_X8_allHeard F h l0 = some res) : MC l yX8_allHeard cX8_allHeard 3 (some (FieldType.int)) (rmD 3 0 0) G [.ref l0] n h (some (.int res)) n h := by
  unfold x_X8_allHeard at hx
  obtain ⟨_, _, hx⟩ := ob hx
  refine jj_entry RX8 rfl (by decide) (Nat.le_of_ble_eq_true rfl) (fun X _ _ C => ?_)
  show J X G (0, 0, some (.int res), n, h) (0, 0, n) h 0 [(0, .ref l0)] []
  refine jj_iconst (v := 0) C dX8_allHeard_0 (by decide) ?_
  refine jj_istore_n C 1 dX8_allHeard_1 rfl rfl (by decide) ?_
  refine jj_iconst (v := 0) C dX8_allHeard_2 (by decide) ?_
  refine jj_istore_n C 2 dX8_allHeard_3 rfl rfl (by decide) ?_
  refine jj_sub [2, 1, 0] rfl ?_
  exact t_X8_allHeard_4 C F F _ _ hx
def s_X8_areForms_2 (F : Nat)  (h : pH) (l0 : Nat) (l1 : Int32) (k2 : Int32 → Option Int32) (l2 : Int32) : Option Int32 :=
  (getR 8 h l0 8).bind fun v1 =>
  (aldI 0 h v1 l1).bind fun v2 =>
  if v2 ≤ l2 then
    some (0 : Int32)
  else
    (x_X8_letterOf F h l0 l1 0 l2).bind fun v3 =>
    (x_X8_letterOf F h l0 l1 1 l2).bind fun v4 =>
    if v3 = v4 then
      k2 (l2 + 1)
    else
      some (1 : Int32)
def x_X8_areForms_2 (F : Nat)  (h : pH) (l0 : Nat) (l1 : Int32) : Nat → Int32 → Option Int32
  | 0, _ => none
  | m + 1, l2 => s_X8_areForms_2 F h l0 l1 (x_X8_areForms_2 F h l0 l1 m) l2
theorem ts_X8_areForms_2 {X : pX} {G : pG} {n : Nat} {res : Int32} (C : Cx X G RX8 cX8_areForms 3 (rmD 1 0 0) n (some (FieldType.boolean))) (F : Nat) {h : pH} {l0 : Nat} {l1 : Int32} {k2 : Int32 → Option Int32} (hk2 : ∀ (l2 : Int32), k2 l2 = some res → J X G (0, 0, some (.int res), n, h) (0, 0, n) h 2 [(0, .ref l0), (1, .int l1), (2, .int l2)] []) {l2 : Int32} (hx : s_X8_areForms_2 F h l0 l1 k2 l2 = some res) : J X G (0, 0, some (.int res), n, h) (0, 0, n) h 2 [(0, .ref l0), (1, .int l1), (2, .int l2)] [] := by
  unfold s_X8_areForms_2 at hx
  refine jj_iload_n C 2 2 dX8_areForms_2 rfl rfl ?_
  refine jj_aload_n C 0 0 dX8_areForms_3 rfl rfl ?_
  obtain ⟨v1, ev1, hx⟩ := ob hx
  refine jj_getR C fd_X8_22 dX8_areForms_4 ev1 ?_
  refine jj_iload_n C 1 1 dX8_areForms_7 rfl rfl ?_
  obtain ⟨v2, ev2, hx⟩ := ob hx
  refine jj_iald C dX8_areForms_8 ev2 ?_
  refine jj_icmp_ge (tgt := 37) C dX8_areForms_9 (by decide) (fun q9 => ?_) (fun q9 => ?_)
  · rw [if_pos q9] at hx
    refine jj_iconst (v := 0) C dX8_areForms_37 (by decide) ?_
    obtain rfl := Option.some.inj hx
    exact jj_zret C (Or.inl rfl) dX8_areForms_38 rfl
  · rw [if_neg q9] at hx
    refine jj_aload_n C 0 0 dX8_areForms_12 rfl rfl ?_
    refine jj_iload_n C 1 1 dX8_areForms_13 rfl rfl ?_
    refine jj_iconst (v := 0) C dX8_areForms_14 (by decide) ?_
    refine jj_iload_n C 2 2 dX8_areForms_15 rfl rfl ?_
    obtain ⟨v3, ev3, hx⟩ := ob hx
    refine jj_callV C [.int l1, .int 0, .int l2] lk_X8_126 (mc_X8_letterOf X.2.1 G F n ev3) (o_X8_letterOf ev3) rfl rfl (Nat.le_of_ble_eq_true rfl) ⟨Nat.le_of_ble_eq_true rfl, Nat.le_of_ble_eq_true rfl⟩ ⟨Nat.zero_le _, Nat.zero_le _⟩ rfl dX8_areForms_16 rfl rfl ?_
    refine jj_aload_n C 0 0 dX8_areForms_19 rfl rfl ?_
    refine jj_iload_n C 1 1 dX8_areForms_20 rfl rfl ?_
    refine jj_iconst (v := 1) C dX8_areForms_21 (by decide) ?_
    refine jj_iload_n C 2 2 dX8_areForms_22 rfl rfl ?_
    obtain ⟨v4, ev4, hx⟩ := ob hx
    refine jj_callV C [.int l1, .int 1, .int l2] lk_X8_126 (mc_X8_letterOf X.2.1 G F n ev4) (o_X8_letterOf ev4) rfl rfl (Nat.le_of_ble_eq_true rfl) ⟨Nat.le_of_ble_eq_true rfl, Nat.le_of_ble_eq_true rfl⟩ ⟨Nat.zero_le _, Nat.zero_le _⟩ rfl dX8_areForms_23 rfl rfl ?_
    refine jj_icmp_eq (tgt := 31) C dX8_areForms_26 (by decide) (fun q26 => ?_) (fun q26 => ?_)
    · rw [if_pos q26] at hx
      refine jj_iinc (v := l2 + 1) C 2 2 dX8_areForms_31 rfl rfl rfl (by decide) ?_
      refine jj_goto (tgt := 2) C dX8_areForms_34 (by decide) ?_
      refine jj_sub [1, 2, 0] rfl ?_
      exact hk2 _ hx
    · rw [if_neg q26] at hx
      refine jj_iconst (v := 1) C dX8_areForms_29 (by decide) ?_
      obtain rfl := Option.some.inj hx
      exact jj_zret C (Or.inr rfl) dX8_areForms_30 rfl
theorem t_X8_areForms_2 {X : pX} {G : pG} {n : Nat} {res : Int32} (C : Cx X G RX8 cX8_areForms 3 (rmD 1 0 0) n (some (FieldType.boolean))) (F : Nat) {h : pH} {l0 : Nat} {l1 : Int32} : ∀ (m : Nat) (l2 : Int32), x_X8_areForms_2 F h l0 l1 m l2 = some res → J X G (0, 0, some (.int res), n, h) (0, 0, n) h 2 [(0, .ref l0), (1, .int l1), (2, .int l2)] [] := by
  intro m
  induction m with
  | zero => intro l2 hx; exact nomatch (show (none : Option Int32) = some res from hx)
  | succ m ih => intro l2 hx; exact ts_X8_areForms_2 C F  ih hx
def x_X8_areForms (F : Nat) (h : pH) (l0 : Nat) (l1 : Int32) : Option Int32 :=
  (chk 8 h l0).bind fun _ =>
  x_X8_areForms_2 F h l0 l1 F 0
theorem o_X8_areForms {F : Nat} {h : pH} {l0 : Nat} {l1 : Int32} {res : Int32} (hx : x_X8_areForms F h l0 l1 = some res) : chk 8 h l0 = some () := by
  unfold x_X8_areForms at hx
  obtain ⟨_, e, _⟩ := ob hx
  exact e
theorem mc_X8_areForms (l : Launch) (G : pG) (F n : Nat) {h : pH} {l0 : Nat} {l1 : Int32} {res : Int32} (hx : x_X8_areForms F h l0 l1 = some res) : MC l yX8_areForms cX8_areForms 3 (some (FieldType.boolean)) (rmD 1 0 0) G [.ref l0, .int l1] n h (some (.int res)) n h := by
  unfold x_X8_areForms at hx
  obtain ⟨_, _, hx⟩ := ob hx
  refine jj_entry RX8 rfl (by decide) (Nat.le_of_ble_eq_true rfl) (fun X _ _ C => ?_)
  show J X G (0, 0, some (.int res), n, h) (0, 0, n) h 0 [(0, .ref l0), (1, .int l1)] []
  refine jj_iconst (v := 0) C dX8_areForms_0 (by decide) ?_
  refine jj_istore_n C 2 dX8_areForms_1 rfl rfl (by decide) ?_
  refine jj_sub [1, 2, 0] rfl ?_
  exact t_X8_areForms_2 C F F _ hx
def s_X8_areLetters_2 (F : Nat)  (h : pH) (l0 : Nat) (l1 : Int32) (l2 : Int32) (k2 : Int32 → Option Int32) (l3 : Int32) : Option Int32 :=
  if l2 ≤ l3 then
    some (1 : Int32)
  else
    (getR 8 h l0 4).bind fun v1 =>
    (aldI 0 h v1 (l1 + l3)).bind fun v2 =>
    (x_X8_within F h v2 0 2).bind fun v3 =>
    if v3 = 0 then
      some (0 : Int32)
    else
      k2 (l3 + 1)
def x_X8_areLetters_2 (F : Nat)  (h : pH) (l0 : Nat) (l1 : Int32) (l2 : Int32) : Nat → Int32 → Option Int32
  | 0, _ => none
  | m + 1, l3 => s_X8_areLetters_2 F h l0 l1 l2 (x_X8_areLetters_2 F h l0 l1 l2 m) l3
theorem ts_X8_areLetters_2 {X : pX} {G : pG} {n : Nat} {res : Int32} (C : Cx X G RX8 cX8_areLetters 4 (rmD 1 0 0) n (some (FieldType.boolean))) (F : Nat) {h : pH} {l0 : Nat} {l1 : Int32} {l2 : Int32} {k2 : Int32 → Option Int32} (hk2 : ∀ (l3 : Int32), k2 l3 = some res → J X G (0, 0, some (.int res), n, h) (0, 0, n) h 2 [(0, .ref l0), (1, .int l1), (2, .int l2), (3, .int l3)] []) {l3 : Int32} (hx : s_X8_areLetters_2 F h l0 l1 l2 k2 l3 = some res) : J X G (0, 0, some (.int res), n, h) (0, 0, n) h 2 [(0, .ref l0), (1, .int l1), (2, .int l2), (3, .int l3)] [] := by
  unfold s_X8_areLetters_2 at hx
  refine jj_iload_n C 3 3 dX8_areLetters_2 rfl rfl ?_
  refine jj_iload_n C 2 2 dX8_areLetters_3 rfl rfl ?_
  refine jj_icmp_ge (tgt := 31) C dX8_areLetters_4 (by decide) (fun q4 => ?_) (fun q4 => ?_)
  · rw [if_pos q4] at hx
    refine jj_iconst (v := 1) C dX8_areLetters_31 (by decide) ?_
    obtain rfl := Option.some.inj hx
    exact jj_zret C (Or.inr rfl) dX8_areLetters_32 rfl
  · rw [if_neg q4] at hx
    refine jj_aload_n C 0 0 dX8_areLetters_7 rfl rfl ?_
    obtain ⟨v1, ev1, hx⟩ := ob hx
    refine jj_getR C fd_X8_16 dX8_areLetters_8 ev1 ?_
    refine jj_iload_n C 1 1 dX8_areLetters_11 rfl rfl ?_
    refine jj_iload_n C 3 3 dX8_areLetters_12 rfl rfl ?_
    refine jj_iadd C dX8_areLetters_13 ?_
    obtain ⟨v2, ev2, hx⟩ := ob hx
    refine jj_iald C dX8_areLetters_14 ev2 ?_
    refine jj_iconst (v := 0) C dX8_areLetters_15 (by decide) ?_
    refine jj_iconst (v := 2) C dX8_areLetters_16 (by decide) ?_
    obtain ⟨v3, ev3, hx⟩ := ob hx
    refine jj_callS C [.int v2, .int 0, .int 2] lk_X8_83 (mc_X8_within X.2.1 G F n ev3) rfl rfl (Nat.le_of_ble_eq_true rfl) ⟨Nat.le_of_ble_eq_true rfl, Nat.le_of_ble_eq_true rfl⟩ ⟨Nat.zero_le _, Nat.zero_le _⟩ rfl dX8_areLetters_17 rfl rfl ?_
    refine jj_if_ne (tgt := 25) C dX8_areLetters_20 (by decide) (fun q20 => ?_) (fun q20 => ?_)
    · rw [if_neg q20] at hx
      refine jj_iinc (v := l3 + 1) C 3 3 dX8_areLetters_25 rfl rfl rfl (by decide) ?_
      refine jj_goto (tgt := 2) C dX8_areLetters_28 (by decide) ?_
      refine jj_sub [1, 2, 3, 0] rfl ?_
      exact hk2 _ hx
    · rw [if_pos q20] at hx
      refine jj_iconst (v := 0) C dX8_areLetters_23 (by decide) ?_
      obtain rfl := Option.some.inj hx
      exact jj_zret C (Or.inl rfl) dX8_areLetters_24 rfl
theorem t_X8_areLetters_2 {X : pX} {G : pG} {n : Nat} {res : Int32} (C : Cx X G RX8 cX8_areLetters 4 (rmD 1 0 0) n (some (FieldType.boolean))) (F : Nat) {h : pH} {l0 : Nat} {l1 : Int32} {l2 : Int32} : ∀ (m : Nat) (l3 : Int32), x_X8_areLetters_2 F h l0 l1 l2 m l3 = some res → J X G (0, 0, some (.int res), n, h) (0, 0, n) h 2 [(0, .ref l0), (1, .int l1), (2, .int l2), (3, .int l3)] [] := by
  intro m
  induction m with
  | zero => intro l3 hx; exact nomatch (show (none : Option Int32) = some res from hx)
  | succ m ih => intro l3 hx; exact ts_X8_areLetters_2 C F  ih hx
def x_X8_areLetters (F : Nat) (h : pH) (l0 : Nat) (l1 : Int32) (l2 : Int32) : Option Int32 :=
  (chk 8 h l0).bind fun _ =>
  x_X8_areLetters_2 F h l0 l1 l2 F 0
theorem o_X8_areLetters {F : Nat} {h : pH} {l0 : Nat} {l1 : Int32} {l2 : Int32} {res : Int32} (hx : x_X8_areLetters F h l0 l1 l2 = some res) : chk 8 h l0 = some () := by
  unfold x_X8_areLetters at hx
  obtain ⟨_, e, _⟩ := ob hx
  exact e
theorem mc_X8_areLetters (l : Launch) (G : pG) (F n : Nat) {h : pH} {l0 : Nat} {l1 : Int32} {l2 : Int32} {res : Int32} (hx : x_X8_areLetters F h l0 l1 l2 = some res) : MC l yX8_areLetters cX8_areLetters 4 (some (FieldType.boolean)) (rmD 1 0 0) G [.ref l0, .int l1, .int l2] n h (some (.int res)) n h := by
  unfold x_X8_areLetters at hx
  obtain ⟨_, _, hx⟩ := ob hx
  refine jj_entry RX8 rfl (by decide) (Nat.le_of_ble_eq_true rfl) (fun X _ _ C => ?_)
  show J X G (0, 0, some (.int res), n, h) (0, 0, n) h 0 [(0, .ref l0), (1, .int l1), (2, .int l2)] []
  refine jj_iconst (v := 0) C dX8_areLetters_0 (by decide) ?_
  refine jj_istore_n C 3 dX8_areLetters_1 rfl rfl (by decide) ?_
  refine jj_sub [1, 2, 3, 0] rfl ?_
  exact t_X8_areLetters_2 C F F _ hx
def x_X8_areSo_88 (F : Nat) (k2 : pH → Int32 → Option (Int32 × pH)) (h : pH) (l0 : Nat) (l1 : Int32) (s0 : Int32) (s1 : Int32) : Option (Int32 × pH) :=
  if s1 = s0 then
    k2 h (l1 + 1)
  else
    some ((0 : Int32), h)
theorem t_X8_areSo_88 {X : pX} {G : pG} {n : Nat} {res : (Int32 × pH)} (C : Cx X G RX8 cX8_areSo 3 (rmD 3 0 0) n (some (FieldType.boolean))) (F : Nat) {h : pH} {l0 : Nat} {l1 : Int32} {s0 : Int32} {s1 : Int32} {k2 : pH → Int32 → Option (Int32 × pH)} (hk2 : ∀ (h : pH) (l1 : Int32), k2 h l1 = some res → J X G (0, 0, some (.int res.1), n, res.2) (0, 0, n) h 2 [(0, .ref l0), (1, .int l1)] []) (hx : x_X8_areSo_88 F k2 h l0 l1 s0 s1 = some res) : J X G (0, 0, some (.int res.1), n, res.2) (0, 0, n) h 88 [(0, .ref l0), (1, .int l1)] [.int s0, .int s1] := by
  unfold x_X8_areSo_88 at hx
  refine jj_icmp_eq (tgt := 93) C dX8_areSo_88 (by decide) (fun q88 => ?_) (fun q88 => ?_)
  · rw [if_pos q88] at hx
    refine jj_iinc (v := l1 + 1) C 1 1 dX8_areSo_93 rfl rfl rfl (by decide) ?_
    refine jj_goto (tgt := 2) C dX8_areSo_96 (by decide) ?_
    refine jj_sub [1, 0] rfl ?_
    exact hk2 _ _ hx
  · rw [if_neg q88] at hx
    refine jj_iconst (v := 0) C dX8_areSo_91 (by decide) ?_
    obtain rfl := Option.some.inj hx
    exact jj_zret C (Or.inl rfl) dX8_areSo_92 rfl
def x_X8_areSo_71 (F : Nat) (k2 : pH → Int32 → Option (Int32 × pH)) (h : pH) (l0 : Nat) (l1 : Int32) (s0 : Int32) : Option (Int32 × pH) :=
  (getR 8 h l0 28).bind fun v1 =>
  (aldI 0 h v1 l1).bind fun v2 =>
  if v2 = 1 then
    x_X8_areSo_88 F k2 h l0 l1 1 s0
  else
    x_X8_areSo_88 F k2 h l0 l1 0 s0
theorem t_X8_areSo_71 {X : pX} {G : pG} {n : Nat} {res : (Int32 × pH)} (C : Cx X G RX8 cX8_areSo 3 (rmD 3 0 0) n (some (FieldType.boolean))) (F : Nat) {h : pH} {l0 : Nat} {l1 : Int32} {s0 : Int32} {k2 : pH → Int32 → Option (Int32 × pH)} (hk2 : ∀ (h : pH) (l1 : Int32), k2 h l1 = some res → J X G (0, 0, some (.int res.1), n, res.2) (0, 0, n) h 2 [(0, .ref l0), (1, .int l1)] []) (hx : x_X8_areSo_71 F k2 h l0 l1 s0 = some res) : J X G (0, 0, some (.int res.1), n, res.2) (0, 0, n) h 71 [(0, .ref l0), (1, .int l1)] [.int s0] := by
  unfold x_X8_areSo_71 at hx
  refine jj_istore_n C 2 dX8_areSo_71 rfl rfl (by decide) ?_
  refine jj_iload_n C 2 0 dX8_areSo_72 rfl rfl ?_
  refine jj_aload_n C 0 1 dX8_areSo_73 rfl rfl ?_
  obtain ⟨v1, ev1, hx⟩ := ob hx
  refine jj_getR C fd_X8_71 dX8_areSo_74 ev1 ?_
  refine jj_iload_n C 1 2 dX8_areSo_77 rfl rfl ?_
  obtain ⟨v2, ev2, hx⟩ := ob hx
  refine jj_iald C dX8_areSo_78 ev2 ?_
  refine jj_iconst (v := 1) C dX8_areSo_79 (by decide) ?_
  refine jj_icmp_ne (tgt := 87) C dX8_areSo_80 (by decide) (fun q80 => ?_) (fun q80 => ?_)
  · rw [if_neg q80] at hx
    refine jj_iconst (v := 0) C dX8_areSo_87 (by decide) ?_
    refine jj_sub [1, 2] rfl ?_
    exact t_X8_areSo_88 C F hk2 hx
  · rw [if_pos q80] at hx
    refine jj_iconst (v := 1) C dX8_areSo_83 (by decide) ?_
    refine jj_goto (tgt := 88) C dX8_areSo_84 (by decide) ?_
    refine jj_sub [1, 2] rfl ?_
    exact t_X8_areSo_88 C F hk2 hx
def s_X8_areSo_22 (F : Nat) (k2 : pH → Int32 → Option (Int32 × pH)) (l0 : Nat) (l1 : Int32) (k22 : pH → Int32 → Option (Int32 × pH)) (h : pH) (l2 : Int32) : Option (Int32 × pH) :=
  (getI 8 h l0 17).bind fun v1 =>
  if v1 ≤ l2 then
    (getR 8 h l0 26).bind fun v2 =>
    (aldI 0 h v2 l1).bind fun v3 =>
    (x_X8_timesHeard F h l0 v3).bind fun v4 =>
    if v4 ≤ 0 then
      x_X8_areSo_71 F k2 h l0 l1 0
    else
      x_X8_areSo_71 F k2 h l0 l1 1
  else
    (getR 8 h l0 16).bind fun v5 =>
    (getR 8 h l0 29).bind fun v6 =>
    (aldI 0 h v6 (((8 : Int32) * l1) + l2)).bind fun v7 =>
    (astI 0 h v5 l2 v7).bind fun v8 =>
    k22 v8 (l2 + 1)
def x_X8_areSo_22 (F : Nat) (k2 : pH → Int32 → Option (Int32 × pH)) (l0 : Nat) (l1 : Int32) : Nat → pH → Int32 → Option (Int32 × pH)
  | 0, _, _ => none
  | m + 1, h, l2 => s_X8_areSo_22 F k2 l0 l1 (x_X8_areSo_22 F k2 l0 l1 m) h l2
theorem ts_X8_areSo_22 {X : pX} {G : pG} {n : Nat} {res : (Int32 × pH)} (C : Cx X G RX8 cX8_areSo 3 (rmD 3 0 0) n (some (FieldType.boolean))) (F : Nat) {l0 : Nat} {l1 : Int32} {k2 : pH → Int32 → Option (Int32 × pH)} (hk2 : ∀ (h : pH) (l1 : Int32), k2 h l1 = some res → J X G (0, 0, some (.int res.1), n, res.2) (0, 0, n) h 2 [(0, .ref l0), (1, .int l1)] []) {k22 : pH → Int32 → Option (Int32 × pH)} (hk22 : ∀ (h : pH) (l2 : Int32), k22 h l2 = some res → J X G (0, 0, some (.int res.1), n, res.2) (0, 0, n) h 22 [(0, .ref l0), (1, .int l1), (2, .int l2)] []) {h : pH} {l2 : Int32} (hx : s_X8_areSo_22 F k2 l0 l1 k22 h l2 = some res) : J X G (0, 0, some (.int res.1), n, res.2) (0, 0, n) h 22 [(0, .ref l0), (1, .int l1), (2, .int l2)] [] := by
  unfold s_X8_areSo_22 at hx
  refine jj_iload_n C 2 2 dX8_areSo_22 rfl rfl ?_
  refine jj_aload_n C 0 0 dX8_areSo_23 rfl rfl ?_
  obtain ⟨v1, ev1, hx⟩ := ob hx
  refine jj_getI C fd_X8_133 dX8_areSo_24 ev1 ?_
  refine jj_icmp_ge (tgt := 53) C dX8_areSo_27 (by decide) (fun q27 => ?_) (fun q27 => ?_)
  · rw [if_pos q27] at hx
    refine jj_aload_n C 0 0 dX8_areSo_53 rfl rfl ?_
    refine jj_aload_n C 0 0 dX8_areSo_54 rfl rfl ?_
    obtain ⟨v2, ev2, hx⟩ := ob hx
    refine jj_getR C fd_X8_65 dX8_areSo_55 ev2 ?_
    refine jj_iload_n C 1 1 dX8_areSo_58 rfl rfl ?_
    obtain ⟨v3, ev3, hx⟩ := ob hx
    refine jj_iald C dX8_areSo_59 ev3 ?_
    obtain ⟨v4, ev4, hx⟩ := ob hx
    refine jj_callV C [.int v3] lk_X8_136 (mc_X8_timesHeard X.2.1 G F n ev4) (o_X8_timesHeard ev4) rfl rfl (Nat.le_of_ble_eq_true rfl) ⟨Nat.le_of_ble_eq_true rfl, Nat.le_of_ble_eq_true rfl⟩ ⟨Nat.zero_le _, Nat.zero_le _⟩ rfl dX8_areSo_60 rfl rfl ?_
    refine jj_if_le (tgt := 70) C dX8_areSo_63 (by decide) (fun q63 => ?_) (fun q63 => ?_)
    · rw [if_pos q63] at hx
      refine jj_iconst (v := 0) C dX8_areSo_70 (by decide) ?_
      refine jj_sub [0, 1] rfl ?_
      exact t_X8_areSo_71 C F hk2 hx
    · rw [if_neg q63] at hx
      refine jj_iconst (v := 1) C dX8_areSo_66 (by decide) ?_
      refine jj_goto (tgt := 71) C dX8_areSo_67 (by decide) ?_
      refine jj_sub [0, 1] rfl ?_
      exact t_X8_areSo_71 C F hk2 hx
  · rw [if_neg q27] at hx
    refine jj_aload_n C 0 0 dX8_areSo_30 rfl rfl ?_
    obtain ⟨v5, ev5, hx⟩ := ob hx
    refine jj_getR C fd_X8_40 dX8_areSo_31 ev5 ?_
    refine jj_iload_n C 2 2 dX8_areSo_34 rfl rfl ?_
    refine jj_aload_n C 0 0 dX8_areSo_35 rfl rfl ?_
    obtain ⟨v6, ev6, hx⟩ := ob hx
    refine jj_getR C fd_X8_74 dX8_areSo_36 ev6 ?_
    refine jj_bipush (v := 8) C dX8_areSo_39 (by decide) ?_
    refine jj_iload_n C 1 1 dX8_areSo_41 rfl rfl ?_
    refine jj_imul C dX8_areSo_42 ?_
    refine jj_iload_n C 2 2 dX8_areSo_43 rfl rfl ?_
    refine jj_iadd C dX8_areSo_44 ?_
    obtain ⟨v7, ev7, hx⟩ := ob hx
    refine jj_iald C dX8_areSo_45 ev7 ?_
    obtain ⟨v8, ev8, hx⟩ := ob hx
    refine jj_iast C dX8_areSo_46 ev8 ?_
    refine jj_iinc (v := l2 + 1) C 2 2 dX8_areSo_47 rfl rfl rfl (by decide) ?_
    refine jj_goto (tgt := 22) C dX8_areSo_50 (by decide) ?_
    refine jj_sub [1, 2, 0] rfl ?_
    exact hk22 _ _ hx
theorem t_X8_areSo_22 {X : pX} {G : pG} {n : Nat} {res : (Int32 × pH)} (C : Cx X G RX8 cX8_areSo 3 (rmD 3 0 0) n (some (FieldType.boolean))) (F : Nat) {l0 : Nat} {l1 : Int32} {k2 : pH → Int32 → Option (Int32 × pH)} (hk2 : ∀ (h : pH) (l1 : Int32), k2 h l1 = some res → J X G (0, 0, some (.int res.1), n, res.2) (0, 0, n) h 2 [(0, .ref l0), (1, .int l1)] []) : ∀ (m : Nat) (h : pH) (l2 : Int32), x_X8_areSo_22 F k2 l0 l1 m h l2 = some res → J X G (0, 0, some (.int res.1), n, res.2) (0, 0, n) h 22 [(0, .ref l0), (1, .int l1), (2, .int l2)] [] := by
  intro m
  induction m with
  | zero => intro h l2 hx; exact nomatch (show (none : Option (Int32 × pH)) = some res from hx)
  | succ m ih => intro h l2 hx; exact ts_X8_areSo_22 C F hk2 ih hx
def s_X8_areSo_2 (F : Nat)  (l0 : Nat) (k2 : pH → Int32 → Option (Int32 × pH)) (h : pH) (l1 : Int32) : Option (Int32 × pH) :=
  (getI 8 h l0 25).bind fun v1 =>
  if v1 ≤ l1 then
    some ((1 : Int32), h)
  else
    (getR 8 h l0 27).bind fun v2 =>
    (aldI 0 h v2 l1).bind fun v3 =>
    (putV 8 h l0 17 (.int v3)).bind fun v4 =>
    x_X8_areSo_22 F k2 l0 l1 F v4 0
def x_X8_areSo_2 (F : Nat)  (l0 : Nat) : Nat → pH → Int32 → Option (Int32 × pH)
  | 0, _, _ => none
  | m + 1, h, l1 => s_X8_areSo_2 F l0 (x_X8_areSo_2 F l0 m) h l1
theorem ts_X8_areSo_2 {X : pX} {G : pG} {n : Nat} {res : (Int32 × pH)} (C : Cx X G RX8 cX8_areSo 3 (rmD 3 0 0) n (some (FieldType.boolean))) (F : Nat) {l0 : Nat} {k2 : pH → Int32 → Option (Int32 × pH)} (hk2 : ∀ (h : pH) (l1 : Int32), k2 h l1 = some res → J X G (0, 0, some (.int res.1), n, res.2) (0, 0, n) h 2 [(0, .ref l0), (1, .int l1)] []) {h : pH} {l1 : Int32} (hx : s_X8_areSo_2 F l0 k2 h l1 = some res) : J X G (0, 0, some (.int res.1), n, res.2) (0, 0, n) h 2 [(0, .ref l0), (1, .int l1)] [] := by
  unfold s_X8_areSo_2 at hx
  refine jj_iload_n C 1 1 dX8_areSo_2 rfl rfl ?_
  refine jj_aload_n C 0 0 dX8_areSo_3 rfl rfl ?_
  obtain ⟨v1, ev1, hx⟩ := ob hx
  refine jj_getI C fd_X8_117 dX8_areSo_4 ev1 ?_
  refine jj_icmp_ge (tgt := 99) C dX8_areSo_7 (by decide) (fun q7 => ?_) (fun q7 => ?_)
  · rw [if_pos q7] at hx
    refine jj_iconst (v := 1) C dX8_areSo_99 (by decide) ?_
    obtain rfl := Option.some.inj hx
    exact jj_zret C (Or.inr rfl) dX8_areSo_100 rfl
  · rw [if_neg q7] at hx
    refine jj_aload_n C 0 0 dX8_areSo_10 rfl rfl ?_
    refine jj_aload_n C 0 0 dX8_areSo_11 rfl rfl ?_
    obtain ⟨v2, ev2, hx⟩ := ob hx
    refine jj_getR C fd_X8_68 dX8_areSo_12 ev2 ?_
    refine jj_iload_n C 1 1 dX8_areSo_15 rfl rfl ?_
    obtain ⟨v3, ev3, hx⟩ := ob hx
    refine jj_iald C dX8_areSo_16 ev3 ?_
    obtain ⟨v4, ev4, hx⟩ := ob hx
    refine jj_put C fd_X8_133 rfl rfl dX8_areSo_17 ev4 ?_
    refine jj_iconst (v := 0) C dX8_areSo_20 (by decide) ?_
    refine jj_istore_n C 2 dX8_areSo_21 rfl rfl (by decide) ?_
    refine jj_sub [1, 2, 0] rfl ?_
    exact t_X8_areSo_22 C F hk2 F _ _ hx
theorem t_X8_areSo_2 {X : pX} {G : pG} {n : Nat} {res : (Int32 × pH)} (C : Cx X G RX8 cX8_areSo 3 (rmD 3 0 0) n (some (FieldType.boolean))) (F : Nat) {l0 : Nat} : ∀ (m : Nat) (h : pH) (l1 : Int32), x_X8_areSo_2 F l0 m h l1 = some res → J X G (0, 0, some (.int res.1), n, res.2) (0, 0, n) h 2 [(0, .ref l0), (1, .int l1)] [] := by
  intro m
  induction m with
  | zero => intro h l1 hx; exact nomatch (show (none : Option (Int32 × pH)) = some res from hx)
  | succ m ih => intro h l1 hx; exact ts_X8_areSo_2 C F  ih hx
def x_X8_areSo (F : Nat) (h : pH) (l0 : Nat) : Option (Int32 × pH) :=
  (chk 8 h l0).bind fun _ =>
  x_X8_areSo_2 F l0 F h 0
theorem o_X8_areSo {F : Nat} {h : pH} {l0 : Nat} {res : (Int32 × pH)} (hx : x_X8_areSo F h l0 = some res) : chk 8 h l0 = some () := by
  unfold x_X8_areSo at hx
  obtain ⟨_, e, _⟩ := ob hx
  exact e
theorem mc_X8_areSo (l : Launch) (G : pG) (F n : Nat) {h : pH} {l0 : Nat} {res : (Int32 × pH)} (hx : x_X8_areSo F h l0 = some res) : MC l yX8_areSo cX8_areSo 3 (some (FieldType.boolean)) (rmD 3 0 0) G [.ref l0] n h (some (.int res.1)) n res.2 := by
  unfold x_X8_areSo at hx
  obtain ⟨_, _, hx⟩ := ob hx
  refine jj_entry RX8 rfl (by decide) (Nat.le_of_ble_eq_true rfl) (fun X _ _ C => ?_)
  show J X G (0, 0, some (.int res.1), n, res.2) (0, 0, n) h 0 [(0, .ref l0)] []
  refine jj_iconst (v := 0) C dX8_areSo_0 (by decide) ?_
  refine jj_istore_n C 1 dX8_areSo_1 rfl rfl (by decide) ?_
  refine jj_sub [1, 0] rfl ?_
  exact t_X8_areSo_2 C F F _ _ hx
def x_X8_isWord (F : Nat) (h : pH) (l0 : Nat) (l1 : Int32) : Option Int32 :=
  (chk 8 h l0).bind fun _ =>
  if l1 < 0 then
    some (0 : Int32)
  else
    (getI 8 h l0 5).bind fun v1 =>
    if v1 ≤ l1 then
      some (0 : Int32)
    else
      some (1 : Int32)
theorem o_X8_isWord {F : Nat} {h : pH} {l0 : Nat} {l1 : Int32} {res : Int32} (hx : x_X8_isWord F h l0 l1 = some res) : chk 8 h l0 = some () := by
  unfold x_X8_isWord at hx
  obtain ⟨_, e, _⟩ := ob hx
  exact e
theorem mc_X8_isWord (l : Launch) (G : pG) (F n : Nat) {h : pH} {l0 : Nat} {l1 : Int32} {res : Int32} (hx : x_X8_isWord F h l0 l1 = some res) : MC l yX8_isWord cX8_isWord 2 (some (FieldType.boolean)) (rmD 0 0 0) G [.ref l0, .int l1] n h (some (.int res)) n h := by
  unfold x_X8_isWord at hx
  obtain ⟨_, _, hx⟩ := ob hx
  refine jj_entry RX8 rfl (by decide) (Nat.le_of_ble_eq_true rfl) (fun X _ _ C => ?_)
  show J X G (0, 0, some (.int res), n, h) (0, 0, n) h 0 [(0, .ref l0), (1, .int l1)] []
  refine jj_iload_n C 1 1 dX8_isWord_0 rfl rfl ?_
  refine jj_if_lt (tgt := 16) C dX8_isWord_1 (by decide) (fun q1 => ?_) (fun q1 => ?_)
  · rw [if_pos q1] at hx
    refine jj_iconst (v := 0) C dX8_isWord_16 (by decide) ?_
    obtain rfl := Option.some.inj hx
    exact jj_zret C (Or.inl rfl) dX8_isWord_17 rfl
  · rw [if_neg q1] at hx
    refine jj_iload_n C 1 1 dX8_isWord_4 rfl rfl ?_
    refine jj_aload_n C 0 0 dX8_isWord_5 rfl rfl ?_
    obtain ⟨v1, ev1, hx⟩ := ob hx
    refine jj_getI C fd_X8_87 dX8_isWord_6 ev1 ?_
    refine jj_icmp_ge (tgt := 16) C dX8_isWord_9 (by decide) (fun q9 => ?_) (fun q9 => ?_)
    · rw [if_pos q9] at hx
      refine jj_iconst (v := 0) C dX8_isWord_16 (by decide) ?_
      obtain rfl := Option.some.inj hx
      exact jj_zret C (Or.inl rfl) dX8_isWord_17 rfl
    · rw [if_neg q9] at hx
      refine jj_iconst (v := 1) C dX8_isWord_12 (by decide) ?_
      refine jj_goto (tgt := 17) C dX8_isWord_13 (by decide) ?_
      obtain rfl := Option.some.inj hx
      exact jj_zret C (Or.inr rfl) dX8_isWord_17 rfl
def x_X8_fails (F : Nat) (h : pH) (l0 : Nat) (l1 : Int32) : Option (Int32 × pH) :=
  (chk 8 h l0).bind fun _ =>
  (putV 8 h l0 0 (.int l1)).bind fun v1 =>
  some (((-10 : Int32) - l1), v1)
theorem o_X8_fails {F : Nat} {h : pH} {l0 : Nat} {l1 : Int32} {res : (Int32 × pH)} (hx : x_X8_fails F h l0 l1 = some res) : chk 8 h l0 = some () := by
  unfold x_X8_fails at hx
  obtain ⟨_, e, _⟩ := ob hx
  exact e
theorem mc_X8_fails (l : Launch) (G : pG) (F n : Nat) {h : pH} {l0 : Nat} {l1 : Int32} {res : (Int32 × pH)} (hx : x_X8_fails F h l0 l1 = some res) : MC l yX8_fails cX8_fails 2 (some (FieldType.int)) (rmD 0 0 0) G [.ref l0, .int l1] n h (some (.int res.1)) n res.2 := by
  unfold x_X8_fails at hx
  obtain ⟨_, _, hx⟩ := ob hx
  refine jj_entry RX8 rfl (by decide) (Nat.le_of_ble_eq_true rfl) (fun X _ _ C => ?_)
  show J X G (0, 0, some (.int res.1), n, res.2) (0, 0, n) h 0 [(0, .ref l0), (1, .int l1)] []
  refine jj_aload_n C 0 0 dX8_fails_0 rfl rfl ?_
  refine jj_iload_n C 1 1 dX8_fails_1 rfl rfl ?_
  obtain ⟨v1, ev1, hx⟩ := ob hx
  refine jj_put C fd_X8_77 rfl rfl dX8_fails_2 ev1 ?_
  refine jj_bipush (v := (-10)) C dX8_fails_5 (by decide) ?_
  refine jj_iload_n C 1 1 dX8_fails_7 rfl rfl ?_
  refine jj_isub C dX8_fails_8 ?_
  obtain rfl := Option.some.inj hx
  exact jj_iret C dX8_fails_9 rfl
def x_X8_as (F : Nat) (h : pH) (l0 : Nat) (l1 : Int32) (l2 : Int32) : Option (Int32 × pH) :=
  (chk 8 h l0).bind fun _ =>
  (putV 8 h l0 0 (.int 0)).bind fun v1 =>
  (x_X8_isWord F v1 l0 l1).bind fun v2 =>
  if v2 = 0 then
    some ((-1 : Int32), v1)
  else
    (x_X8_within F v1 l2 0 2).bind fun v3 =>
    if v3 = 0 then
      some ((-2 : Int32), v1)
    else
      (getR 8 v1 l0 7).bind fun v4 =>
      (aldI 0 v1 v4 l1).bind fun v5 =>
      if v5 < l2 then
        (x_X8_fails F v1 l0 2).bind fun v6 =>
        some (v6.1, v6.2)
      else
        some ((1 : Int32), v1)
theorem o_X8_as {F : Nat} {h : pH} {l0 : Nat} {l1 : Int32} {l2 : Int32} {res : (Int32 × pH)} (hx : x_X8_as F h l0 l1 l2 = some res) : chk 8 h l0 = some () := by
  unfold x_X8_as at hx
  obtain ⟨_, e, _⟩ := ob hx
  exact e
theorem mc_X8_as (l : Launch) (G : pG) (F n : Nat) {h : pH} {l0 : Nat} {l1 : Int32} {l2 : Int32} {res : (Int32 × pH)} (hx : x_X8_as F h l0 l1 l2 = some res) : MC l yX8_as cX8_as 3 (some (FieldType.int)) (rmD 1 0 0) G [.ref l0, .int l1, .int l2] n h (some (.int res.1)) n res.2 := by
  unfold x_X8_as at hx
  obtain ⟨_, _, hx⟩ := ob hx
  refine jj_entry RX8 rfl (by decide) (Nat.le_of_ble_eq_true rfl) (fun X _ _ C => ?_)
  show J X G (0, 0, some (.int res.1), n, res.2) (0, 0, n) h 0 [(0, .ref l0), (1, .int l1), (2, .int l2)] []
  refine jj_aload_n C 0 0 dX8_as_0 rfl rfl ?_
  refine jj_iconst (v := 0) C dX8_as_1 (by decide) ?_
  obtain ⟨v1, ev1, hx⟩ := ob hx
  refine jj_put C fd_X8_77 rfl rfl dX8_as_2 ev1 ?_
  refine jj_aload_n C 0 0 dX8_as_5 rfl rfl ?_
  refine jj_iload_n C 1 1 dX8_as_6 rfl rfl ?_
  obtain ⟨v2, ev2, hx⟩ := ob hx
  refine jj_callV C [.int l1] lk_X8_139 (mc_X8_isWord X.2.1 G F n ev2) (o_X8_isWord ev2) rfl rfl (Nat.le_of_ble_eq_true rfl) ⟨Nat.le_of_ble_eq_true rfl, Nat.le_of_ble_eq_true rfl⟩ ⟨Nat.zero_le _, Nat.zero_le _⟩ rfl dX8_as_7 rfl rfl ?_
  refine jj_if_ne (tgt := 15) C dX8_as_10 (by decide) (fun q10 => ?_) (fun q10 => ?_)
  · rw [if_neg q10] at hx
    refine jj_iload_n C 2 2 dX8_as_15 rfl rfl ?_
    refine jj_iconst (v := 0) C dX8_as_16 (by decide) ?_
    refine jj_iconst (v := 2) C dX8_as_17 (by decide) ?_
    obtain ⟨v3, ev3, hx⟩ := ob hx
    refine jj_callS C [.int l2, .int 0, .int 2] lk_X8_83 (mc_X8_within X.2.1 G F n ev3) rfl rfl (Nat.le_of_ble_eq_true rfl) ⟨Nat.le_of_ble_eq_true rfl, Nat.le_of_ble_eq_true rfl⟩ ⟨Nat.zero_le _, Nat.zero_le _⟩ rfl dX8_as_18 rfl rfl ?_
    refine jj_if_ne (tgt := 27) C dX8_as_21 (by decide) (fun q21 => ?_) (fun q21 => ?_)
    · rw [if_neg q21] at hx
      refine jj_aload_n C 0 0 dX8_as_27 rfl rfl ?_
      obtain ⟨v4, ev4, hx⟩ := ob hx
      refine jj_getR C fd_X8_19 dX8_as_28 ev4 ?_
      refine jj_iload_n C 1 1 dX8_as_31 rfl rfl ?_
      obtain ⟨v5, ev5, hx⟩ := ob hx
      refine jj_iald C dX8_as_32 ev5 ?_
      refine jj_iload_n C 2 2 dX8_as_33 rfl rfl ?_
      refine jj_icmp_lt (tgt := 41) C dX8_as_34 (by decide) (fun q34 => ?_) (fun q34 => ?_)
      · rw [if_pos q34] at hx
        refine jj_aload_n C 0 0 dX8_as_41 rfl rfl ?_
        refine jj_iconst (v := 2) C dX8_as_42 (by decide) ?_
        obtain ⟨v6, ev6, hx⟩ := ob hx
        refine jj_callV C [.int 2] lk_X8_104 (mc_X8_fails X.2.1 G F n ev6) (o_X8_fails ev6) rfl rfl (Nat.le_of_ble_eq_true rfl) ⟨Nat.le_of_ble_eq_true rfl, Nat.le_of_ble_eq_true rfl⟩ ⟨Nat.zero_le _, Nat.zero_le _⟩ rfl dX8_as_43 rfl rfl ?_
        obtain rfl := Option.some.inj hx
        exact jj_iret C dX8_as_46 rfl
      · rw [if_neg q34] at hx
        refine jj_iconst (v := 1) C dX8_as_37 (by decide) ?_
        refine jj_goto (tgt := 46) C dX8_as_38 (by decide) ?_
        obtain rfl := Option.some.inj hx
        exact jj_iret C dX8_as_46 rfl
    · rw [if_pos q21] at hx
      refine jj_bipush (v := (-2)) C dX8_as_24 (by decide) ?_
      obtain rfl := Option.some.inj hx
      exact jj_iret C dX8_as_26 rfl
  · rw [if_pos q10] at hx
    refine jj_iconst (v := (-1)) C dX8_as_13 (by decide) ?_
    obtain rfl := Option.some.inj hx
    exact jj_iret C dX8_as_14 rfl
def x_X8_back (F : Nat) (h : pH) (l0 : Nat) (l1 : Int32) : Option (Int32 × pH) :=
  (chk 8 h l0).bind fun _ =>
  (getI 8 h l0 25).bind fun v1 =>
  (x_X8_within F h l1 0 v1).bind fun v2 =>
  if v2 = 0 then
    some ((-2 : Int32), h)
  else
    (getI 8 h l0 25).bind fun v3 =>
    (putV 8 h l0 25 (.int (v3 - l1))).bind fun v4 =>
    (getI 8 v4 l0 25).bind fun v5 =>
    some (v5, v4)
theorem o_X8_back {F : Nat} {h : pH} {l0 : Nat} {l1 : Int32} {res : (Int32 × pH)} (hx : x_X8_back F h l0 l1 = some res) : chk 8 h l0 = some () := by
  unfold x_X8_back at hx
  obtain ⟨_, e, _⟩ := ob hx
  exact e
theorem mc_X8_back (l : Launch) (G : pG) (F n : Nat) {h : pH} {l0 : Nat} {l1 : Int32} {res : (Int32 × pH)} (hx : x_X8_back F h l0 l1 = some res) : MC l yX8_back cX8_back 2 (some (FieldType.int)) (rmD 1 0 0) G [.ref l0, .int l1] n h (some (.int res.1)) n res.2 := by
  unfold x_X8_back at hx
  obtain ⟨_, _, hx⟩ := ob hx
  refine jj_entry RX8 rfl (by decide) (Nat.le_of_ble_eq_true rfl) (fun X _ _ C => ?_)
  show J X G (0, 0, some (.int res.1), n, res.2) (0, 0, n) h 0 [(0, .ref l0), (1, .int l1)] []
  refine jj_iload_n C 1 1 dX8_back_0 rfl rfl ?_
  refine jj_iconst (v := 0) C dX8_back_1 (by decide) ?_
  refine jj_aload_n C 0 0 dX8_back_2 rfl rfl ?_
  obtain ⟨v1, ev1, hx⟩ := ob hx
  refine jj_getI C fd_X8_117 dX8_back_3 ev1 ?_
  obtain ⟨v2, ev2, hx⟩ := ob hx
  refine jj_callS C [.int l1, .int 0, .int v1] lk_X8_83 (mc_X8_within X.2.1 G F n ev2) rfl rfl (Nat.le_of_ble_eq_true rfl) ⟨Nat.le_of_ble_eq_true rfl, Nat.le_of_ble_eq_true rfl⟩ ⟨Nat.zero_le _, Nat.zero_le _⟩ rfl dX8_back_6 rfl rfl ?_
  refine jj_if_ne (tgt := 15) C dX8_back_9 (by decide) (fun q9 => ?_) (fun q9 => ?_)
  · rw [if_neg q9] at hx
    refine jj_aload_n C 0 0 dX8_back_15 rfl rfl ?_
    refine jj_dup C dX8_back_16 rfl ?_
    obtain ⟨v3, ev3, hx⟩ := ob hx
    refine jj_getI C fd_X8_117 dX8_back_17 ev3 ?_
    refine jj_iload_n C 1 1 dX8_back_20 rfl rfl ?_
    refine jj_isub C dX8_back_21 ?_
    obtain ⟨v4, ev4, hx⟩ := ob hx
    refine jj_put C fd_X8_117 rfl rfl dX8_back_22 ev4 ?_
    refine jj_aload_n C 0 0 dX8_back_25 rfl rfl ?_
    obtain ⟨v5, ev5, hx⟩ := ob hx
    refine jj_getI C fd_X8_117 dX8_back_26 ev5 ?_
    obtain rfl := Option.some.inj hx
    exact jj_iret C dX8_back_29 rfl
  · rw [if_pos q9] at hx
    refine jj_bipush (v := (-2)) C dX8_back_12 (by decide) ?_
    obtain rfl := Option.some.inj hx
    exact jj_iret C dX8_back_14 rfl
def x_X8_begins (F : Nat) (h : pH) (l0 : Nat) (l1 : Int32) : Option pH :=
  (chk 8 h l0).bind fun _ =>
  (getI 8 h l0 1).bind fun v1 =>
  (putV 8 h l0 1 (.int (((31 : Int32) * v1) + l1))).bind fun v2 =>
  some v2
theorem o_X8_begins {F : Nat} {h : pH} {l0 : Nat} {l1 : Int32} {res : pH} (hx : x_X8_begins F h l0 l1 = some res) : chk 8 h l0 = some () := by
  unfold x_X8_begins at hx
  obtain ⟨_, e, _⟩ := ob hx
  exact e
theorem mc_X8_begins (l : Launch) (G : pG) (F n : Nat) {h : pH} {l0 : Nat} {l1 : Int32} {res : pH} (hx : x_X8_begins F h l0 l1 = some res) : MC l yX8_begins cX8_begins 2 none (rmD 0 0 0) G [.ref l0, .int l1] n h (none) n res := by
  unfold x_X8_begins at hx
  obtain ⟨_, _, hx⟩ := ob hx
  refine jj_entry RX8 rfl (by decide) (Nat.le_of_ble_eq_true rfl) (fun X _ _ C => ?_)
  show J X G (0, 0, none, n, res) (0, 0, n) h 0 [(0, .ref l0), (1, .int l1)] []
  refine jj_aload_n C 0 0 dX8_begins_0 rfl rfl ?_
  refine jj_bipush (v := 31) C dX8_begins_1 (by decide) ?_
  refine jj_aload_n C 0 0 dX8_begins_3 rfl rfl ?_
  obtain ⟨v1, ev1, hx⟩ := ob hx
  refine jj_getI C fd_X8_212 dX8_begins_4 ev1 ?_
  refine jj_imul C dX8_begins_7 ?_
  refine jj_iload_n C 1 1 dX8_begins_8 rfl rfl ?_
  refine jj_iadd C dX8_begins_9 ?_
  obtain ⟨v2, ev2, hx⟩ := ob hx
  refine jj_put C fd_X8_212 rfl rfl dX8_begins_10 ev2 ?_
  obtain rfl := Option.some.inj hx
  exact jj_vret C dX8_begins_13 rfl
def x_X8_isSheet (F : Nat) (h : pH) (l0 : Int32) : Option Int32 :=
  (x_X8_within F h l0 0 3).bind fun v1 =>
  retZ v1
theorem mc_X8_isSheet (l : Launch) (G : pG) (F n : Nat) {h : pH} {l0 : Int32} {res : Int32} (hx : x_X8_isSheet F h l0 = some res) : MC l yX8_isSheet cX8_isSheet 1 (some (FieldType.boolean)) (rmD 1 0 0) G [.int l0] n h (some (.int res)) n h := by
  unfold x_X8_isSheet at hx
  refine jj_entry RX8 rfl (by decide) (Nat.le_of_ble_eq_true rfl) (fun X _ _ C => ?_)
  show J X G (0, 0, some (.int res), n, h) (0, 0, n) h 0 [(0, .int l0)] []
  refine jj_iload_n C 0 0 dX8_isSheet_0 rfl rfl ?_
  refine jj_iconst (v := 0) C dX8_isSheet_1 (by decide) ?_
  refine jj_iconst (v := 3) C dX8_isSheet_2 (by decide) ?_
  obtain ⟨v1, ev1, hx⟩ := ob hx
  refine jj_callS C [.int l0, .int 0, .int 3] lk_X8_83 (mc_X8_within X.2.1 G F n ev1) rfl rfl (Nat.le_of_ble_eq_true rfl) ⟨Nat.le_of_ble_eq_true rfl, Nat.le_of_ble_eq_true rfl⟩ ⟨Nat.zero_le _, Nat.zero_le _⟩ rfl dX8_isSheet_3 rfl rfl ?_
  obtain ⟨zr, rfl⟩ := retZ_inv hx
  exact jj_zret C zr dX8_isSheet_6 rfl
def x_X8_isSort (F : Nat) (h : pH) (l0 : Int32) : Option Int32 :=
  (x_X8_within F h l0 0 2).bind fun v1 =>
  retZ v1
theorem mc_X8_isSort (l : Launch) (G : pG) (F n : Nat) {h : pH} {l0 : Int32} {res : Int32} (hx : x_X8_isSort F h l0 = some res) : MC l yX8_isSort cX8_isSort 1 (some (FieldType.boolean)) (rmD 1 0 0) G [.int l0] n h (some (.int res)) n h := by
  unfold x_X8_isSort at hx
  refine jj_entry RX8 rfl (by decide) (Nat.le_of_ble_eq_true rfl) (fun X _ _ C => ?_)
  show J X G (0, 0, some (.int res), n, h) (0, 0, n) h 0 [(0, .int l0)] []
  refine jj_iload_n C 0 0 dX8_isSort_0 rfl rfl ?_
  refine jj_iconst (v := 0) C dX8_isSort_1 (by decide) ?_
  refine jj_iconst (v := 2) C dX8_isSort_2 (by decide) ?_
  obtain ⟨v1, ev1, hx⟩ := ob hx
  refine jj_callS C [.int l0, .int 0, .int 2] lk_X8_83 (mc_X8_within X.2.1 G F n ev1) rfl rfl (Nat.le_of_ble_eq_true rfl) ⟨Nat.le_of_ble_eq_true rfl, Nat.le_of_ble_eq_true rfl⟩ ⟨Nat.zero_le _, Nat.zero_le _⟩ rfl dX8_isSort_3 rfl rfl ?_
  obtain ⟨zr, rfl⟩ := retZ_inv hx
  exact jj_zret C zr dX8_isSort_6 rfl
def x_X8_lost (F : Nat) (h : pH) (l0 : Nat) (l1 : Int32) : Option (Int64 × pH) :=
  (chk 8 h l0).bind fun _ =>
  (putV 8 h l0 0 (.int l1)).bind fun v1 =>
  some ((-9223372036854775808 : Int64), v1)
theorem o_X8_lost {F : Nat} {h : pH} {l0 : Nat} {l1 : Int32} {res : (Int64 × pH)} (hx : x_X8_lost F h l0 l1 = some res) : chk 8 h l0 = some () := by
  unfold x_X8_lost at hx
  obtain ⟨_, e, _⟩ := ob hx
  exact e
theorem mc_X8_lost (l : Launch) (G : pG) (F n : Nat) {h : pH} {l0 : Nat} {l1 : Int32} {res : (Int64 × pH)} (hx : x_X8_lost F h l0 l1 = some res) : MC l yX8_lost cX8_lost 2 (some (FieldType.long)) (rmD 0 0 0) G [.ref l0, .int l1] n h (some (.long res.1)) n res.2 := by
  unfold x_X8_lost at hx
  obtain ⟨_, _, hx⟩ := ob hx
  refine jj_entry RX8 rfl (by decide) (Nat.le_of_ble_eq_true rfl) (fun X _ _ C => ?_)
  show J X G (0, 0, some (.long res.1), n, res.2) (0, 0, n) h 0 [(0, .ref l0), (1, .int l1)] []
  refine jj_aload_n C 0 0 dX8_lost_0 rfl rfl ?_
  refine jj_iload_n C 1 1 dX8_lost_1 rfl rfl ?_
  obtain ⟨v1, ev1, hx⟩ := ob hx
  refine jj_put C fd_X8_77 rfl rfl dX8_lost_2 ev1 ?_
  refine jj_ldc2 C dX8_lost_5 ct_X8_81 ?_
  obtain rfl := Option.some.inj hx
  exact jj_lret C dX8_lost_8 rfl
def x_X8_cell_50 (F : Nat)  (h : pH) (l0 : Nat) (l1 : Int32) (l2 : Int32) : Option (Int64 × pH) :=
  (getR 8 h l0 2).bind fun v1 =>
  (aldI 0 h v1 l1).bind fun v2 =>
  if v2 = ((-9)) then
    (x_X8_lost F h l0 1).bind fun v9 =>
    some (v9.1, v9.2)
  else
    (getR 8 h l0 3).bind fun v3 =>
    (aldI 0 h v3 l1).bind fun v4 =>
    (x_X8_within F h l2 0 (v4 - (1 : Int32))).bind fun v5 =>
    if v5 = 0 then
      (x_X8_lost F h l0 3).bind fun v8 =>
      some (v8.1, v8.2)
    else
      (getR 8 h l0 4).bind fun v6 =>
      (aldI 0 h v6 (((60 : Int32) * l1) + l2)).bind fun v7 =>
      some (v7.toInt64, h)
theorem t_X8_cell_50 {X : pX} {G : pG} {n : Nat} {res : (Int64 × pH)} (C : Cx X G RX8 cX8_cell 4 (rmD 2 0 0) n (some (FieldType.long))) (F : Nat) {h : pH} {l0 : Nat} {l1 : Int32} {l2 : Int32} (hx : x_X8_cell_50 F h l0 l1 l2 = some res) : J X G (0, 0, some (.long res.1), n, res.2) (0, 0, n) h 50 [(0, .ref l0), (1, .int l1), (2, .int l2)] [] := by
  unfold x_X8_cell_50 at hx
  refine jj_aload_n C 0 0 dX8_cell_50 rfl rfl ?_
  obtain ⟨v1, ev1, hx⟩ := ob hx
  refine jj_getR C fd_X8_9 dX8_cell_51 ev1 ?_
  refine jj_iload_n C 1 1 dX8_cell_54 rfl rfl ?_
  obtain ⟨v2, ev2, hx⟩ := ob hx
  refine jj_iald C dX8_cell_55 ev2 ?_
  refine jj_bipush (v := (-9)) C dX8_cell_56 (by decide) ?_
  refine jj_icmp_ne (tgt := 67) C dX8_cell_58 (by decide) (fun q58 => ?_) (fun q58 => ?_)
  · rw [if_neg q58] at hx
    refine jj_iload_n C 2 2 dX8_cell_67 rfl rfl ?_
    refine jj_iconst (v := 0) C dX8_cell_68 (by decide) ?_
    refine jj_aload_n C 0 0 dX8_cell_69 rfl rfl ?_
    obtain ⟨v3, ev3, hx⟩ := ob hx
    refine jj_getR C fd_X8_13 dX8_cell_70 ev3 ?_
    refine jj_iload_n C 1 1 dX8_cell_73 rfl rfl ?_
    obtain ⟨v4, ev4, hx⟩ := ob hx
    refine jj_iald C dX8_cell_74 ev4 ?_
    refine jj_iconst (v := 1) C dX8_cell_75 (by decide) ?_
    refine jj_isub C dX8_cell_76 ?_
    obtain ⟨v5, ev5, hx⟩ := ob hx
    refine jj_callS C [.int l2, .int 0, .int (v4 - (1 : Int32))] lk_X8_83 (mc_X8_within X.2.1 G F n ev5) rfl rfl (Nat.le_of_ble_eq_true rfl) ⟨Nat.le_of_ble_eq_true rfl, Nat.le_of_ble_eq_true rfl⟩ ⟨Nat.zero_le _, Nat.zero_le _⟩ rfl dX8_cell_77 rfl rfl ?_
    refine jj_if_ne (tgt := 89) C dX8_cell_80 (by decide) (fun q80 => ?_) (fun q80 => ?_)
    · rw [if_neg q80] at hx
      refine jj_aload_n C 0 0 dX8_cell_89 rfl rfl ?_
      obtain ⟨v6, ev6, hx⟩ := ob hx
      refine jj_getR C fd_X8_16 dX8_cell_90 ev6 ?_
      refine jj_bipush (v := 60) C dX8_cell_93 (by decide) ?_
      refine jj_iload_n C 1 1 dX8_cell_95 rfl rfl ?_
      refine jj_imul C dX8_cell_96 ?_
      refine jj_iload_n C 2 2 dX8_cell_97 rfl rfl ?_
      refine jj_iadd C dX8_cell_98 ?_
      obtain ⟨v7, ev7, hx⟩ := ob hx
      refine jj_iald C dX8_cell_99 ev7 ?_
      refine jj_i2l C dX8_cell_100 ?_
      obtain rfl := Option.some.inj hx
      exact jj_lret C dX8_cell_101 rfl
    · rw [if_pos q80] at hx
      refine jj_aload_n C 0 0 dX8_cell_83 rfl rfl ?_
      refine jj_iconst (v := 3) C dX8_cell_84 (by decide) ?_
      obtain ⟨v8, ev8, hx⟩ := ob hx
      refine jj_callV C [.int 3] lk_X8_209 (mc_X8_lost X.2.1 G F n ev8) (o_X8_lost ev8) rfl rfl (Nat.le_of_ble_eq_true rfl) ⟨Nat.le_of_ble_eq_true rfl, Nat.le_of_ble_eq_true rfl⟩ ⟨Nat.zero_le _, Nat.zero_le _⟩ rfl dX8_cell_85 rfl rfl ?_
      obtain rfl := Option.some.inj hx
      exact jj_lret C dX8_cell_88 rfl
  · rw [if_pos q58] at hx
    refine jj_aload_n C 0 0 dX8_cell_61 rfl rfl ?_
    refine jj_iconst (v := 1) C dX8_cell_62 (by decide) ?_
    obtain ⟨v9, ev9, hx⟩ := ob hx
    refine jj_callV C [.int 1] lk_X8_209 (mc_X8_lost X.2.1 G F n ev9) (o_X8_lost ev9) rfl rfl (Nat.le_of_ble_eq_true rfl) ⟨Nat.le_of_ble_eq_true rfl, Nat.le_of_ble_eq_true rfl⟩ ⟨Nat.zero_le _, Nat.zero_le _⟩ rfl dX8_cell_63 rfl rfl ?_
    obtain rfl := Option.some.inj hx
    exact jj_lret C dX8_cell_66 rfl
def x_X8_cell (F : Nat) (h : pH) (l0 : Nat) (l1 : Int32) (l2 : Int32) (l3 : Int32) : Option (Int64 × pH) :=
  (chk 8 h l0).bind fun _ =>
  (putV 8 h l0 0 (.int 0)).bind fun v1 =>
  (x_X8_isSheet F v1 l1).bind fun v2 =>
  if v2 = 0 then
    some ((-9223372036854775808 : Int64), v1)
  else
    (x_X8_isSort F v1 l3).bind fun v3 =>
    if v3 = 0 then
      some ((-9223372036854775808 : Int64), v1)
    else
      (getR 8 v1 l0 2).bind fun v4 =>
      (aldI 0 v1 v4 l1).bind fun v5 =>
      if v5 = ((-9)) then
        x_X8_cell_50 F v1 l0 l1 l2
      else
        (getR 8 v1 l0 2).bind fun v6 =>
        (aldI 0 v1 v6 l1).bind fun v7 =>
        if v7 = l3 then
          x_X8_cell_50 F v1 l0 l1 l2
        else
          (x_X8_lost F v1 l0 2).bind fun v8 =>
          some (v8.1, v8.2)
theorem o_X8_cell {F : Nat} {h : pH} {l0 : Nat} {l1 : Int32} {l2 : Int32} {l3 : Int32} {res : (Int64 × pH)} (hx : x_X8_cell F h l0 l1 l2 l3 = some res) : chk 8 h l0 = some () := by
  unfold x_X8_cell at hx
  obtain ⟨_, e, _⟩ := ob hx
  exact e
theorem mc_X8_cell (l : Launch) (G : pG) (F n : Nat) {h : pH} {l0 : Nat} {l1 : Int32} {l2 : Int32} {l3 : Int32} {res : (Int64 × pH)} (hx : x_X8_cell F h l0 l1 l2 l3 = some res) : MC l yX8_cell cX8_cell 4 (some (FieldType.long)) (rmD 2 0 0) G [.ref l0, .int l1, .int l2, .int l3] n h (some (.long res.1)) n res.2 := by
  unfold x_X8_cell at hx
  obtain ⟨_, _, hx⟩ := ob hx
  refine jj_entry RX8 rfl (by decide) (Nat.le_of_ble_eq_true rfl) (fun X _ _ C => ?_)
  show J X G (0, 0, some (.long res.1), n, res.2) (0, 0, n) h 0 [(0, .ref l0), (1, .int l1), (2, .int l2), (3, .int l3)] []
  refine jj_aload_n C 0 0 dX8_cell_0 rfl rfl ?_
  refine jj_iconst (v := 0) C dX8_cell_1 (by decide) ?_
  obtain ⟨v1, ev1, hx⟩ := ob hx
  refine jj_put C fd_X8_77 rfl rfl dX8_cell_2 ev1 ?_
  refine jj_iload_n C 1 1 dX8_cell_5 rfl rfl ?_
  obtain ⟨v2, ev2, hx⟩ := ob hx
  refine jj_callS C [.int l1] lk_X8_93 (mc_X8_isSheet X.2.1 G F n ev2) rfl rfl (Nat.le_of_ble_eq_true rfl) ⟨Nat.le_of_ble_eq_true rfl, Nat.le_of_ble_eq_true rfl⟩ ⟨Nat.zero_le _, Nat.zero_le _⟩ rfl dX8_cell_6 rfl rfl ?_
  refine jj_if_eq (tgt := 19) C dX8_cell_9 (by decide) (fun q9 => ?_) (fun q9 => ?_)
  · rw [if_pos q9] at hx
    refine jj_ldc2 C dX8_cell_19 ct_X8_81 ?_
    obtain rfl := Option.some.inj hx
    exact jj_lret C dX8_cell_22 rfl
  · rw [if_neg q9] at hx
    refine jj_iload_n C 3 3 dX8_cell_12 rfl rfl ?_
    obtain ⟨v3, ev3, hx⟩ := ob hx
    refine jj_callS C [.int l3] lk_X8_97 (mc_X8_isSort X.2.1 G F n ev3) rfl rfl (Nat.le_of_ble_eq_true rfl) ⟨Nat.le_of_ble_eq_true rfl, Nat.le_of_ble_eq_true rfl⟩ ⟨Nat.zero_le _, Nat.zero_le _⟩ rfl dX8_cell_13 rfl rfl ?_
    refine jj_if_ne (tgt := 23) C dX8_cell_16 (by decide) (fun q16 => ?_) (fun q16 => ?_)
    · rw [if_neg q16] at hx
      refine jj_aload_n C 0 0 dX8_cell_23 rfl rfl ?_
      obtain ⟨v4, ev4, hx⟩ := ob hx
      refine jj_getR C fd_X8_9 dX8_cell_24 ev4 ?_
      refine jj_iload_n C 1 1 dX8_cell_27 rfl rfl ?_
      obtain ⟨v5, ev5, hx⟩ := ob hx
      refine jj_iald C dX8_cell_28 ev5 ?_
      refine jj_bipush (v := (-9)) C dX8_cell_29 (by decide) ?_
      refine jj_icmp_eq (tgt := 50) C dX8_cell_31 (by decide) (fun q31 => ?_) (fun q31 => ?_)
      · rw [if_pos q31] at hx
        refine jj_sub [0, 1, 2] rfl ?_
        exact t_X8_cell_50 C F hx
      · rw [if_neg q31] at hx
        refine jj_aload_n C 0 0 dX8_cell_34 rfl rfl ?_
        obtain ⟨v6, ev6, hx⟩ := ob hx
        refine jj_getR C fd_X8_9 dX8_cell_35 ev6 ?_
        refine jj_iload_n C 1 1 dX8_cell_38 rfl rfl ?_
        obtain ⟨v7, ev7, hx⟩ := ob hx
        refine jj_iald C dX8_cell_39 ev7 ?_
        refine jj_iload_n C 3 3 dX8_cell_40 rfl rfl ?_
        refine jj_icmp_eq (tgt := 50) C dX8_cell_41 (by decide) (fun q41 => ?_) (fun q41 => ?_)
        · rw [if_pos q41] at hx
          refine jj_sub [0, 1, 2] rfl ?_
          exact t_X8_cell_50 C F hx
        · rw [if_neg q41] at hx
          refine jj_aload_n C 0 0 dX8_cell_44 rfl rfl ?_
          refine jj_iconst (v := 2) C dX8_cell_45 (by decide) ?_
          obtain ⟨v8, ev8, hx⟩ := ob hx
          refine jj_callV C [.int 2] lk_X8_209 (mc_X8_lost X.2.1 G F n ev8) (o_X8_lost ev8) rfl rfl (Nat.le_of_ble_eq_true rfl) ⟨Nat.le_of_ble_eq_true rfl, Nat.le_of_ble_eq_true rfl⟩ ⟨Nat.zero_le _, Nat.zero_le _⟩ rfl dX8_cell_46 rfl rfl ?_
          obtain rfl := Option.some.inj hx
          exact jj_lret C dX8_cell_49 rfl
    · rw [if_pos q16] at hx
      refine jj_ldc2 C dX8_cell_19 ct_X8_81 ?_
      obtain rfl := Option.some.inj hx
      exact jj_lret C dX8_cell_22 rfl
def x_X8_copy_43 (F : Nat)  (h : pH) (l0 : Nat) : Option (Int32 × pH) :=
  (x_X8_fails F h l0 1).bind fun v1 =>
  some (v1.1, v1.2)
theorem t_X8_copy_43 {X : pX} {G : pG} {n : Nat} {res : (Int32 × pH)} (C : Cx X G RX8 cX8_copy 10 (rmD 2 0 0) n (some (FieldType.int))) (F : Nat) {h : pH} {l0 : Nat} (hx : x_X8_copy_43 F h l0 = some res) : J X G (0, 0, some (.int res.1), n, res.2) (0, 0, n) h 43 [(0, .ref l0)] [] := by
  unfold x_X8_copy_43 at hx
  refine jj_aload_n C 0 0 dX8_copy_43 rfl rfl ?_
  refine jj_iconst (v := 1) C dX8_copy_44 (by decide) ?_
  obtain ⟨v1, ev1, hx⟩ := ob hx
  refine jj_callV C [.int 1] lk_X8_104 (mc_X8_fails X.2.1 G F n ev1) (o_X8_fails ev1) rfl rfl (Nat.le_of_ble_eq_true rfl) ⟨Nat.le_of_ble_eq_true rfl, Nat.le_of_ble_eq_true rfl⟩ ⟨Nat.zero_le _, Nat.zero_le _⟩ rfl dX8_copy_45 rfl rfl ?_
  obtain rfl := Option.some.inj hx
  exact jj_iret C dX8_copy_48 rfl
def x_X8_copy_144 (F : Nat)  (h : pH) (l0 : Nat) : Option (Int32 × pH) :=
  (x_X8_fails F h l0 3).bind fun v1 =>
  some (v1.1, v1.2)
theorem t_X8_copy_144 {X : pX} {G : pG} {n : Nat} {res : (Int32 × pH)} (C : Cx X G RX8 cX8_copy 10 (rmD 2 0 0) n (some (FieldType.int))) (F : Nat) {h : pH} {l0 : Nat} (hx : x_X8_copy_144 F h l0 = some res) : J X G (0, 0, some (.int res.1), n, res.2) (0, 0, n) h 144 [(0, .ref l0)] [] := by
  unfold x_X8_copy_144 at hx
  refine jj_aload_n C 0 0 dX8_copy_144 rfl rfl ?_
  refine jj_iconst (v := 3) C dX8_copy_145 (by decide) ?_
  obtain ⟨v1, ev1, hx⟩ := ob hx
  refine jj_callV C [.int 3] lk_X8_104 (mc_X8_fails X.2.1 G F n ev1) (o_X8_fails ev1) rfl rfl (Nat.le_of_ble_eq_true rfl) ⟨Nat.le_of_ble_eq_true rfl, Nat.le_of_ble_eq_true rfl⟩ ⟨Nat.zero_le _, Nat.zero_le _⟩ rfl dX8_copy_146 rfl rfl ?_
  obtain rfl := Option.some.inj hx
  exact jj_iret C dX8_copy_149 rfl
def x_X8_copy_190 (F : Nat) (k166 : pH → Int32 → Option (Int32 × pH)) (h : pH) (l0 : Nat) (l1 : Int32) (l2 : Int32) (l3 : Int32) (l4 : Int32) (l5 : Int32) (l7 : Int32) (l8 : Int32) (s0 : Int32) : Option (Int32 × pH) :=
  (getR 8 h l0 4).bind fun v1 =>
  (getR 8 h l0 4).bind fun v2 =>
  (aldI 0 h v2 ((((60 : Int32) * l1) + l2) + s0)).bind fun v3 =>
  (astI 0 h v1 ((((60 : Int32) * l3) + l4) + s0) v3).bind fun v4 =>
  k166 v4 (l8 + 1)
theorem t_X8_copy_190 {X : pX} {G : pG} {n : Nat} {res : (Int32 × pH)} (C : Cx X G RX8 cX8_copy 10 (rmD 2 0 0) n (some (FieldType.int))) (F : Nat) {h : pH} {l0 : Nat} {l1 : Int32} {l2 : Int32} {l3 : Int32} {l4 : Int32} {l5 : Int32} {l7 : Int32} {l8 : Int32} {s0 : Int32} {k166 : pH → Int32 → Option (Int32 × pH)} (hk166 : ∀ (h : pH) (l8 : Int32), k166 h l8 = some res → J X G (0, 0, some (.int res.1), n, res.2) (0, 0, n) h 166 [(0, .ref l0), (1, .int l1), (2, .int l2), (3, .int l3), (4, .int l4), (5, .int l5), (7, .int l7), (8, .int l8)] []) (hx : x_X8_copy_190 F k166 h l0 l1 l2 l3 l4 l5 l7 l8 s0 = some res) : J X G (0, 0, some (.int res.1), n, res.2) (0, 0, n) h 190 [(0, .ref l0), (1, .int l1), (2, .int l2), (3, .int l3), (4, .int l4), (5, .int l5), (7, .int l7), (8, .int l8)] [.int s0] := by
  unfold x_X8_copy_190 at hx
  refine jj_istore C 9 dX8_copy_190 rfl (by decide) ?_
  refine jj_aload_n C 0 1 dX8_copy_192 rfl rfl ?_
  obtain ⟨v1, ev1, hx⟩ := ob hx
  refine jj_getR C fd_X8_16 dX8_copy_193 ev1 ?_
  refine jj_bipush (v := 60) C dX8_copy_196 (by decide) ?_
  refine jj_iload_n C 3 4 dX8_copy_198 rfl rfl ?_
  refine jj_imul C dX8_copy_199 ?_
  refine jj_iload C 4 5 dX8_copy_200 rfl ?_
  refine jj_iadd C dX8_copy_202 ?_
  refine jj_iload C 9 0 dX8_copy_203 rfl ?_
  refine jj_iadd C dX8_copy_205 ?_
  refine jj_aload_n C 0 1 dX8_copy_206 rfl rfl ?_
  obtain ⟨v2, ev2, hx⟩ := ob hx
  refine jj_getR C fd_X8_16 dX8_copy_207 ev2 ?_
  refine jj_bipush (v := 60) C dX8_copy_210 (by decide) ?_
  refine jj_iload_n C 1 2 dX8_copy_212 rfl rfl ?_
  refine jj_imul C dX8_copy_213 ?_
  refine jj_iload_n C 2 3 dX8_copy_214 rfl rfl ?_
  refine jj_iadd C dX8_copy_215 ?_
  refine jj_iload C 9 0 dX8_copy_216 rfl ?_
  refine jj_iadd C dX8_copy_218 ?_
  obtain ⟨v3, ev3, hx⟩ := ob hx
  refine jj_iald C dX8_copy_219 ev3 ?_
  obtain ⟨v4, ev4, hx⟩ := ob hx
  refine jj_iast C dX8_copy_220 ev4 ?_
  refine jj_iinc (v := l8 + 1) C 8 8 dX8_copy_221 rfl rfl rfl (by decide) ?_
  refine jj_goto (tgt := 166) C dX8_copy_224 (by decide) ?_
  refine jj_sub [2, 3, 4, 5, 6, 7, 8, 0] rfl ?_
  exact hk166 _ _ hx
def s_X8_copy_166 (F : Nat)  (l0 : Nat) (l1 : Int32) (l2 : Int32) (l3 : Int32) (l4 : Int32) (l5 : Int32) (l7 : Int32) (k166 : pH → Int32 → Option (Int32 × pH)) (h : pH) (l8 : Int32) : Option (Int32 × pH) :=
  if l5 ≤ l8 then
    some (l5, h)
  else
    if l7 = 0 then
      x_X8_copy_190 F k166 h l0 l1 l2 l3 l4 l5 l7 l8 l8
    else
      x_X8_copy_190 F k166 h l0 l1 l2 l3 l4 l5 l7 l8 ((l5 - (1 : Int32)) - l8)
def x_X8_copy_166 (F : Nat)  (l0 : Nat) (l1 : Int32) (l2 : Int32) (l3 : Int32) (l4 : Int32) (l5 : Int32) (l7 : Int32) : Nat → pH → Int32 → Option (Int32 × pH)
  | 0, _, _ => none
  | m + 1, h, l8 => s_X8_copy_166 F l0 l1 l2 l3 l4 l5 l7 (x_X8_copy_166 F l0 l1 l2 l3 l4 l5 l7 m) h l8
theorem ts_X8_copy_166 {X : pX} {G : pG} {n : Nat} {res : (Int32 × pH)} (C : Cx X G RX8 cX8_copy 10 (rmD 2 0 0) n (some (FieldType.int))) (F : Nat) {l0 : Nat} {l1 : Int32} {l2 : Int32} {l3 : Int32} {l4 : Int32} {l5 : Int32} {l7 : Int32} {k166 : pH → Int32 → Option (Int32 × pH)} (hk166 : ∀ (h : pH) (l8 : Int32), k166 h l8 = some res → J X G (0, 0, some (.int res.1), n, res.2) (0, 0, n) h 166 [(0, .ref l0), (1, .int l1), (2, .int l2), (3, .int l3), (4, .int l4), (5, .int l5), (7, .int l7), (8, .int l8)] []) {h : pH} {l8 : Int32} (hx : s_X8_copy_166 F l0 l1 l2 l3 l4 l5 l7 k166 h l8 = some res) : J X G (0, 0, some (.int res.1), n, res.2) (0, 0, n) h 166 [(0, .ref l0), (1, .int l1), (2, .int l2), (3, .int l3), (4, .int l4), (5, .int l5), (7, .int l7), (8, .int l8)] [] := by
  unfold s_X8_copy_166 at hx
  refine jj_iload C 8 7 dX8_copy_166 rfl ?_
  refine jj_iload C 5 5 dX8_copy_168 rfl ?_
  refine jj_icmp_ge (tgt := 227) C dX8_copy_170 (by decide) (fun q170 => ?_) (fun q170 => ?_)
  · rw [if_pos q170] at hx
    refine jj_iload C 5 5 dX8_copy_227 rfl ?_
    obtain rfl := Option.some.inj hx
    exact jj_iret C dX8_copy_229 rfl
  · rw [if_neg q170] at hx
    refine jj_iload C 7 6 dX8_copy_173 rfl ?_
    refine jj_if_eq (tgt := 188) C dX8_copy_175 (by decide) (fun q175 => ?_) (fun q175 => ?_)
    · rw [if_pos q175] at hx
      refine jj_iload C 8 7 dX8_copy_188 rfl ?_
      exact t_X8_copy_190 C F hk166 hx
    · rw [if_neg q175] at hx
      refine jj_iload C 5 5 dX8_copy_178 rfl ?_
      refine jj_iconst (v := 1) C dX8_copy_180 (by decide) ?_
      refine jj_isub C dX8_copy_181 ?_
      refine jj_iload C 8 7 dX8_copy_182 rfl ?_
      refine jj_isub C dX8_copy_184 ?_
      refine jj_goto (tgt := 190) C dX8_copy_185 (by decide) ?_
      exact t_X8_copy_190 C F hk166 hx
theorem t_X8_copy_166 {X : pX} {G : pG} {n : Nat} {res : (Int32 × pH)} (C : Cx X G RX8 cX8_copy 10 (rmD 2 0 0) n (some (FieldType.int))) (F : Nat) {l0 : Nat} {l1 : Int32} {l2 : Int32} {l3 : Int32} {l4 : Int32} {l5 : Int32} {l7 : Int32} : ∀ (m : Nat) (h : pH) (l8 : Int32), x_X8_copy_166 F l0 l1 l2 l3 l4 l5 l7 m h l8 = some res → J X G (0, 0, some (.int res.1), n, res.2) (0, 0, n) h 166 [(0, .ref l0), (1, .int l1), (2, .int l2), (3, .int l3), (4, .int l4), (5, .int l5), (7, .int l7), (8, .int l8)] [] := by
  intro m
  induction m with
  | zero => intro h l8 hx; exact nomatch (show (none : Option (Int32 × pH)) = some res from hx)
  | succ m ih => intro h l8 hx; exact ts_X8_copy_166 C F  ih hx
def x_X8_copy_161 (F : Nat)  (h : pH) (l0 : Nat) (l1 : Int32) (l2 : Int32) (l3 : Int32) (l4 : Int32) (l5 : Int32) (s0 : Int32) : Option (Int32 × pH) :=
  x_X8_copy_166 F l0 l1 l2 l3 l4 l5 s0 F h 0
theorem t_X8_copy_161 {X : pX} {G : pG} {n : Nat} {res : (Int32 × pH)} (C : Cx X G RX8 cX8_copy 10 (rmD 2 0 0) n (some (FieldType.int))) (F : Nat) {h : pH} {l0 : Nat} {l1 : Int32} {l2 : Int32} {l3 : Int32} {l4 : Int32} {l5 : Int32} {s0 : Int32} (hx : x_X8_copy_161 F h l0 l1 l2 l3 l4 l5 s0 = some res) : J X G (0, 0, some (.int res.1), n, res.2) (0, 0, n) h 161 [(0, .ref l0), (1, .int l1), (2, .int l2), (3, .int l3), (4, .int l4), (5, .int l5)] [.int s0] := by
  unfold x_X8_copy_161 at hx
  refine jj_istore C 7 dX8_copy_161 rfl (by decide) ?_
  refine jj_iconst (v := 0) C dX8_copy_163 (by decide) ?_
  refine jj_istore C 8 dX8_copy_164 rfl (by decide) ?_
  refine jj_sub [2, 3, 4, 5, 6, 7, 1, 0] rfl ?_
  exact t_X8_copy_166 C F F _ _ hx
def x_X8_copy_110 (F : Nat)  (h : pH) (l0 : Nat) (l1 : Int32) (l2 : Int32) (l3 : Int32) (l4 : Int32) (l5 : Int32) (s0 : Int32) : Option (Int32 × pH) :=
  if s0 = 0 then
    x_X8_copy_144 F h l0
  else
    (getR 8 h l0 3).bind fun v1 =>
    (aldI 0 h v1 l1).bind fun v2 =>
    if (v2 - l2) < l5 then
      x_X8_copy_144 F h l0
    else
      (getR 8 h l0 3).bind fun v3 =>
      (aldI 0 h v3 l3).bind fun v4 =>
      if l5 ≤ (v4 - l4) then
        if l4 ≤ l2 then
          x_X8_copy_161 F h l0 l1 l2 l3 l4 l5 0
        else
          x_X8_copy_161 F h l0 l1 l2 l3 l4 l5 1
      else
        x_X8_copy_144 F h l0
theorem t_X8_copy_110 {X : pX} {G : pG} {n : Nat} {res : (Int32 × pH)} (C : Cx X G RX8 cX8_copy 10 (rmD 2 0 0) n (some (FieldType.int))) (F : Nat) {h : pH} {l0 : Nat} {l1 : Int32} {l2 : Int32} {l3 : Int32} {l4 : Int32} {l5 : Int32} {s0 : Int32} (hx : x_X8_copy_110 F h l0 l1 l2 l3 l4 l5 s0 = some res) : J X G (0, 0, some (.int res.1), n, res.2) (0, 0, n) h 110 [(0, .ref l0), (1, .int l1), (2, .int l2), (3, .int l3), (4, .int l4), (5, .int l5)] [.int s0] := by
  unfold x_X8_copy_110 at hx
  refine jj_istore C 6 dX8_copy_110 rfl (by decide) ?_
  refine jj_iload C 6 0 dX8_copy_112 rfl ?_
  refine jj_if_eq (tgt := 144) C dX8_copy_114 (by decide) (fun q114 => ?_) (fun q114 => ?_)
  · rw [if_pos q114] at hx
    refine jj_sub [1] rfl ?_
    exact t_X8_copy_144 C F hx
  · rw [if_neg q114] at hx
    refine jj_iload C 5 6 dX8_copy_117 rfl ?_
    refine jj_aload_n C 0 1 dX8_copy_119 rfl rfl ?_
    obtain ⟨v1, ev1, hx⟩ := ob hx
    refine jj_getR C fd_X8_13 dX8_copy_120 ev1 ?_
    refine jj_iload_n C 1 2 dX8_copy_123 rfl rfl ?_
    obtain ⟨v2, ev2, hx⟩ := ob hx
    refine jj_iald C dX8_copy_124 ev2 ?_
    refine jj_iload_n C 2 3 dX8_copy_125 rfl rfl ?_
    refine jj_isub C dX8_copy_126 ?_
    refine jj_icmp_gt (tgt := 144) C dX8_copy_127 (by decide) (fun q127 => ?_) (fun q127 => ?_)
    · rw [if_pos q127] at hx
      refine jj_sub [1] rfl ?_
      exact t_X8_copy_144 C F hx
    · rw [if_neg q127] at hx
      refine jj_iload C 5 6 dX8_copy_130 rfl ?_
      refine jj_aload_n C 0 1 dX8_copy_132 rfl rfl ?_
      obtain ⟨v3, ev3, hx⟩ := ob hx
      refine jj_getR C fd_X8_13 dX8_copy_133 ev3 ?_
      refine jj_iload_n C 3 4 dX8_copy_136 rfl rfl ?_
      obtain ⟨v4, ev4, hx⟩ := ob hx
      refine jj_iald C dX8_copy_137 ev4 ?_
      refine jj_iload C 4 5 dX8_copy_138 rfl ?_
      refine jj_isub C dX8_copy_140 ?_
      refine jj_icmp_le (tgt := 150) C dX8_copy_141 (by decide) (fun q141 => ?_) (fun q141 => ?_)
      · rw [if_pos q141] at hx
        refine jj_iload_n C 2 3 dX8_copy_150 rfl rfl ?_
        refine jj_iload C 4 5 dX8_copy_151 rfl ?_
        refine jj_icmp_ge (tgt := 160) C dX8_copy_153 (by decide) (fun q153 => ?_) (fun q153 => ?_)
        · rw [if_pos q153] at hx
          refine jj_iconst (v := 0) C dX8_copy_160 (by decide) ?_
          refine jj_sub [1, 2, 3, 4, 5, 6] rfl ?_
          exact t_X8_copy_161 C F hx
        · rw [if_neg q153] at hx
          refine jj_iconst (v := 1) C dX8_copy_156 (by decide) ?_
          refine jj_goto (tgt := 161) C dX8_copy_157 (by decide) ?_
          refine jj_sub [1, 2, 3, 4, 5, 6] rfl ?_
          exact t_X8_copy_161 C F hx
      · rw [if_neg q141] at hx
        refine jj_sub [1] rfl ?_
        exact t_X8_copy_144 C F hx
def x_X8_copy_109 (F : Nat)  (h : pH) (l0 : Nat) (l1 : Int32) (l2 : Int32) (l3 : Int32) (l4 : Int32) (l5 : Int32) : Option (Int32 × pH) :=
  x_X8_copy_110 F h l0 l1 l2 l3 l4 l5 0
theorem t_X8_copy_109 {X : pX} {G : pG} {n : Nat} {res : (Int32 × pH)} (C : Cx X G RX8 cX8_copy 10 (rmD 2 0 0) n (some (FieldType.int))) (F : Nat) {h : pH} {l0 : Nat} {l1 : Int32} {l2 : Int32} {l3 : Int32} {l4 : Int32} {l5 : Int32} (hx : x_X8_copy_109 F h l0 l1 l2 l3 l4 l5 = some res) : J X G (0, 0, some (.int res.1), n, res.2) (0, 0, n) h 109 [(0, .ref l0), (1, .int l1), (2, .int l2), (3, .int l3), (4, .int l4), (5, .int l5)] [] := by
  unfold x_X8_copy_109 at hx
  refine jj_iconst (v := 0) C dX8_copy_109 (by decide) ?_
  exact t_X8_copy_110 C F hx
def x_X8_copy (F : Nat) (h : pH) (l0 : Nat) (l1 : Int32) (l2 : Int32) (l3 : Int32) (l4 : Int32) (l5 : Int32) : Option (Int32 × pH) :=
  (chk 8 h l0).bind fun _ =>
  (putV 8 h l0 0 (.int 0)).bind fun v1 =>
  (x_X8_isSheet F v1 l1).bind fun v2 =>
  if v2 = 0 then
    some ((-1 : Int32), v1)
  else
    (x_X8_isSheet F v1 l3).bind fun v3 =>
    if v3 = 0 then
      some ((-1 : Int32), v1)
    else
      (getR 8 v1 l0 2).bind fun v4 =>
      (aldI 0 v1 v4 l1).bind fun v5 =>
      if v5 = ((-9)) then
        x_X8_copy_43 F v1 l0
      else
        (getR 8 v1 l0 2).bind fun v6 =>
        (aldI 0 v1 v6 l3).bind fun v7 =>
        if v7 = ((-9)) then
          x_X8_copy_43 F v1 l0
        else
          (getR 8 v1 l0 2).bind fun v8 =>
          (aldI 0 v1 v8 l1).bind fun v9 =>
          (getR 8 v1 l0 2).bind fun v10 =>
          (aldI 0 v1 v10 l3).bind fun v11 =>
          if v9 = v11 then
            if l2 < 0 then
              x_X8_copy_109 F v1 l0 l1 l2 l3 l4 l5
            else
              if l4 < 0 then
                x_X8_copy_109 F v1 l0 l1 l2 l3 l4 l5
              else
                if l5 < 0 then
                  x_X8_copy_109 F v1 l0 l1 l2 l3 l4 l5
                else
                  (getR 8 v1 l0 3).bind fun v12 =>
                  (aldI 0 v1 v12 l1).bind fun v13 =>
                  if v13 < l2 then
                    x_X8_copy_109 F v1 l0 l1 l2 l3 l4 l5
                  else
                    (getR 8 v1 l0 3).bind fun v14 =>
                    (aldI 0 v1 v14 l3).bind fun v15 =>
                    if v15 < l4 then
                      x_X8_copy_109 F v1 l0 l1 l2 l3 l4 l5
                    else
                      x_X8_copy_110 F v1 l0 l1 l2 l3 l4 l5 1
          else
            (x_X8_fails F v1 l0 2).bind fun v16 =>
            some (v16.1, v16.2)
theorem o_X8_copy {F : Nat} {h : pH} {l0 : Nat} {l1 : Int32} {l2 : Int32} {l3 : Int32} {l4 : Int32} {l5 : Int32} {res : (Int32 × pH)} (hx : x_X8_copy F h l0 l1 l2 l3 l4 l5 = some res) : chk 8 h l0 = some () := by
  unfold x_X8_copy at hx
  obtain ⟨_, e, _⟩ := ob hx
  exact e
theorem mc_X8_copy (l : Launch) (G : pG) (F n : Nat) {h : pH} {l0 : Nat} {l1 : Int32} {l2 : Int32} {l3 : Int32} {l4 : Int32} {l5 : Int32} {res : (Int32 × pH)} (hx : x_X8_copy F h l0 l1 l2 l3 l4 l5 = some res) : MC l yX8_copy cX8_copy 10 (some (FieldType.int)) (rmD 2 0 0) G [.ref l0, .int l1, .int l2, .int l3, .int l4, .int l5] n h (some (.int res.1)) n res.2 := by
  unfold x_X8_copy at hx
  obtain ⟨_, _, hx⟩ := ob hx
  refine jj_entry RX8 rfl (by decide) (Nat.le_of_ble_eq_true rfl) (fun X _ _ C => ?_)
  show J X G (0, 0, some (.int res.1), n, res.2) (0, 0, n) h 0 [(0, .ref l0), (1, .int l1), (2, .int l2), (3, .int l3), (4, .int l4), (5, .int l5)] []
  refine jj_aload_n C 0 0 dX8_copy_0 rfl rfl ?_
  refine jj_iconst (v := 0) C dX8_copy_1 (by decide) ?_
  obtain ⟨v1, ev1, hx⟩ := ob hx
  refine jj_put C fd_X8_77 rfl rfl dX8_copy_2 ev1 ?_
  refine jj_iload_n C 1 1 dX8_copy_5 rfl rfl ?_
  obtain ⟨v2, ev2, hx⟩ := ob hx
  refine jj_callS C [.int l1] lk_X8_93 (mc_X8_isSheet X.2.1 G F n ev2) rfl rfl (Nat.le_of_ble_eq_true rfl) ⟨Nat.le_of_ble_eq_true rfl, Nat.le_of_ble_eq_true rfl⟩ ⟨Nat.zero_le _, Nat.zero_le _⟩ rfl dX8_copy_6 rfl rfl ?_
  refine jj_if_eq (tgt := 19) C dX8_copy_9 (by decide) (fun q9 => ?_) (fun q9 => ?_)
  · rw [if_pos q9] at hx
    refine jj_iconst (v := (-1)) C dX8_copy_19 (by decide) ?_
    obtain rfl := Option.some.inj hx
    exact jj_iret C dX8_copy_20 rfl
  · rw [if_neg q9] at hx
    refine jj_iload_n C 3 3 dX8_copy_12 rfl rfl ?_
    obtain ⟨v3, ev3, hx⟩ := ob hx
    refine jj_callS C [.int l3] lk_X8_93 (mc_X8_isSheet X.2.1 G F n ev3) rfl rfl (Nat.le_of_ble_eq_true rfl) ⟨Nat.le_of_ble_eq_true rfl, Nat.le_of_ble_eq_true rfl⟩ ⟨Nat.zero_le _, Nat.zero_le _⟩ rfl dX8_copy_13 rfl rfl ?_
    refine jj_if_ne (tgt := 21) C dX8_copy_16 (by decide) (fun q16 => ?_) (fun q16 => ?_)
    · rw [if_neg q16] at hx
      refine jj_aload_n C 0 0 dX8_copy_21 rfl rfl ?_
      obtain ⟨v4, ev4, hx⟩ := ob hx
      refine jj_getR C fd_X8_9 dX8_copy_22 ev4 ?_
      refine jj_iload_n C 1 1 dX8_copy_25 rfl rfl ?_
      obtain ⟨v5, ev5, hx⟩ := ob hx
      refine jj_iald C dX8_copy_26 ev5 ?_
      refine jj_bipush (v := (-9)) C dX8_copy_27 (by decide) ?_
      refine jj_icmp_eq (tgt := 43) C dX8_copy_29 (by decide) (fun q29 => ?_) (fun q29 => ?_)
      · rw [if_pos q29] at hx
        refine jj_sub [0] rfl ?_
        exact t_X8_copy_43 C F hx
      · rw [if_neg q29] at hx
        refine jj_aload_n C 0 0 dX8_copy_32 rfl rfl ?_
        obtain ⟨v6, ev6, hx⟩ := ob hx
        refine jj_getR C fd_X8_9 dX8_copy_33 ev6 ?_
        refine jj_iload_n C 3 3 dX8_copy_36 rfl rfl ?_
        obtain ⟨v7, ev7, hx⟩ := ob hx
        refine jj_iald C dX8_copy_37 ev7 ?_
        refine jj_bipush (v := (-9)) C dX8_copy_38 (by decide) ?_
        refine jj_icmp_ne (tgt := 49) C dX8_copy_40 (by decide) (fun q40 => ?_) (fun q40 => ?_)
        · rw [if_neg q40] at hx
          refine jj_aload_n C 0 0 dX8_copy_49 rfl rfl ?_
          obtain ⟨v8, ev8, hx⟩ := ob hx
          refine jj_getR C fd_X8_9 dX8_copy_50 ev8 ?_
          refine jj_iload_n C 1 1 dX8_copy_53 rfl rfl ?_
          obtain ⟨v9, ev9, hx⟩ := ob hx
          refine jj_iald C dX8_copy_54 ev9 ?_
          refine jj_aload_n C 0 0 dX8_copy_55 rfl rfl ?_
          obtain ⟨v10, ev10, hx⟩ := ob hx
          refine jj_getR C fd_X8_9 dX8_copy_56 ev10 ?_
          refine jj_iload_n C 3 3 dX8_copy_59 rfl rfl ?_
          obtain ⟨v11, ev11, hx⟩ := ob hx
          refine jj_iald C dX8_copy_60 ev11 ?_
          refine jj_icmp_eq (tgt := 70) C dX8_copy_61 (by decide) (fun q61 => ?_) (fun q61 => ?_)
          · rw [if_pos q61] at hx
            refine jj_iload_n C 2 2 dX8_copy_70 rfl rfl ?_
            refine jj_if_lt (tgt := 109) C dX8_copy_71 (by decide) (fun q71 => ?_) (fun q71 => ?_)
            · rw [if_pos q71] at hx
              exact t_X8_copy_109 C F hx
            · rw [if_neg q71] at hx
              refine jj_iload C 4 4 dX8_copy_74 rfl ?_
              refine jj_if_lt (tgt := 109) C dX8_copy_76 (by decide) (fun q76 => ?_) (fun q76 => ?_)
              · rw [if_pos q76] at hx
                exact t_X8_copy_109 C F hx
              · rw [if_neg q76] at hx
                refine jj_iload C 5 5 dX8_copy_79 rfl ?_
                refine jj_if_lt (tgt := 109) C dX8_copy_81 (by decide) (fun q81 => ?_) (fun q81 => ?_)
                · rw [if_pos q81] at hx
                  exact t_X8_copy_109 C F hx
                · rw [if_neg q81] at hx
                  refine jj_iload_n C 2 2 dX8_copy_84 rfl rfl ?_
                  refine jj_aload_n C 0 0 dX8_copy_85 rfl rfl ?_
                  obtain ⟨v12, ev12, hx⟩ := ob hx
                  refine jj_getR C fd_X8_13 dX8_copy_86 ev12 ?_
                  refine jj_iload_n C 1 1 dX8_copy_89 rfl rfl ?_
                  obtain ⟨v13, ev13, hx⟩ := ob hx
                  refine jj_iald C dX8_copy_90 ev13 ?_
                  refine jj_icmp_gt (tgt := 109) C dX8_copy_91 (by decide) (fun q91 => ?_) (fun q91 => ?_)
                  · rw [if_pos q91] at hx
                    exact t_X8_copy_109 C F hx
                  · rw [if_neg q91] at hx
                    refine jj_iload C 4 4 dX8_copy_94 rfl ?_
                    refine jj_aload_n C 0 0 dX8_copy_96 rfl rfl ?_
                    obtain ⟨v14, ev14, hx⟩ := ob hx
                    refine jj_getR C fd_X8_13 dX8_copy_97 ev14 ?_
                    refine jj_iload_n C 3 3 dX8_copy_100 rfl rfl ?_
                    obtain ⟨v15, ev15, hx⟩ := ob hx
                    refine jj_iald C dX8_copy_101 ev15 ?_
                    refine jj_icmp_gt (tgt := 109) C dX8_copy_102 (by decide) (fun q102 => ?_) (fun q102 => ?_)
                    · rw [if_pos q102] at hx
                      exact t_X8_copy_109 C F hx
                    · rw [if_neg q102] at hx
                      refine jj_iconst (v := 1) C dX8_copy_105 (by decide) ?_
                      refine jj_goto (tgt := 110) C dX8_copy_106 (by decide) ?_
                      exact t_X8_copy_110 C F hx
          · rw [if_neg q61] at hx
            refine jj_aload_n C 0 0 dX8_copy_64 rfl rfl ?_
            refine jj_iconst (v := 2) C dX8_copy_65 (by decide) ?_
            obtain ⟨v16, ev16, hx⟩ := ob hx
            refine jj_callV C [.int 2] lk_X8_104 (mc_X8_fails X.2.1 G F n ev16) (o_X8_fails ev16) rfl rfl (Nat.le_of_ble_eq_true rfl) ⟨Nat.le_of_ble_eq_true rfl, Nat.le_of_ble_eq_true rfl⟩ ⟨Nat.zero_le _, Nat.zero_le _⟩ rfl dX8_copy_66 rfl rfl ?_
            obtain rfl := Option.some.inj hx
            exact jj_iret C dX8_copy_69 rfl
        · rw [if_pos q40] at hx
          refine jj_sub [0] rfl ?_
          exact t_X8_copy_43 C F hx
    · rw [if_pos q16] at hx
      refine jj_iconst (v := (-1)) C dX8_copy_19 (by decide) ?_
      obtain rfl := Option.some.inj hx
      exact jj_iret C dX8_copy_20 rfl
def x_X8_fault (F : Nat) (h : pH) (l0 : Nat) : Option Int32 :=
  (chk 8 h l0).bind fun _ =>
  (getI 8 h l0 0).bind fun v1 =>
  some v1
theorem o_X8_fault {F : Nat} {h : pH} {l0 : Nat} {res : Int32} (hx : x_X8_fault F h l0 = some res) : chk 8 h l0 = some () := by
  unfold x_X8_fault at hx
  obtain ⟨_, e, _⟩ := ob hx
  exact e
theorem mc_X8_fault (l : Launch) (G : pG) (F n : Nat) {h : pH} {l0 : Nat} {res : Int32} (hx : x_X8_fault F h l0 = some res) : MC l yX8_fault cX8_fault 1 (some (FieldType.int)) (rmD 0 0 0) G [.ref l0] n h (some (.int res)) n h := by
  unfold x_X8_fault at hx
  obtain ⟨_, _, hx⟩ := ob hx
  refine jj_entry RX8 rfl (by decide) (Nat.le_of_ble_eq_true rfl) (fun X _ _ C => ?_)
  show J X G (0, 0, some (.int res), n, h) (0, 0, n) h 0 [(0, .ref l0)] []
  refine jj_aload_n C 0 0 dX8_fault_0 rfl rfl ?_
  obtain ⟨v1, ev1, hx⟩ := ob hx
  refine jj_getI C fd_X8_77 dX8_fault_1 ev1 ?_
  obtain rfl := Option.some.inj hx
  exact jj_iret C dX8_fault_4 rfl
def x_X8_findWays_27 (F : Nat) (k6 : pH → Int32 → Option pH) (h : pH) (l0 : Nat) (l1 : Int32) (l2 : Int32) (s0 : Int64) (s1 : Int32) (s2 : Nat) : Option pH :=
  (astL h s2 s1 s0).bind fun v1 =>
  k6 v1 (l2 + 1)
theorem t_X8_findWays_27 {X : pX} {G : pG} {n : Nat} {res : pH} (C : Cx X G RX8 cX8_findWays 5 (rmD 4 0 0) n none) (F : Nat) {h : pH} {l0 : Nat} {l1 : Int32} {l2 : Int32} {s0 : Int64} {s1 : Int32} {s2 : Nat} {k6 : pH → Int32 → Option pH} (hk6 : ∀ (h : pH) (l2 : Int32), k6 h l2 = some res → J X G (0, 0, none, n, res) (0, 0, n) h 6 [(0, .ref l0), (1, .int l1), (2, .int l2)] []) (hx : x_X8_findWays_27 F k6 h l0 l1 l2 s0 s1 s2 = some res) : J X G (0, 0, none, n, res) (0, 0, n) h 27 [(0, .ref l0), (1, .int l1), (2, .int l2)] [.long s0, .int s1, .ref s2] := by
  unfold x_X8_findWays_27 at hx
  obtain ⟨v1, ev1, hx⟩ := ob hx
  refine jj_last C dX8_findWays_27 ev1 ?_
  refine jj_iinc (v := l2 + 1) C 2 2 dX8_findWays_28 rfl rfl rfl (by decide) ?_
  refine jj_goto (tgt := 6) C dX8_findWays_31 (by decide) ?_
  refine jj_sub [1, 2, 0] rfl ?_
  exact hk6 _ _ hx
def x_X8_findWays_119 (F : Nat) (k36 : pH → Int32 → Option pH) (k65 : pH → Int32 → Option pH) (h : pH) (l0 : Nat) (l1 : Int32) (l2 : Int32) (l3 : Int32) : Option pH :=
  k65 h (l3 + 1)
theorem t_X8_findWays_119 {X : pX} {G : pG} {n : Nat} {res : pH} (C : Cx X G RX8 cX8_findWays 5 (rmD 4 0 0) n none) (F : Nat) {h : pH} {l0 : Nat} {l1 : Int32} {l2 : Int32} {l3 : Int32} {k36 : pH → Int32 → Option pH} (hk36 : ∀ (h : pH) (l2 : Int32), k36 h l2 = some res → J X G (0, 0, none, n, res) (0, 0, n) h 36 [(0, .ref l0), (1, .int l1), (2, .int l2)] []) {k65 : pH → Int32 → Option pH} (hk65 : ∀ (h : pH) (l3 : Int32), k65 h l3 = some res → J X G (0, 0, none, n, res) (0, 0, n) h 65 [(0, .ref l0), (1, .int l1), (2, .int l2), (3, .int l3)] []) (hx : x_X8_findWays_119 F k36 k65 h l0 l1 l2 l3 = some res) : J X G (0, 0, none, n, res) (0, 0, n) h 119 [(0, .ref l0), (1, .int l1), (2, .int l2), (3, .int l3)] [] := by
  unfold x_X8_findWays_119 at hx
  refine jj_iinc (v := l3 + 1) C 3 3 dX8_findWays_119 rfl rfl rfl (by decide) ?_
  refine jj_goto (tgt := 65) C dX8_findWays_122 (by decide) ?_
  refine jj_sub [1, 2, 3, 0] rfl ?_
  exact hk65 _ _ hx
def s_X8_findWays_75 (F : Nat) (k36 : pH → Int32 → Option pH) (k65 : pH → Int32 → Option pH) (l0 : Nat) (l1 : Int32) (l2 : Int32) (l3 : Int32) (k75 : pH → Int32 → Option pH) (h : pH) (l4 : Int32) : Option pH :=
  if 3 ≤ l4 then
    x_X8_findWays_119 F k36 k65 h l0 l1 l2 l3
  else
    (getR 8 h l0 21).bind fun v1 =>
    (aldL h v1 l3).bind fun v2 =>
    if (lg_cmp v2 0) ≤ 0 then
      x_X8_findWays_119 F k36 k65 h l0 l1 l2 l3
    else
      (getR 8 h l0 22).bind fun v3 =>
      (x_X8_behindLetter F h l0 l3 l4).bind fun v4 =>
      (aldL h v3 v4).bind fun v5 =>
      (getR 8 h l0 21).bind fun v6 =>
      (aldL h v6 l3).bind fun v7 =>
      (astL h v3 v4 (v5 + v7)).bind fun v8 =>
      k75 v8 (l4 + 1)
def x_X8_findWays_75 (F : Nat) (k36 : pH → Int32 → Option pH) (k65 : pH → Int32 → Option pH) (l0 : Nat) (l1 : Int32) (l2 : Int32) (l3 : Int32) : Nat → pH → Int32 → Option pH
  | 0, _, _ => none
  | m + 1, h, l4 => s_X8_findWays_75 F k36 k65 l0 l1 l2 l3 (x_X8_findWays_75 F k36 k65 l0 l1 l2 l3 m) h l4
theorem ts_X8_findWays_75 {X : pX} {G : pG} {n : Nat} {res : pH} (C : Cx X G RX8 cX8_findWays 5 (rmD 4 0 0) n none) (F : Nat) {l0 : Nat} {l1 : Int32} {l2 : Int32} {l3 : Int32} {k36 : pH → Int32 → Option pH} (hk36 : ∀ (h : pH) (l2 : Int32), k36 h l2 = some res → J X G (0, 0, none, n, res) (0, 0, n) h 36 [(0, .ref l0), (1, .int l1), (2, .int l2)] []) {k65 : pH → Int32 → Option pH} (hk65 : ∀ (h : pH) (l3 : Int32), k65 h l3 = some res → J X G (0, 0, none, n, res) (0, 0, n) h 65 [(0, .ref l0), (1, .int l1), (2, .int l2), (3, .int l3)] []) {k75 : pH → Int32 → Option pH} (hk75 : ∀ (h : pH) (l4 : Int32), k75 h l4 = some res → J X G (0, 0, none, n, res) (0, 0, n) h 75 [(0, .ref l0), (1, .int l1), (2, .int l2), (3, .int l3), (4, .int l4)] []) {h : pH} {l4 : Int32} (hx : s_X8_findWays_75 F k36 k65 l0 l1 l2 l3 k75 h l4 = some res) : J X G (0, 0, none, n, res) (0, 0, n) h 75 [(0, .ref l0), (1, .int l1), (2, .int l2), (3, .int l3), (4, .int l4)] [] := by
  unfold s_X8_findWays_75 at hx
  refine jj_iload C 4 4 dX8_findWays_75 rfl ?_
  refine jj_iconst (v := 3) C dX8_findWays_77 (by decide) ?_
  refine jj_icmp_ge (tgt := 119) C dX8_findWays_78 (by decide) (fun q78 => ?_) (fun q78 => ?_)
  · rw [if_pos q78] at hx
    refine jj_sub [0, 1, 2, 3] rfl ?_
    exact t_X8_findWays_119 C F hk36 hk65 hx
  · rw [if_neg q78] at hx
    refine jj_aload_n C 0 0 dX8_findWays_81 rfl rfl ?_
    obtain ⟨v1, ev1, hx⟩ := ob hx
    refine jj_getR C fd_X8_52 dX8_findWays_82 ev1 ?_
    refine jj_iload_n C 3 3 dX8_findWays_85 rfl rfl ?_
    obtain ⟨v2, ev2, hx⟩ := ob hx
    refine jj_lald C dX8_findWays_86 ev2 ?_
    refine jj_lconst (v := 0) C dX8_findWays_87 (by decide) ?_
    refine jj_lcmp C dX8_findWays_88 ?_
    refine jj_if_le (tgt := 119) C dX8_findWays_89 (by decide) (fun q89 => ?_) (fun q89 => ?_)
    · rw [if_pos q89] at hx
      refine jj_sub [0, 1, 2, 3] rfl ?_
      exact t_X8_findWays_119 C F hk36 hk65 hx
    · rw [if_neg q89] at hx
      refine jj_aload_n C 0 0 dX8_findWays_92 rfl rfl ?_
      obtain ⟨v3, ev3, hx⟩ := ob hx
      refine jj_getR C fd_X8_56 dX8_findWays_93 ev3 ?_
      refine jj_aload_n C 0 0 dX8_findWays_96 rfl rfl ?_
      refine jj_iload_n C 3 3 dX8_findWays_97 rfl rfl ?_
      refine jj_iload C 4 4 dX8_findWays_98 rfl ?_
      obtain ⟨v4, ev4, hx⟩ := ob hx
      refine jj_callV C [.int l3, .int l4] lk_X8_178 (mc_X8_behindLetter X.2.1 G F n ev4) (o_X8_behindLetter ev4) rfl rfl (Nat.le_of_ble_eq_true rfl) ⟨Nat.le_of_ble_eq_true rfl, Nat.le_of_ble_eq_true rfl⟩ ⟨Nat.zero_le _, Nat.zero_le _⟩ rfl dX8_findWays_100 rfl rfl ?_
      refine jj_dup2 C dX8_findWays_103 rfl rfl ?_
      obtain ⟨v5, ev5, hx⟩ := ob hx
      refine jj_lald C dX8_findWays_104 ev5 ?_
      refine jj_aload_n C 0 0 dX8_findWays_105 rfl rfl ?_
      obtain ⟨v6, ev6, hx⟩ := ob hx
      refine jj_getR C fd_X8_52 dX8_findWays_106 ev6 ?_
      refine jj_iload_n C 3 3 dX8_findWays_109 rfl rfl ?_
      obtain ⟨v7, ev7, hx⟩ := ob hx
      refine jj_lald C dX8_findWays_110 ev7 ?_
      refine jj_ladd C dX8_findWays_111 ?_
      obtain ⟨v8, ev8, hx⟩ := ob hx
      refine jj_last C dX8_findWays_112 ev8 ?_
      refine jj_iinc (v := l4 + 1) C 4 4 dX8_findWays_113 rfl rfl rfl (by decide) ?_
      refine jj_goto (tgt := 75) C dX8_findWays_116 (by decide) ?_
      refine jj_sub [1, 2, 3, 4, 0] rfl ?_
      exact hk75 _ _ hx
theorem t_X8_findWays_75 {X : pX} {G : pG} {n : Nat} {res : pH} (C : Cx X G RX8 cX8_findWays 5 (rmD 4 0 0) n none) (F : Nat) {l0 : Nat} {l1 : Int32} {l2 : Int32} {l3 : Int32} {k36 : pH → Int32 → Option pH} (hk36 : ∀ (h : pH) (l2 : Int32), k36 h l2 = some res → J X G (0, 0, none, n, res) (0, 0, n) h 36 [(0, .ref l0), (1, .int l1), (2, .int l2)] []) {k65 : pH → Int32 → Option pH} (hk65 : ∀ (h : pH) (l3 : Int32), k65 h l3 = some res → J X G (0, 0, none, n, res) (0, 0, n) h 65 [(0, .ref l0), (1, .int l1), (2, .int l2), (3, .int l3)] []) : ∀ (m : Nat) (h : pH) (l4 : Int32), x_X8_findWays_75 F k36 k65 l0 l1 l2 l3 m h l4 = some res → J X G (0, 0, none, n, res) (0, 0, n) h 75 [(0, .ref l0), (1, .int l1), (2, .int l2), (3, .int l3), (4, .int l4)] [] := by
  intro m
  induction m with
  | zero => intro h l4 hx; exact nomatch (show (none : Option pH) = some res from hx)
  | succ m ih => intro h l4 hx; exact ts_X8_findWays_75 C F hk36 hk65 ih hx
def s_X8_findWays_127 (F : Nat) (k36 : pH → Int32 → Option pH) (l0 : Nat) (l1 : Int32) (l2 : Int32) (k127 : pH → Int32 → Option pH) (h : pH) (l3 : Int32) : Option pH :=
  if 640 ≤ l3 then
    k36 h (l2 + 1)
  else
    (getR 8 h l0 21).bind fun v1 =>
    (getR 8 h l0 22).bind fun v2 =>
    (aldL h v2 l3).bind fun v3 =>
    (astL h v1 l3 v3).bind fun v4 =>
    k127 v4 (l3 + 1)
def x_X8_findWays_127 (F : Nat) (k36 : pH → Int32 → Option pH) (l0 : Nat) (l1 : Int32) (l2 : Int32) : Nat → pH → Int32 → Option pH
  | 0, _, _ => none
  | m + 1, h, l3 => s_X8_findWays_127 F k36 l0 l1 l2 (x_X8_findWays_127 F k36 l0 l1 l2 m) h l3
theorem ts_X8_findWays_127 {X : pX} {G : pG} {n : Nat} {res : pH} (C : Cx X G RX8 cX8_findWays 5 (rmD 4 0 0) n none) (F : Nat) {l0 : Nat} {l1 : Int32} {l2 : Int32} {k36 : pH → Int32 → Option pH} (hk36 : ∀ (h : pH) (l2 : Int32), k36 h l2 = some res → J X G (0, 0, none, n, res) (0, 0, n) h 36 [(0, .ref l0), (1, .int l1), (2, .int l2)] []) {k127 : pH → Int32 → Option pH} (hk127 : ∀ (h : pH) (l3 : Int32), k127 h l3 = some res → J X G (0, 0, none, n, res) (0, 0, n) h 127 [(0, .ref l0), (1, .int l1), (2, .int l2), (3, .int l3)] []) {h : pH} {l3 : Int32} (hx : s_X8_findWays_127 F k36 l0 l1 l2 k127 h l3 = some res) : J X G (0, 0, none, n, res) (0, 0, n) h 127 [(0, .ref l0), (1, .int l1), (2, .int l2), (3, .int l3)] [] := by
  unfold s_X8_findWays_127 at hx
  refine jj_iload_n C 3 3 dX8_findWays_127 rfl rfl ?_
  refine jj_sipush (v := 640) C dX8_findWays_128 (by decide) ?_
  refine jj_icmp_ge (tgt := 152) C dX8_findWays_131 (by decide) (fun q131 => ?_) (fun q131 => ?_)
  · rw [if_pos q131] at hx
    refine jj_iinc (v := l2 + 1) C 2 2 dX8_findWays_152 rfl rfl rfl (by decide) ?_
    refine jj_goto (tgt := 36) C dX8_findWays_155 (by decide) ?_
    refine jj_sub [1, 2, 0] rfl ?_
    exact hk36 _ _ hx
  · rw [if_neg q131] at hx
    refine jj_aload_n C 0 0 dX8_findWays_134 rfl rfl ?_
    obtain ⟨v1, ev1, hx⟩ := ob hx
    refine jj_getR C fd_X8_52 dX8_findWays_135 ev1 ?_
    refine jj_iload_n C 3 3 dX8_findWays_138 rfl rfl ?_
    refine jj_aload_n C 0 0 dX8_findWays_139 rfl rfl ?_
    obtain ⟨v2, ev2, hx⟩ := ob hx
    refine jj_getR C fd_X8_56 dX8_findWays_140 ev2 ?_
    refine jj_iload_n C 3 3 dX8_findWays_143 rfl rfl ?_
    obtain ⟨v3, ev3, hx⟩ := ob hx
    refine jj_lald C dX8_findWays_144 ev3 ?_
    obtain ⟨v4, ev4, hx⟩ := ob hx
    refine jj_last C dX8_findWays_145 ev4 ?_
    refine jj_iinc (v := l3 + 1) C 3 3 dX8_findWays_146 rfl rfl rfl (by decide) ?_
    refine jj_goto (tgt := 127) C dX8_findWays_149 (by decide) ?_
    refine jj_sub [1, 2, 3, 0] rfl ?_
    exact hk127 _ _ hx
theorem t_X8_findWays_127 {X : pX} {G : pG} {n : Nat} {res : pH} (C : Cx X G RX8 cX8_findWays 5 (rmD 4 0 0) n none) (F : Nat) {l0 : Nat} {l1 : Int32} {l2 : Int32} {k36 : pH → Int32 → Option pH} (hk36 : ∀ (h : pH) (l2 : Int32), k36 h l2 = some res → J X G (0, 0, none, n, res) (0, 0, n) h 36 [(0, .ref l0), (1, .int l1), (2, .int l2)] []) : ∀ (m : Nat) (h : pH) (l3 : Int32), x_X8_findWays_127 F k36 l0 l1 l2 m h l3 = some res → J X G (0, 0, none, n, res) (0, 0, n) h 127 [(0, .ref l0), (1, .int l1), (2, .int l2), (3, .int l3)] [] := by
  intro m
  induction m with
  | zero => intro h l3 hx; exact nomatch (show (none : Option pH) = some res from hx)
  | succ m ih => intro h l3 hx; exact ts_X8_findWays_127 C F hk36 ih hx
def s_X8_findWays_65 (F : Nat) (k36 : pH → Int32 → Option pH) (l0 : Nat) (l1 : Int32) (l2 : Int32) (k65 : pH → Int32 → Option pH) (h : pH) (l3 : Int32) : Option pH :=
  if 640 ≤ l3 then
    x_X8_findWays_127 F k36 l0 l1 l2 F h 0
  else
    x_X8_findWays_75 F k36 k65 l0 l1 l2 l3 F h 0
def x_X8_findWays_65 (F : Nat) (k36 : pH → Int32 → Option pH) (l0 : Nat) (l1 : Int32) (l2 : Int32) : Nat → pH → Int32 → Option pH
  | 0, _, _ => none
  | m + 1, h, l3 => s_X8_findWays_65 F k36 l0 l1 l2 (x_X8_findWays_65 F k36 l0 l1 l2 m) h l3
theorem ts_X8_findWays_65 {X : pX} {G : pG} {n : Nat} {res : pH} (C : Cx X G RX8 cX8_findWays 5 (rmD 4 0 0) n none) (F : Nat) {l0 : Nat} {l1 : Int32} {l2 : Int32} {k36 : pH → Int32 → Option pH} (hk36 : ∀ (h : pH) (l2 : Int32), k36 h l2 = some res → J X G (0, 0, none, n, res) (0, 0, n) h 36 [(0, .ref l0), (1, .int l1), (2, .int l2)] []) {k65 : pH → Int32 → Option pH} (hk65 : ∀ (h : pH) (l3 : Int32), k65 h l3 = some res → J X G (0, 0, none, n, res) (0, 0, n) h 65 [(0, .ref l0), (1, .int l1), (2, .int l2), (3, .int l3)] []) {h : pH} {l3 : Int32} (hx : s_X8_findWays_65 F k36 l0 l1 l2 k65 h l3 = some res) : J X G (0, 0, none, n, res) (0, 0, n) h 65 [(0, .ref l0), (1, .int l1), (2, .int l2), (3, .int l3)] [] := by
  unfold s_X8_findWays_65 at hx
  refine jj_iload_n C 3 3 dX8_findWays_65 rfl rfl ?_
  refine jj_sipush (v := 640) C dX8_findWays_66 (by decide) ?_
  refine jj_icmp_ge (tgt := 125) C dX8_findWays_69 (by decide) (fun q69 => ?_) (fun q69 => ?_)
  · rw [if_pos q69] at hx
    refine jj_iconst (v := 0) C dX8_findWays_125 (by decide) ?_
    refine jj_istore_n C 3 dX8_findWays_126 rfl rfl (by decide) ?_
    refine jj_sub [1, 2, 3, 0] rfl ?_
    exact t_X8_findWays_127 C F hk36 F _ _ hx
  · rw [if_neg q69] at hx
    refine jj_iconst (v := 0) C dX8_findWays_72 (by decide) ?_
    refine jj_istore C 4 dX8_findWays_73 rfl (by decide) ?_
    refine jj_sub [1, 2, 3, 4, 0] rfl ?_
    exact t_X8_findWays_75 C F hk36 hk65 F _ _ hx
theorem t_X8_findWays_65 {X : pX} {G : pG} {n : Nat} {res : pH} (C : Cx X G RX8 cX8_findWays 5 (rmD 4 0 0) n none) (F : Nat) {l0 : Nat} {l1 : Int32} {l2 : Int32} {k36 : pH → Int32 → Option pH} (hk36 : ∀ (h : pH) (l2 : Int32), k36 h l2 = some res → J X G (0, 0, none, n, res) (0, 0, n) h 36 [(0, .ref l0), (1, .int l1), (2, .int l2)] []) : ∀ (m : Nat) (h : pH) (l3 : Int32), x_X8_findWays_65 F k36 l0 l1 l2 m h l3 = some res → J X G (0, 0, none, n, res) (0, 0, n) h 65 [(0, .ref l0), (1, .int l1), (2, .int l2), (3, .int l3)] [] := by
  intro m
  induction m with
  | zero => intro h l3 hx; exact nomatch (show (none : Option pH) = some res from hx)
  | succ m ih => intro h l3 hx; exact ts_X8_findWays_65 C F hk36 ih hx
def s_X8_findWays_43 (F : Nat) (k36 : pH → Int32 → Option pH) (l0 : Nat) (l1 : Int32) (l2 : Int32) (k43 : pH → Int32 → Option pH) (h : pH) (l3 : Int32) : Option pH :=
  if 640 ≤ l3 then
    x_X8_findWays_65 F k36 l0 l1 l2 F h 0
  else
    (getR 8 h l0 22).bind fun v1 =>
    (astL h v1 l3 0).bind fun v2 =>
    k43 v2 (l3 + 1)
def x_X8_findWays_43 (F : Nat) (k36 : pH → Int32 → Option pH) (l0 : Nat) (l1 : Int32) (l2 : Int32) : Nat → pH → Int32 → Option pH
  | 0, _, _ => none
  | m + 1, h, l3 => s_X8_findWays_43 F k36 l0 l1 l2 (x_X8_findWays_43 F k36 l0 l1 l2 m) h l3
theorem ts_X8_findWays_43 {X : pX} {G : pG} {n : Nat} {res : pH} (C : Cx X G RX8 cX8_findWays 5 (rmD 4 0 0) n none) (F : Nat) {l0 : Nat} {l1 : Int32} {l2 : Int32} {k36 : pH → Int32 → Option pH} (hk36 : ∀ (h : pH) (l2 : Int32), k36 h l2 = some res → J X G (0, 0, none, n, res) (0, 0, n) h 36 [(0, .ref l0), (1, .int l1), (2, .int l2)] []) {k43 : pH → Int32 → Option pH} (hk43 : ∀ (h : pH) (l3 : Int32), k43 h l3 = some res → J X G (0, 0, none, n, res) (0, 0, n) h 43 [(0, .ref l0), (1, .int l1), (2, .int l2), (3, .int l3)] []) {h : pH} {l3 : Int32} (hx : s_X8_findWays_43 F k36 l0 l1 l2 k43 h l3 = some res) : J X G (0, 0, none, n, res) (0, 0, n) h 43 [(0, .ref l0), (1, .int l1), (2, .int l2), (3, .int l3)] [] := by
  unfold s_X8_findWays_43 at hx
  refine jj_iload_n C 3 3 dX8_findWays_43 rfl rfl ?_
  refine jj_sipush (v := 640) C dX8_findWays_44 (by decide) ?_
  refine jj_icmp_ge (tgt := 63) C dX8_findWays_47 (by decide) (fun q47 => ?_) (fun q47 => ?_)
  · rw [if_pos q47] at hx
    refine jj_iconst (v := 0) C dX8_findWays_63 (by decide) ?_
    refine jj_istore_n C 3 dX8_findWays_64 rfl rfl (by decide) ?_
    refine jj_sub [1, 2, 3, 0] rfl ?_
    exact t_X8_findWays_65 C F hk36 F _ _ hx
  · rw [if_neg q47] at hx
    refine jj_aload_n C 0 0 dX8_findWays_50 rfl rfl ?_
    obtain ⟨v1, ev1, hx⟩ := ob hx
    refine jj_getR C fd_X8_56 dX8_findWays_51 ev1 ?_
    refine jj_iload_n C 3 3 dX8_findWays_54 rfl rfl ?_
    refine jj_lconst (v := 0) C dX8_findWays_55 (by decide) ?_
    obtain ⟨v2, ev2, hx⟩ := ob hx
    refine jj_last C dX8_findWays_56 ev2 ?_
    refine jj_iinc (v := l3 + 1) C 3 3 dX8_findWays_57 rfl rfl rfl (by decide) ?_
    refine jj_goto (tgt := 43) C dX8_findWays_60 (by decide) ?_
    refine jj_sub [1, 2, 3, 0] rfl ?_
    exact hk43 _ _ hx
theorem t_X8_findWays_43 {X : pX} {G : pG} {n : Nat} {res : pH} (C : Cx X G RX8 cX8_findWays 5 (rmD 4 0 0) n none) (F : Nat) {l0 : Nat} {l1 : Int32} {l2 : Int32} {k36 : pH → Int32 → Option pH} (hk36 : ∀ (h : pH) (l2 : Int32), k36 h l2 = some res → J X G (0, 0, none, n, res) (0, 0, n) h 36 [(0, .ref l0), (1, .int l1), (2, .int l2)] []) : ∀ (m : Nat) (h : pH) (l3 : Int32), x_X8_findWays_43 F k36 l0 l1 l2 m h l3 = some res → J X G (0, 0, none, n, res) (0, 0, n) h 43 [(0, .ref l0), (1, .int l1), (2, .int l2), (3, .int l3)] [] := by
  intro m
  induction m with
  | zero => intro h l3 hx; exact nomatch (show (none : Option pH) = some res from hx)
  | succ m ih => intro h l3 hx; exact ts_X8_findWays_43 C F hk36 ih hx
def s_X8_findWays_36 (F : Nat)  (l0 : Nat) (l1 : Int32) (k36 : pH → Int32 → Option pH) (h : pH) (l2 : Int32) : Option pH :=
  if l1 ≤ l2 then
    some h
  else
    x_X8_findWays_43 F k36 l0 l1 l2 F h 0
def x_X8_findWays_36 (F : Nat)  (l0 : Nat) (l1 : Int32) : Nat → pH → Int32 → Option pH
  | 0, _, _ => none
  | m + 1, h, l2 => s_X8_findWays_36 F l0 l1 (x_X8_findWays_36 F l0 l1 m) h l2
theorem ts_X8_findWays_36 {X : pX} {G : pG} {n : Nat} {res : pH} (C : Cx X G RX8 cX8_findWays 5 (rmD 4 0 0) n none) (F : Nat) {l0 : Nat} {l1 : Int32} {k36 : pH → Int32 → Option pH} (hk36 : ∀ (h : pH) (l2 : Int32), k36 h l2 = some res → J X G (0, 0, none, n, res) (0, 0, n) h 36 [(0, .ref l0), (1, .int l1), (2, .int l2)] []) {h : pH} {l2 : Int32} (hx : s_X8_findWays_36 F l0 l1 k36 h l2 = some res) : J X G (0, 0, none, n, res) (0, 0, n) h 36 [(0, .ref l0), (1, .int l1), (2, .int l2)] [] := by
  unfold s_X8_findWays_36 at hx
  refine jj_iload_n C 2 2 dX8_findWays_36 rfl rfl ?_
  refine jj_iload_n C 1 1 dX8_findWays_37 rfl rfl ?_
  refine jj_icmp_ge (tgt := 158) C dX8_findWays_38 (by decide) (fun q38 => ?_) (fun q38 => ?_)
  · rw [if_pos q38] at hx
    obtain rfl := Option.some.inj hx
    exact jj_vret C dX8_findWays_158 rfl
  · rw [if_neg q38] at hx
    refine jj_iconst (v := 0) C dX8_findWays_41 (by decide) ?_
    refine jj_istore_n C 3 dX8_findWays_42 rfl rfl (by decide) ?_
    refine jj_sub [1, 2, 3, 0] rfl ?_
    exact t_X8_findWays_43 C F hk36 F _ _ hx
theorem t_X8_findWays_36 {X : pX} {G : pG} {n : Nat} {res : pH} (C : Cx X G RX8 cX8_findWays 5 (rmD 4 0 0) n none) (F : Nat) {l0 : Nat} {l1 : Int32} : ∀ (m : Nat) (h : pH) (l2 : Int32), x_X8_findWays_36 F l0 l1 m h l2 = some res → J X G (0, 0, none, n, res) (0, 0, n) h 36 [(0, .ref l0), (1, .int l1), (2, .int l2)] [] := by
  intro m
  induction m with
  | zero => intro h l2 hx; exact nomatch (show (none : Option pH) = some res from hx)
  | succ m ih => intro h l2 hx; exact ts_X8_findWays_36 C F  ih hx
def s_X8_findWays_6 (F : Nat)  (l0 : Nat) (l1 : Int32) (k6 : pH → Int32 → Option pH) (h : pH) (l2 : Int32) : Option pH :=
  if 640 ≤ l2 then
    x_X8_findWays_36 F l0 l1 F h 0
  else
    (getR 8 h l0 21).bind fun v1 =>
    if l2 = 0 then
      x_X8_findWays_27 F k6 h l0 l1 l2 1 l2 v1
    else
      x_X8_findWays_27 F k6 h l0 l1 l2 0 l2 v1
def x_X8_findWays_6 (F : Nat)  (l0 : Nat) (l1 : Int32) : Nat → pH → Int32 → Option pH
  | 0, _, _ => none
  | m + 1, h, l2 => s_X8_findWays_6 F l0 l1 (x_X8_findWays_6 F l0 l1 m) h l2
theorem ts_X8_findWays_6 {X : pX} {G : pG} {n : Nat} {res : pH} (C : Cx X G RX8 cX8_findWays 5 (rmD 4 0 0) n none) (F : Nat) {l0 : Nat} {l1 : Int32} {k6 : pH → Int32 → Option pH} (hk6 : ∀ (h : pH) (l2 : Int32), k6 h l2 = some res → J X G (0, 0, none, n, res) (0, 0, n) h 6 [(0, .ref l0), (1, .int l1), (2, .int l2)] []) {h : pH} {l2 : Int32} (hx : s_X8_findWays_6 F l0 l1 k6 h l2 = some res) : J X G (0, 0, none, n, res) (0, 0, n) h 6 [(0, .ref l0), (1, .int l1), (2, .int l2)] [] := by
  unfold s_X8_findWays_6 at hx
  refine jj_iload_n C 2 2 dX8_findWays_6 rfl rfl ?_
  refine jj_sipush (v := 640) C dX8_findWays_7 (by decide) ?_
  refine jj_icmp_ge (tgt := 34) C dX8_findWays_10 (by decide) (fun q10 => ?_) (fun q10 => ?_)
  · rw [if_pos q10] at hx
    refine jj_iconst (v := 0) C dX8_findWays_34 (by decide) ?_
    refine jj_istore_n C 2 dX8_findWays_35 rfl rfl (by decide) ?_
    refine jj_sub [1, 2, 0] rfl ?_
    exact t_X8_findWays_36 C F F _ _ hx
  · rw [if_neg q10] at hx
    refine jj_aload_n C 0 0 dX8_findWays_13 rfl rfl ?_
    obtain ⟨v1, ev1, hx⟩ := ob hx
    refine jj_getR C fd_X8_52 dX8_findWays_14 ev1 ?_
    refine jj_iload_n C 2 2 dX8_findWays_17 rfl rfl ?_
    refine jj_iload_n C 2 2 dX8_findWays_18 rfl rfl ?_
    refine jj_if_ne (tgt := 26) C dX8_findWays_19 (by decide) (fun q19 => ?_) (fun q19 => ?_)
    · rw [if_neg q19] at hx
      refine jj_lconst (v := 0) C dX8_findWays_26 (by decide) ?_
      exact t_X8_findWays_27 C F hk6 hx
    · rw [if_pos q19] at hx
      refine jj_lconst (v := 1) C dX8_findWays_22 (by decide) ?_
      refine jj_goto (tgt := 27) C dX8_findWays_23 (by decide) ?_
      exact t_X8_findWays_27 C F hk6 hx
theorem t_X8_findWays_6 {X : pX} {G : pG} {n : Nat} {res : pH} (C : Cx X G RX8 cX8_findWays 5 (rmD 4 0 0) n none) (F : Nat) {l0 : Nat} {l1 : Int32} : ∀ (m : Nat) (h : pH) (l2 : Int32), x_X8_findWays_6 F l0 l1 m h l2 = some res → J X G (0, 0, none, n, res) (0, 0, n) h 6 [(0, .ref l0), (1, .int l1), (2, .int l2)] [] := by
  intro m
  induction m with
  | zero => intro h l2 hx; exact nomatch (show (none : Option pH) = some res from hx)
  | succ m ih => intro h l2 hx; exact ts_X8_findWays_6 C F  ih hx
def x_X8_findWays (F : Nat) (h : pH) (l0 : Nat) (l1 : Int32) : Option pH :=
  (chk 8 h l0).bind fun _ =>
  (x_X8_findNext F h l0).bind fun v1 =>
  x_X8_findWays_6 F l0 l1 F v1 0
theorem o_X8_findWays {F : Nat} {h : pH} {l0 : Nat} {l1 : Int32} {res : pH} (hx : x_X8_findWays F h l0 l1 = some res) : chk 8 h l0 = some () := by
  unfold x_X8_findWays at hx
  obtain ⟨_, e, _⟩ := ob hx
  exact e
theorem mc_X8_findWays (l : Launch) (G : pG) (F n : Nat) {h : pH} {l0 : Nat} {l1 : Int32} {res : pH} (hx : x_X8_findWays F h l0 l1 = some res) : MC l yX8_findWays cX8_findWays 5 none (rmD 4 0 0) G [.ref l0, .int l1] n h (none) n res := by
  unfold x_X8_findWays at hx
  obtain ⟨_, _, hx⟩ := ob hx
  refine jj_entry RX8 rfl (by decide) (Nat.le_of_ble_eq_true rfl) (fun X _ _ C => ?_)
  show J X G (0, 0, none, n, res) (0, 0, n) h 0 [(0, .ref l0), (1, .int l1)] []
  refine jj_aload_n C 0 0 dX8_findWays_0 rfl rfl ?_
  obtain ⟨v1, ev1, hx⟩ := ob hx
  refine jj_callV C [] lk_X8_172 (mc_X8_findNext X.2.1 G F n ev1) (o_X8_findNext ev1) rfl rfl (Nat.le_of_ble_eq_true rfl) ⟨Nat.le_of_ble_eq_true rfl, Nat.le_of_ble_eq_true rfl⟩ ⟨Nat.zero_le _, Nat.zero_le _⟩ rfl dX8_findWays_1 rfl rfl ?_
  refine jj_iconst (v := 0) C dX8_findWays_4 (by decide) ?_
  refine jj_istore_n C 2 dX8_findWays_5 rfl rfl (by decide) ?_
  refine jj_sub [1, 2, 0] rfl ?_
  exact t_X8_findWays_6 C F F _ _ hx
def s_X8_waysWith_5 (F : Nat)  (h : pH) (l0 : Nat) (l1 : Int32) (k5 : Int64 → Int32 → Option Int64) (l2 : Int64) (l4 : Int32) : Option Int64 :=
  if 40 ≤ l4 then
    some l2
  else
    (getR 8 h l0 21).bind fun v1 =>
    (aldL h v1 (((16 : Int32) * l4) + l1)).bind fun v2 =>
    k5 (l2 + v2) (l4 + 1)
def x_X8_waysWith_5 (F : Nat)  (h : pH) (l0 : Nat) (l1 : Int32) : Nat → Int64 → Int32 → Option Int64
  | 0, _, _ => none
  | m + 1, l2, l4 => s_X8_waysWith_5 F h l0 l1 (x_X8_waysWith_5 F h l0 l1 m) l2 l4
theorem ts_X8_waysWith_5 {X : pX} {G : pG} {n : Nat} {res : Int64} (C : Cx X G RX8 cX8_waysWith 5 (rmD 0 0 0) n (some (FieldType.long))) (F : Nat) {h : pH} {l0 : Nat} {l1 : Int32} {k5 : Int64 → Int32 → Option Int64} (hk5 : ∀ (l2 : Int64) (l4 : Int32), k5 l2 l4 = some res → J X G (0, 0, some (.long res), n, h) (0, 0, n) h 5 [(0, .ref l0), (1, .int l1), (2, .long l2), (4, .int l4)] []) {l2 : Int64} {l4 : Int32} (hx : s_X8_waysWith_5 F h l0 l1 k5 l2 l4 = some res) : J X G (0, 0, some (.long res), n, h) (0, 0, n) h 5 [(0, .ref l0), (1, .int l1), (2, .long l2), (4, .int l4)] [] := by
  unfold s_X8_waysWith_5 at hx
  refine jj_iload C 4 3 dX8_waysWith_5 rfl ?_
  refine jj_bipush (v := 40) C dX8_waysWith_7 (by decide) ?_
  refine jj_icmp_ge (tgt := 33) C dX8_waysWith_9 (by decide) (fun q9 => ?_) (fun q9 => ?_)
  · rw [if_pos q9] at hx
    refine jj_lload_n C 2 2 dX8_waysWith_33 rfl rfl ?_
    obtain rfl := Option.some.inj hx
    exact jj_lret C dX8_waysWith_34 rfl
  · rw [if_neg q9] at hx
    refine jj_lload_n C 2 2 dX8_waysWith_12 rfl rfl ?_
    refine jj_aload_n C 0 0 dX8_waysWith_13 rfl rfl ?_
    obtain ⟨v1, ev1, hx⟩ := ob hx
    refine jj_getR C fd_X8_52 dX8_waysWith_14 ev1 ?_
    refine jj_bipush (v := 16) C dX8_waysWith_17 (by decide) ?_
    refine jj_iload C 4 3 dX8_waysWith_19 rfl ?_
    refine jj_imul C dX8_waysWith_21 ?_
    refine jj_iload_n C 1 1 dX8_waysWith_22 rfl rfl ?_
    refine jj_iadd C dX8_waysWith_23 ?_
    obtain ⟨v2, ev2, hx⟩ := ob hx
    refine jj_lald C dX8_waysWith_24 ev2 ?_
    refine jj_ladd C dX8_waysWith_25 ?_
    refine jj_lstore_n C 2 dX8_waysWith_26 rfl rfl (by decide) ?_
    refine jj_iinc (v := l4 + 1) C 4 3 dX8_waysWith_27 rfl rfl rfl (by decide) ?_
    refine jj_goto (tgt := 5) C dX8_waysWith_30 (by decide) ?_
    refine jj_sub [2, 3, 1, 0] rfl ?_
    exact hk5 _ _ hx
theorem t_X8_waysWith_5 {X : pX} {G : pG} {n : Nat} {res : Int64} (C : Cx X G RX8 cX8_waysWith 5 (rmD 0 0 0) n (some (FieldType.long))) (F : Nat) {h : pH} {l0 : Nat} {l1 : Int32} : ∀ (m : Nat) (l2 : Int64) (l4 : Int32), x_X8_waysWith_5 F h l0 l1 m l2 l4 = some res → J X G (0, 0, some (.long res), n, h) (0, 0, n) h 5 [(0, .ref l0), (1, .int l1), (2, .long l2), (4, .int l4)] [] := by
  intro m
  induction m with
  | zero => intro l2 l4 hx; exact nomatch (show (none : Option Int64) = some res from hx)
  | succ m ih => intro l2 l4 hx; exact ts_X8_waysWith_5 C F  ih hx
def x_X8_waysWith (F : Nat) (h : pH) (l0 : Nat) (l1 : Int32) : Option Int64 :=
  (chk 8 h l0).bind fun _ =>
  x_X8_waysWith_5 F h l0 l1 F 0 0
theorem o_X8_waysWith {F : Nat} {h : pH} {l0 : Nat} {l1 : Int32} {res : Int64} (hx : x_X8_waysWith F h l0 l1 = some res) : chk 8 h l0 = some () := by
  unfold x_X8_waysWith at hx
  obtain ⟨_, e, _⟩ := ob hx
  exact e
theorem mc_X8_waysWith (l : Launch) (G : pG) (F n : Nat) {h : pH} {l0 : Nat} {l1 : Int32} {res : Int64} (hx : x_X8_waysWith F h l0 l1 = some res) : MC l yX8_waysWith cX8_waysWith 5 (some (FieldType.long)) (rmD 0 0 0) G [.ref l0, .int l1] n h (some (.long res)) n h := by
  unfold x_X8_waysWith at hx
  obtain ⟨_, _, hx⟩ := ob hx
  refine jj_entry RX8 rfl (by decide) (Nat.le_of_ble_eq_true rfl) (fun X _ _ C => ?_)
  show J X G (0, 0, some (.long res), n, h) (0, 0, n) h 0 [(0, .ref l0), (1, .int l1)] []
  refine jj_lconst (v := 0) C dX8_waysWith_0 (by decide) ?_
  refine jj_lstore_n C 2 dX8_waysWith_1 rfl rfl (by decide) ?_
  refine jj_iconst (v := 0) C dX8_waysWith_2 (by decide) ?_
  refine jj_istore C 4 dX8_waysWith_3 rfl (by decide) ?_
  refine jj_sub [2, 3, 1, 0] rfl ?_
  exact t_X8_waysWith_5 C F F _ _ hx
def x_X8_free (F : Nat) (h : pH) (l0 : Nat) (l1 : Int32) : Option (Int64 × pH) :=
  (chk 8 h l0).bind fun _ =>
  (x_X8_within F h l1 0 30).bind fun v1 =>
  if v1 = 0 then
    some ((-9223372036854775808 : Int64), h)
  else
    (getI 8 h l0 5).bind fun v2 =>
    if v2 = 0 then
      some ((-9223372036854775808 : Int64), h)
    else
      (x_X8_findWays F h l0 l1).bind fun v3 =>
      (x_X8_waysWith F v3 l0 0).bind fun v4 =>
      some (v4, v3)
theorem o_X8_free {F : Nat} {h : pH} {l0 : Nat} {l1 : Int32} {res : (Int64 × pH)} (hx : x_X8_free F h l0 l1 = some res) : chk 8 h l0 = some () := by
  unfold x_X8_free at hx
  obtain ⟨_, e, _⟩ := ob hx
  exact e
theorem mc_X8_free (l : Launch) (G : pG) (F n : Nat) {h : pH} {l0 : Nat} {l1 : Int32} {res : (Int64 × pH)} (hx : x_X8_free F h l0 l1 = some res) : MC l yX8_free cX8_free 2 (some (FieldType.long)) (rmD 5 0 0) G [.ref l0, .int l1] n h (some (.long res.1)) n res.2 := by
  unfold x_X8_free at hx
  obtain ⟨_, _, hx⟩ := ob hx
  refine jj_entry RX8 rfl (by decide) (Nat.le_of_ble_eq_true rfl) (fun X _ _ C => ?_)
  show J X G (0, 0, some (.long res.1), n, res.2) (0, 0, n) h 0 [(0, .ref l0), (1, .int l1)] []
  refine jj_iload_n C 1 1 dX8_free_0 rfl rfl ?_
  refine jj_iconst (v := 0) C dX8_free_1 (by decide) ?_
  refine jj_bipush (v := 30) C dX8_free_2 (by decide) ?_
  obtain ⟨v1, ev1, hx⟩ := ob hx
  refine jj_callS C [.int l1, .int 0, .int 30] lk_X8_83 (mc_X8_within X.2.1 G F n ev1) rfl rfl (Nat.le_of_ble_eq_true rfl) ⟨Nat.le_of_ble_eq_true rfl, Nat.le_of_ble_eq_true rfl⟩ ⟨Nat.zero_le _, Nat.zero_le _⟩ rfl dX8_free_4 rfl rfl ?_
  refine jj_if_eq (tgt := 17) C dX8_free_7 (by decide) (fun q7 => ?_) (fun q7 => ?_)
  · rw [if_pos q7] at hx
    refine jj_ldc2 C dX8_free_17 ct_X8_81 ?_
    obtain rfl := Option.some.inj hx
    exact jj_lret C dX8_free_20 rfl
  · rw [if_neg q7] at hx
    refine jj_aload_n C 0 0 dX8_free_10 rfl rfl ?_
    obtain ⟨v2, ev2, hx⟩ := ob hx
    refine jj_getI C fd_X8_87 dX8_free_11 ev2 ?_
    refine jj_if_ne (tgt := 21) C dX8_free_14 (by decide) (fun q14 => ?_) (fun q14 => ?_)
    · rw [if_neg q14] at hx
      refine jj_aload_n C 0 0 dX8_free_21 rfl rfl ?_
      refine jj_iload_n C 1 1 dX8_free_22 rfl rfl ?_
      obtain ⟨v3, ev3, hx⟩ := ob hx
      refine jj_callV C [.int l1] lk_X8_185 (mc_X8_findWays X.2.1 G F n ev3) (o_X8_findWays ev3) rfl rfl (Nat.le_of_ble_eq_true rfl) ⟨Nat.le_of_ble_eq_true rfl, Nat.le_of_ble_eq_true rfl⟩ ⟨Nat.zero_le _, Nat.zero_le _⟩ rfl dX8_free_23 rfl rfl ?_
      refine jj_aload_n C 0 0 dX8_free_26 rfl rfl ?_
      refine jj_iconst (v := 0) C dX8_free_27 (by decide) ?_
      obtain ⟨v4, ev4, hx⟩ := ob hx
      refine jj_callV C [.int 0] lk_X8_189 (mc_X8_waysWith X.2.1 G F n ev4) (o_X8_waysWith ev4) rfl rfl (Nat.le_of_ble_eq_true rfl) ⟨Nat.le_of_ble_eq_true rfl, Nat.le_of_ble_eq_true rfl⟩ ⟨Nat.zero_le _, Nat.zero_le _⟩ rfl dX8_free_28 rfl rfl ?_
      obtain rfl := Option.some.inj hx
      exact jj_lret C dX8_free_31 rfl
    · rw [if_pos q14] at hx
      refine jj_ldc2 C dX8_free_17 ct_X8_81 ?_
      obtain rfl := Option.some.inj hx
      exact jj_lret C dX8_free_20 rfl
