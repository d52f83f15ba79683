def x_X7_renewNet (F : Nat) (h : pH) (l0 : Nat) : Option pH :=
  (chk 7 h l0).bind fun _ =>
  (getI 7 h l0 14).bind fun v1 =>
  if v1 = 0 then
    some h
  else
    (getR 7 h l0 11).bind fun v2 =>
    (getR 7 h l0 2).bind fun v3 =>
    (getI 7 h l0 3).bind fun v4 =>
    (x_X1_learn F h v2 v3 v4).bind fun v5 =>
    (getR 7 v5 l0 12).bind fun v6 =>
    (getR 7 v5 l0 11).bind fun v7 =>
    (x_X2_lay F v5 v6 v7).bind fun v8 =>
    (getR 7 v8 l0 13).bind fun v9 =>
    (getR 7 v8 l0 12).bind fun v10 =>
    (x_X0_begin F v8 v9 v10).bind fun v11 =>
    (putZ 7 v11 l0 14 (0 : Int32)).bind fun v12 =>
    some v12
theorem o_X7_renewNet {F : Nat} {h : pH} {l0 : Nat} {res : pH} (hx : x_X7_renewNet F h l0 = some res) : chk 7 h l0 = some () := by
  unfold x_X7_renewNet at hx
  obtain ⟨_, e, _⟩ := ob hx
  exact e
theorem mc_X7_renewNet (l : Launch) (G : pG) (F n : Nat) {h : pH} {l0 : Nat} {res : pH} (hx : x_X7_renewNet F h l0 = some res) : MC l yX7_renewNet cX7_renewNet 1 none (rmD 5 0 0) G [.ref l0] n h (none) n res := by
  unfold x_X7_renewNet at hx
  obtain ⟨_, _, hx⟩ := ob hx
  refine jj_entry RX7 rfl (by decide) (Nat.le_of_ble_eq_true rfl) (fun X _ _ C => ?_)
  show J X G (0, 0, none, n, res) (0, 0, n) h 0 [(0, .ref l0)] []
  refine jj_aload_n C 0 0 dX7_renewNet_0 rfl rfl ?_
  obtain ⟨v1, ev1, hx⟩ := ob hx
  refine jj_getI C fd_X7_76 dX7_renewNet_1 ev1 ?_
  refine jj_if_eq (tgt := 49) C dX7_renewNet_4 (by decide) (fun q4 => ?_) (fun q4 => ?_)
  · rw [if_pos q4] at hx
    obtain rfl := Option.some.inj hx
    exact jj_vret C dX7_renewNet_49 rfl
  · rw [if_neg q4] at hx
    refine jj_aload_n C 0 0 dX7_renewNet_7 rfl rfl ?_
    obtain ⟨v2, ev2, hx⟩ := ob hx
    refine jj_getR C fd_X7_58 dX7_renewNet_8 ev2 ?_
    refine jj_aload_n C 0 0 dX7_renewNet_11 rfl rfl ?_
    obtain ⟨v3, ev3, hx⟩ := ob hx
    refine jj_getR C fd_X7_28 dX7_renewNet_12 ev3 ?_
    refine jj_aload_n C 0 0 dX7_renewNet_15 rfl rfl ?_
    obtain ⟨v4, ev4, hx⟩ := ob hx
    refine jj_getI C fd_X7_109 dX7_renewNet_16 ev4 ?_
    obtain ⟨v5, ev5, hx⟩ := ob hx
    refine jj_callV C [.ref v3, .int v4] lk_X7_255 (mc_X1_learn X.2.1 G F n ev5) (o_X1_learn ev5) rfl rfl (Nat.le_of_ble_eq_true rfl) ⟨Nat.le_of_ble_eq_true rfl, Nat.le_of_ble_eq_true rfl⟩ ⟨Nat.zero_le _, Nat.zero_le _⟩ rfl dX7_renewNet_19 rfl rfl ?_
    refine jj_aload_n C 0 0 dX7_renewNet_22 rfl rfl ?_
    obtain ⟨v6, ev6, hx⟩ := ob hx
    refine jj_getR C fd_X7_65 dX7_renewNet_23 ev6 ?_
    refine jj_aload_n C 0 0 dX7_renewNet_26 rfl rfl ?_
    obtain ⟨v7, ev7, hx⟩ := ob hx
    refine jj_getR C fd_X7_58 dX7_renewNet_27 ev7 ?_
    obtain ⟨v8, ev8, hx⟩ := ob hx
    refine jj_callV C [.ref v7] lk_X7_259 (mc_X2_lay X.2.1 G F n ev8) (o_X2_lay ev8) rfl rfl (Nat.le_of_ble_eq_true rfl) ⟨Nat.le_of_ble_eq_true rfl, Nat.le_of_ble_eq_true rfl⟩ ⟨Nat.zero_le _, Nat.zero_le _⟩ rfl dX7_renewNet_30 rfl rfl ?_
    refine jj_aload_n C 0 0 dX7_renewNet_33 rfl rfl ?_
    obtain ⟨v9, ev9, hx⟩ := ob hx
    refine jj_getR C fd_X7_72 dX7_renewNet_34 ev9 ?_
    refine jj_aload_n C 0 0 dX7_renewNet_37 rfl rfl ?_
    obtain ⟨v10, ev10, hx⟩ := ob hx
    refine jj_getR C fd_X7_65 dX7_renewNet_38 ev10 ?_
    obtain ⟨v11, ev11, hx⟩ := ob hx
    refine jj_callV C [.ref v10] lk_X7_263 (mc_X0_begin X.2.1 G F n ev11) (o_X0_begin ev11) rfl rfl (Nat.le_of_ble_eq_true rfl) ⟨Nat.le_of_ble_eq_true rfl, Nat.le_of_ble_eq_true rfl⟩ ⟨Nat.zero_le _, Nat.zero_le _⟩ rfl dX7_renewNet_41 rfl rfl ?_
    refine jj_aload_n C 0 0 dX7_renewNet_44 rfl rfl ?_
    refine jj_iconst (v := 0) C dX7_renewNet_45 (by decide) ?_
    obtain ⟨v12, ev12, hx⟩ := ob hx
    obtain ⟨zv12, ev12⟩ := putZ_inv ev12
    refine jj_put C fd_X7_76 (nz zv12) (fz zv12) dX7_renewNet_46 ev12 ?_
    obtain rfl := Option.some.inj hx
    exact jj_vret C dX7_renewNet_49 rfl
def x_X7_all (F : Nat) (h : pH) (l0 : Nat) (l1 : Int32) : Option (Int32 × pH) :=
  (chk 7 h l0).bind fun _ =>
  if l1 < ((-1)) then
    some ((-2 : Int32), h)
  else
    if l1 < 16 then
      (getI 7 h l0 3).bind fun v1 =>
      if v1 = 0 then
        some ((-3 : Int32), h)
      else
        (x_X7_renewNet F h l0).bind fun v2 =>
        if 0 ≤ l1 then
          (getR 7 v2 l0 12).bind fun v3 =>
          (getI 2 v2 v3 7).bind fun v4 =>
          if v4 ≤ l1 then
            some ((-9 : Int32), v2)
          else
            (getR 7 v2 l0 12).bind fun v5 =>
            (getR 2 v2 v5 4).bind fun v6 =>
            (aldI 0 v2 v6 l1).bind fun v7 =>
            some (v7, v2)
        else
          (getR 7 v2 l0 12).bind fun v8 =>
          (getI 2 v2 v8 7).bind fun v9 =>
          some (v9, v2)
    else
      some ((-2 : Int32), h)
theorem o_X7_all {F : Nat} {h : pH} {l0 : Nat} {l1 : Int32} {res : (Int32 × pH)} (hx : x_X7_all F h l0 l1 = some res) : chk 7 h l0 = some () := by
  unfold x_X7_all at hx
  obtain ⟨_, e, _⟩ := ob hx
  exact e
theorem mc_X7_all (l : Launch) (G : pG) (F n : Nat) {h : pH} {l0 : Nat} {l1 : Int32} {res : (Int32 × pH)} (hx : x_X7_all F h l0 l1 = some res) : MC l yX7_all cX7_all 2 (some (FieldType.int)) (rmD 6 0 0) G [.ref l0, .int l1] n h (some (.int res.1)) n res.2 := by
  unfold x_X7_all at hx
  obtain ⟨_, _, hx⟩ := ob hx
  refine jj_entry RX7 rfl (by decide) (Nat.le_of_ble_eq_true rfl) (fun X _ _ C => ?_)
  show J X G (0, 0, some (.int res.1), n, res.2) (0, 0, n) h 0 [(0, .ref l0), (1, .int l1)] []
  refine jj_iload_n C 1 1 dX7_all_0 rfl rfl ?_
  refine jj_iconst (v := (-1)) C dX7_all_1 (by decide) ?_
  refine jj_icmp_lt (tgt := 11) C dX7_all_2 (by decide) (fun q2 => ?_) (fun q2 => ?_)
  · rw [if_pos q2] at hx
    refine jj_bipush (v := (-2)) C dX7_all_11 (by decide) ?_
    obtain rfl := Option.some.inj hx
    exact jj_iret C dX7_all_13 rfl
  · rw [if_neg q2] at hx
    refine jj_iload_n C 1 1 dX7_all_5 rfl rfl ?_
    refine jj_bipush (v := 16) C dX7_all_6 (by decide) ?_
    refine jj_icmp_lt (tgt := 14) C dX7_all_8 (by decide) (fun q8 => ?_) (fun q8 => ?_)
    · rw [if_pos q8] at hx
      refine jj_aload_n C 0 0 dX7_all_14 rfl rfl ?_
      obtain ⟨v1, ev1, hx⟩ := ob hx
      refine jj_getI C fd_X7_109 dX7_all_15 ev1 ?_
      refine jj_if_ne (tgt := 24) C dX7_all_18 (by decide) (fun q18 => ?_) (fun q18 => ?_)
      · rw [if_neg q18] at hx
        refine jj_aload_n C 0 0 dX7_all_24 rfl rfl ?_
        obtain ⟨v2, ev2, hx⟩ := ob hx
        refine jj_callV C [] lk_X7_154 (mc_X7_renewNet X.2.1 G F n ev2) (o_X7_renewNet ev2) rfl rfl (Nat.le_of_ble_eq_true rfl) ⟨Nat.le_of_ble_eq_true rfl, Nat.le_of_ble_eq_true rfl⟩ ⟨Nat.zero_le _, Nat.zero_le _⟩ rfl dX7_all_25 rfl rfl ?_
        refine jj_iload_n C 1 1 dX7_all_28 rfl rfl ?_
        refine jj_if_ge (tgt := 40) C dX7_all_29 (by decide) (fun q29 => ?_) (fun q29 => ?_)
        · rw [if_pos q29] at hx
          refine jj_iload_n C 1 1 dX7_all_40 rfl rfl ?_
          refine jj_aload_n C 0 0 dX7_all_41 rfl rfl ?_
          obtain ⟨v3, ev3, hx⟩ := ob hx
          refine jj_getR C fd_X7_65 dX7_all_42 ev3 ?_
          obtain ⟨v4, ev4, hx⟩ := ob hx
          refine jj_getI C fd_X7_157 dX7_all_45 ev4 ?_
          refine jj_icmp_ge (tgt := 63) C dX7_all_48 (by decide) (fun q48 => ?_) (fun q48 => ?_)
          · rw [if_pos q48] at hx
            refine jj_bipush (v := (-9)) C dX7_all_63 (by decide) ?_
            obtain rfl := Option.some.inj hx
            exact jj_iret C dX7_all_65 rfl
          · rw [if_neg q48] at hx
            refine jj_aload_n C 0 0 dX7_all_51 rfl rfl ?_
            obtain ⟨v5, ev5, hx⟩ := ob hx
            refine jj_getR C fd_X7_65 dX7_all_52 ev5 ?_
            obtain ⟨v6, ev6, hx⟩ := ob hx
            refine jj_getR C fd_X7_158 dX7_all_55 ev6 ?_
            refine jj_iload_n C 1 1 dX7_all_58 rfl rfl ?_
            obtain ⟨v7, ev7, hx⟩ := ob hx
            refine jj_iald C dX7_all_59 ev7 ?_
            refine jj_goto (tgt := 65) C dX7_all_60 (by decide) ?_
            obtain rfl := Option.some.inj hx
            exact jj_iret C dX7_all_65 rfl
        · rw [if_neg q29] at hx
          refine jj_aload_n C 0 0 dX7_all_32 rfl rfl ?_
          obtain ⟨v8, ev8, hx⟩ := ob hx
          refine jj_getR C fd_X7_65 dX7_all_33 ev8 ?_
          obtain ⟨v9, ev9, hx⟩ := ob hx
          refine jj_getI C fd_X7_157 dX7_all_36 ev9 ?_
          obtain rfl := Option.some.inj hx
          exact jj_iret C dX7_all_39 rfl
      · rw [if_pos q18] at hx
        refine jj_bipush (v := (-3)) C dX7_all_21 (by decide) ?_
        obtain rfl := Option.some.inj hx
        exact jj_iret C dX7_all_23 rfl
    · rw [if_neg q8] at hx
      refine jj_bipush (v := (-2)) C dX7_all_11 (by decide) ?_
      obtain rfl := Option.some.inj hx
      exact jj_iret C dX7_all_13 rfl
def x_X7_isWord (F : Nat) (h : pH) (l0 : Nat) (l1 : Int32) : Option Int32 :=
  (chk 7 h l0).bind fun _ =>
  (getI 7 h l0 3).bind fun v1 =>
  (x_X7_isBelow F h l1 v1).bind fun v2 =>
  retZ v2
theorem o_X7_isWord {F : Nat} {h : pH} {l0 : Nat} {l1 : Int32} {res : Int32} (hx : x_X7_isWord F h l0 l1 = some res) : chk 7 h l0 = some () := by
  unfold x_X7_isWord at hx
  obtain ⟨_, e, _⟩ := ob hx
  exact e
theorem mc_X7_isWord (l : Launch) (G : pG) (F n : Nat) {h : pH} {l0 : Nat} {l1 : Int32} {res : Int32} (hx : x_X7_isWord F h l0 l1 = some res) : MC l yX7_isWord cX7_isWord 2 (some (FieldType.boolean)) (rmD 1 0 0) G [.ref l0, .int l1] n h (some (.int res)) n h := by
  unfold x_X7_isWord at hx
  obtain ⟨_, _, hx⟩ := ob hx
  refine jj_entry RX7 rfl (by decide) (Nat.le_of_ble_eq_true rfl) (fun X _ _ C => ?_)
  show J X G (0, 0, some (.int res), n, h) (0, 0, n) h 0 [(0, .ref l0), (1, .int l1)] []
  refine jj_iload_n C 1 1 dX7_isWord_0 rfl rfl ?_
  refine jj_aload_n C 0 0 dX7_isWord_1 rfl rfl ?_
  obtain ⟨v1, ev1, hx⟩ := ob hx
  refine jj_getI C fd_X7_109 dX7_isWord_2 ev1 ?_
  obtain ⟨v2, ev2, hx⟩ := ob hx
  refine jj_callS C [.int l1, .int v1] lk_X7_90 (mc_X7_isBelow X.2.1 G F n ev2) rfl rfl (Nat.le_of_ble_eq_true rfl) ⟨Nat.le_of_ble_eq_true rfl, Nat.le_of_ble_eq_true rfl⟩ ⟨Nat.zero_le _, Nat.zero_le _⟩ rfl dX7_isWord_5 rfl rfl ?_
  obtain ⟨zr, rfl⟩ := retZ_inv hx
  exact jj_zret C zr dX7_isWord_8 rfl
def x_X7_failWith (F : Nat) (h : pH) (l0 : Nat) (l1 : Int32) : Option (Int32 × pH) :=
  (chk 7 h l0).bind fun _ =>
  (putV 7 h l0 16 (.int l1)).bind fun v1 =>
  some (((-10 : Int32) - l1), v1)
theorem o_X7_failWith {F : Nat} {h : pH} {l0 : Nat} {l1 : Int32} {res : (Int32 × pH)} (hx : x_X7_failWith F h l0 l1 = some res) : chk 7 h l0 = some () := by
  unfold x_X7_failWith at hx
  obtain ⟨_, e, _⟩ := ob hx
  exact e
theorem mc_X7_failWith (l : Launch) (G : pG) (F n : Nat) {h : pH} {l0 : Nat} {l1 : Int32} {res : (Int32 × pH)} (hx : x_X7_failWith F h l0 l1 = some res) : MC l yX7_failWith cX7_failWith 2 (some (FieldType.int)) (rmD 0 0 0) G [.ref l0, .int l1] n h (some (.int res.1)) n res.2 := by
  unfold x_X7_failWith at hx
  obtain ⟨_, _, hx⟩ := ob hx
  refine jj_entry RX7 rfl (by decide) (Nat.le_of_ble_eq_true rfl) (fun X _ _ C => ?_)
  show J X G (0, 0, some (.int res.1), n, res.2) (0, 0, n) h 0 [(0, .ref l0), (1, .int l1)] []
  refine jj_aload_n C 0 0 dX7_failWith_0 rfl rfl ?_
  refine jj_iload_n C 1 1 dX7_failWith_1 rfl rfl ?_
  obtain ⟨v1, ev1, hx⟩ := ob hx
  refine jj_put C fd_X7_82 rfl rfl dX7_failWith_2 ev1 ?_
  refine jj_bipush (v := (-10)) C dX7_failWith_5 (by decide) ?_
  refine jj_iload_n C 1 1 dX7_failWith_7 rfl rfl ?_
  refine jj_isub C dX7_failWith_8 ?_
  obtain rfl := Option.some.inj hx
  exact jj_iret C dX7_failWith_9 rfl
def x_X7_as (F : Nat) (h : pH) (l0 : Nat) (l1 : Int32) (l2 : Int32) : Option (Int32 × pH) :=
  (chk 7 h l0).bind fun _ =>
  (putV 7 h l0 16 (.int 0)).bind fun v1 =>
  (x_X7_isWord F v1 l0 l1).bind fun v2 =>
  if v2 = 0 then
    some ((-1 : Int32), v1)
  else
    (x_X7_isBelow F v1 l2 3).bind fun v3 =>
    if v3 = 0 then
      some ((-2 : Int32), v1)
    else
      (getR 7 v1 l0 2).bind fun v4 =>
      (aldR 4 v1 v4 l1).bind fun v5 =>
      (getI 6 v1 v5 2).bind fun v6 =>
      if v6 < l2 then
        (x_X7_failWith F v1 l0 2).bind fun v7 =>
        some (v7.1, v7.2)
      else
        some ((1 : Int32), v1)
theorem o_X7_as {F : Nat} {h : pH} {l0 : Nat} {l1 : Int32} {l2 : Int32} {res : (Int32 × pH)} (hx : x_X7_as F h l0 l1 l2 = some res) : chk 7 h l0 = some () := by
  unfold x_X7_as at hx
  obtain ⟨_, e, _⟩ := ob hx
  exact e
theorem mc_X7_as (l : Launch) (G : pG) (F n : Nat) {h : pH} {l0 : Nat} {l1 : Int32} {l2 : Int32} {res : (Int32 × pH)} (hx : x_X7_as F h l0 l1 l2 = some res) : MC l yX7_as cX7_as 3 (some (FieldType.int)) (rmD 2 0 0) G [.ref l0, .int l1, .int l2] n h (some (.int res.1)) n res.2 := by
  unfold x_X7_as at hx
  obtain ⟨_, _, hx⟩ := ob hx
  refine jj_entry RX7 rfl (by decide) (Nat.le_of_ble_eq_true rfl) (fun X _ _ C => ?_)
  show J X G (0, 0, some (.int res.1), n, res.2) (0, 0, n) h 0 [(0, .ref l0), (1, .int l1), (2, .int l2)] []
  refine jj_aload_n C 0 0 dX7_as_0 rfl rfl ?_
  refine jj_iconst (v := 0) C dX7_as_1 (by decide) ?_
  obtain ⟨v1, ev1, hx⟩ := ob hx
  refine jj_put C fd_X7_82 rfl rfl dX7_as_2 ev1 ?_
  refine jj_aload_n C 0 0 dX7_as_5 rfl rfl ?_
  refine jj_iload_n C 1 1 dX7_as_6 rfl rfl ?_
  obtain ⟨v2, ev2, hx⟩ := ob hx
  refine jj_callV C [.int l1] lk_X7_112 (mc_X7_isWord X.2.1 G F n ev2) (o_X7_isWord ev2) rfl rfl (Nat.le_of_ble_eq_true rfl) ⟨Nat.le_of_ble_eq_true rfl, Nat.le_of_ble_eq_true rfl⟩ ⟨Nat.zero_le _, Nat.zero_le _⟩ rfl dX7_as_7 rfl rfl ?_
  refine jj_if_ne (tgt := 15) C dX7_as_10 (by decide) (fun q10 => ?_) (fun q10 => ?_)
  · rw [if_neg q10] at hx
    refine jj_iload_n C 2 2 dX7_as_15 rfl rfl ?_
    refine jj_iconst (v := 3) C dX7_as_16 (by decide) ?_
    obtain ⟨v3, ev3, hx⟩ := ob hx
    refine jj_callS C [.int l2, .int 3] lk_X7_90 (mc_X7_isBelow X.2.1 G F n ev3) rfl rfl (Nat.le_of_ble_eq_true rfl) ⟨Nat.le_of_ble_eq_true rfl, Nat.le_of_ble_eq_true rfl⟩ ⟨Nat.zero_le _, Nat.zero_le _⟩ rfl dX7_as_17 rfl rfl ?_
    refine jj_if_ne (tgt := 26) C dX7_as_20 (by decide) (fun q20 => ?_) (fun q20 => ?_)
    · rw [if_neg q20] at hx
      refine jj_aload_n C 0 0 dX7_as_26 rfl rfl ?_
      obtain ⟨v4, ev4, hx⟩ := ob hx
      refine jj_getR C fd_X7_28 dX7_as_27 ev4 ?_
      refine jj_iload_n C 1 1 dX7_as_30 rfl rfl ?_
      obtain ⟨v5, ev5, hx⟩ := ob hx
      refine jj_aald C 4 rfl dX7_as_31 ev5 ?_
      obtain ⟨v6, ev6, hx⟩ := ob hx
      refine jj_getI C fd_X7_115 dX7_as_32 ev6 ?_
      refine jj_iload_n C 2 2 dX7_as_35 rfl rfl ?_
      refine jj_icmp_lt (tgt := 43) C dX7_as_36 (by decide) (fun q36 => ?_) (fun q36 => ?_)
      · rw [if_pos q36] at hx
        refine jj_aload_n C 0 0 dX7_as_43 rfl rfl ?_
        refine jj_iconst (v := 2) C dX7_as_44 (by decide) ?_
        obtain ⟨v7, ev7, hx⟩ := ob hx
        refine jj_callV C [.int 2] lk_X7_98 (mc_X7_failWith X.2.1 G F n ev7) (o_X7_failWith ev7) rfl rfl (Nat.le_of_ble_eq_true rfl) ⟨Nat.le_of_ble_eq_true rfl, Nat.le_of_ble_eq_true rfl⟩ ⟨Nat.zero_le _, Nat.zero_le _⟩ rfl dX7_as_45 rfl rfl ?_
        obtain rfl := Option.some.inj hx
        exact jj_iret C dX7_as_48 rfl
      · rw [if_neg q36] at hx
        refine jj_iconst (v := 1) C dX7_as_39 (by decide) ?_
        refine jj_goto (tgt := 48) C dX7_as_40 (by decide) ?_
        obtain rfl := Option.some.inj hx
        exact jj_iret C dX7_as_48 rfl
    · rw [if_pos q20] at hx
      refine jj_bipush (v := (-2)) C dX7_as_23 (by decide) ?_
      obtain rfl := Option.some.inj hx
      exact jj_iret C dX7_as_25 rfl
  · rw [if_pos q10] at hx
    refine jj_iconst (v := (-1)) C dX7_as_13 (by decide) ?_
    obtain rfl := Option.some.inj hx
    exact jj_iret C dX7_as_14 rfl
def x_X7_back (F : Nat) (h : pH) (l0 : Nat) (l1 : Int32) : Option (Int32 × pH) :=
  (chk 7 h l0).bind fun _ =>
  if l1 < 0 then
    some ((-2 : Int32), h)
  else
    (getI 7 h l0 8).bind fun v1 =>
    if l1 ≤ v1 then
      (getI 7 h l0 8).bind fun v2 =>
      (putV 7 h l0 8 (.int (v2 - l1))).bind fun v3 =>
      (getI 7 v3 l0 8).bind fun v4 =>
      some (v4, v3)
    else
      some ((-2 : Int32), h)
theorem o_X7_back {F : Nat} {h : pH} {l0 : Nat} {l1 : Int32} {res : (Int32 × pH)} (hx : x_X7_back F h l0 l1 = some res) : chk 7 h l0 = some () := by
  unfold x_X7_back at hx
  obtain ⟨_, e, _⟩ := ob hx
  exact e
theorem mc_X7_back (l : Launch) (G : pG) (F n : Nat) {h : pH} {l0 : Nat} {l1 : Int32} {res : (Int32 × pH)} (hx : x_X7_back F h l0 l1 = some res) : MC l yX7_back cX7_back 2 (some (FieldType.int)) (rmD 0 0 0) G [.ref l0, .int l1] n h (some (.int res.1)) n res.2 := by
  unfold x_X7_back at hx
  obtain ⟨_, _, hx⟩ := ob hx
  refine jj_entry RX7 rfl (by decide) (Nat.le_of_ble_eq_true rfl) (fun X _ _ C => ?_)
  show J X G (0, 0, some (.int res.1), n, res.2) (0, 0, n) h 0 [(0, .ref l0), (1, .int l1)] []
  refine jj_iload_n C 1 1 dX7_back_0 rfl rfl ?_
  refine jj_if_lt (tgt := 12) C dX7_back_1 (by decide) (fun q1 => ?_) (fun q1 => ?_)
  · rw [if_pos q1] at hx
    refine jj_bipush (v := (-2)) C dX7_back_12 (by decide) ?_
    obtain rfl := Option.some.inj hx
    exact jj_iret C dX7_back_14 rfl
  · rw [if_neg q1] at hx
    refine jj_iload_n C 1 1 dX7_back_4 rfl rfl ?_
    refine jj_aload_n C 0 0 dX7_back_5 rfl rfl ?_
    obtain ⟨v1, ev1, hx⟩ := ob hx
    refine jj_getI C fd_X7_182 dX7_back_6 ev1 ?_
    refine jj_icmp_le (tgt := 15) C dX7_back_9 (by decide) (fun q9 => ?_) (fun q9 => ?_)
    · rw [if_pos q9] at hx
      refine jj_aload_n C 0 0 dX7_back_15 rfl rfl ?_
      refine jj_dup C dX7_back_16 rfl ?_
      obtain ⟨v2, ev2, hx⟩ := ob hx
      refine jj_getI C fd_X7_182 dX7_back_17 ev2 ?_
      refine jj_iload_n C 1 1 dX7_back_20 rfl rfl ?_
      refine jj_isub C dX7_back_21 ?_
      obtain ⟨v3, ev3, hx⟩ := ob hx
      refine jj_put C fd_X7_182 rfl rfl dX7_back_22 ev3 ?_
      refine jj_aload_n C 0 0 dX7_back_25 rfl rfl ?_
      obtain ⟨v4, ev4, hx⟩ := ob hx
      refine jj_getI C fd_X7_182 dX7_back_26 ev4 ?_
      obtain rfl := Option.some.inj hx
      exact jj_iret C dX7_back_29 rfl
    · rw [if_neg q9] at hx
      refine jj_bipush (v := (-2)) C dX7_back_12 (by decide) ?_
      obtain rfl := Option.some.inj hx
      exact jj_iret C dX7_back_14 rfl
def x_X7_isSheet (F : Nat) (h : pH) (l0 : Int32) : Option Int32 :=
  (x_X7_isBelow F h l0 4).bind fun v1 =>
  retZ v1
theorem mc_X7_isSheet (l : Launch) (G : pG) (F n : Nat) {h : pH} {l0 : Int32} {res : Int32} (hx : x_X7_isSheet F h l0 = some res) : MC l yX7_isSheet cX7_isSheet 1 (some (FieldType.boolean)) (rmD 1 0 0) G [.int l0] n h (some (.int res)) n h := by
  unfold x_X7_isSheet at hx
  refine jj_entry RX7 rfl (by decide) (Nat.le_of_ble_eq_true rfl) (fun X _ _ C => ?_)
  show J X G (0, 0, some (.int res), n, h) (0, 0, n) h 0 [(0, .int l0)] []
  refine jj_iload_n C 0 0 dX7_isSheet_0 rfl rfl ?_
  refine jj_iconst (v := 4) C dX7_isSheet_1 (by decide) ?_
  obtain ⟨v1, ev1, hx⟩ := ob hx
  refine jj_callS C [.int l0, .int 4] lk_X7_90 (mc_X7_isBelow X.2.1 G F n ev1) rfl rfl (Nat.le_of_ble_eq_true rfl) ⟨Nat.le_of_ble_eq_true rfl, Nat.le_of_ble_eq_true rfl⟩ ⟨Nat.zero_le _, Nat.zero_le _⟩ rfl dX7_isSheet_2 rfl rfl ?_
  obtain ⟨zr, rfl⟩ := retZ_inv hx
  exact jj_zret C zr dX7_isSheet_5 rfl
def x_X7_cell_60 (F : Nat)  (h : pH) (l0 : Nat) (l1 : Int32) (l2 : Int32) (l4 : Int32) : Option (Int64 × pH) :=
  if l4 = 0 then
    (getR 7 h l0 0).bind fun v1 =>
    (aldR 3 h v1 l1).bind fun v2 =>
    (getR 4 h v2 0).bind fun v3 =>
    (aldI 0 h v3 l2).bind fun v4 =>
    some (v4.toInt64, h)
  else
    (putV 7 h l0 16 (.int l4)).bind fun v5 =>
    some ((-9223372036854775808 : Int64), v5)
theorem t_X7_cell_60 {X : pX} {G : pG} {n : Nat} {res : (Int64 × pH)} (C : Cx X G RX7 cX7_cell 5 (rmD 2 0 0) n (some (FieldType.long))) (F : Nat) {h : pH} {l0 : Nat} {l1 : Int32} {l2 : Int32} {l4 : Int32} (hx : x_X7_cell_60 F h l0 l1 l2 l4 = some res) : J X G (0, 0, some (.long res.1), n, res.2) (0, 0, n) h 60 [(0, .ref l0), (1, .int l1), (2, .int l2), (4, .int l4)] [] := by
  unfold x_X7_cell_60 at hx
  refine jj_iload C 4 3 dX7_cell_60 rfl ?_
  refine jj_if_eq (tgt := 75) C dX7_cell_62 (by decide) (fun q62 => ?_) (fun q62 => ?_)
  · rw [if_pos q62] at hx
    refine jj_aload_n C 0 0 dX7_cell_75 rfl rfl ?_
    obtain ⟨v1, ev1, hx⟩ := ob hx
    refine jj_getR C fd_X7_13 dX7_cell_76 ev1 ?_
    refine jj_iload_n C 1 1 dX7_cell_79 rfl rfl ?_
    obtain ⟨v2, ev2, hx⟩ := ob hx
    refine jj_aald C 3 rfl dX7_cell_80 ev2 ?_
    obtain ⟨v3, ev3, hx⟩ := ob hx
    refine jj_getR C fd_X7_216 dX7_cell_81 ev3 ?_
    refine jj_iload_n C 2 2 dX7_cell_84 rfl rfl ?_
    obtain ⟨v4, ev4, hx⟩ := ob hx
    refine jj_iald C dX7_cell_85 ev4 ?_
    refine jj_i2l C dX7_cell_86 ?_
    obtain rfl := Option.some.inj hx
    exact jj_lret C dX7_cell_87 rfl
  · rw [if_neg q62] at hx
    refine jj_aload_n C 0 0 dX7_cell_65 rfl rfl ?_
    refine jj_iload C 4 3 dX7_cell_66 rfl ?_
    obtain ⟨v5, ev5, hx⟩ := ob hx
    refine jj_put C fd_X7_82 rfl rfl dX7_cell_68 ev5 ?_
    refine jj_ldc2 C dX7_cell_71 ct_X7_162 ?_
    obtain rfl := Option.some.inj hx
    exact jj_lret C dX7_cell_74 rfl
def x_X7_cell (F : Nat) (h : pH) (l0 : Nat) (l1 : Int32) (l2 : Int32) (l3 : Int32) : Option (Int64 × pH) :=
  (chk 7 h l0).bind fun _ =>
  (putV 7 h l0 16 (.int 0)).bind fun v1 =>
  (x_X7_isSheet F v1 l1).bind fun v2 =>
  if v2 = 0 then
    some ((-9223372036854775808 : Int64), v1)
  else
    (x_X7_isBelow F v1 l3 3).bind fun v3 =>
    if v3 = 0 then
      some ((-9223372036854775808 : Int64), v1)
    else
      (getR 7 v1 l0 0).bind fun v4 =>
      (aldR 3 v1 v4 l1).bind fun v5 =>
      (x_X4_faultOfLane F v1 v5 l3).bind fun v6 =>
      if v6 = 0 then
        (getR 7 v1 l0 0).bind fun v7 =>
        (aldR 3 v1 v7 l1).bind fun v8 =>
        (getI 4 v1 v8 3).bind fun v9 =>
        (x_X7_isBelow F v1 l2 v9).bind fun v10 =>
        if v10 = 0 then
          x_X7_cell_60 F v1 l0 l1 l2 3
        else
          x_X7_cell_60 F v1 l0 l1 l2 v6
      else
        x_X7_cell_60 F v1 l0 l1 l2 v6
theorem o_X7_cell {F : Nat} {h : pH} {l0 : Nat} {l1 : Int32} {l2 : Int32} {l3 : Int32} {res : (Int64 × pH)} (hx : x_X7_cell F h l0 l1 l2 l3 = some res) : chk 7 h l0 = some () := by
  unfold x_X7_cell at hx
  obtain ⟨_, e, _⟩ := ob hx
  exact e
theorem mc_X7_cell (l : Launch) (G : pG) (F n : Nat) {h : pH} {l0 : Nat} {l1 : Int32} {l2 : Int32} {l3 : Int32} {res : (Int64 × pH)} (hx : x_X7_cell F h l0 l1 l2 l3 = some res) : MC l yX7_cell cX7_cell 5 (some (FieldType.long)) (rmD 2 0 0) G [.ref l0, .int l1, .int l2, .int l3] n h (some (.long res.1)) n res.2 := by
  unfold x_X7_cell at hx
  obtain ⟨_, _, hx⟩ := ob hx
  refine jj_entry RX7 rfl (by decide) (Nat.le_of_ble_eq_true rfl) (fun X _ _ C => ?_)
  show J X G (0, 0, some (.long res.1), n, res.2) (0, 0, n) h 0 [(0, .ref l0), (1, .int l1), (2, .int l2), (3, .int l3)] []
  refine jj_aload_n C 0 0 dX7_cell_0 rfl rfl ?_
  refine jj_iconst (v := 0) C dX7_cell_1 (by decide) ?_
  obtain ⟨v1, ev1, hx⟩ := ob hx
  refine jj_put C fd_X7_82 rfl rfl dX7_cell_2 ev1 ?_
  refine jj_iload_n C 1 1 dX7_cell_5 rfl rfl ?_
  obtain ⟨v2, ev2, hx⟩ := ob hx
  refine jj_callS C [.int l1] lk_X7_86 (mc_X7_isSheet X.2.1 G F n ev2) rfl rfl (Nat.le_of_ble_eq_true rfl) ⟨Nat.le_of_ble_eq_true rfl, Nat.le_of_ble_eq_true rfl⟩ ⟨Nat.zero_le _, Nat.zero_le _⟩ rfl dX7_cell_6 rfl rfl ?_
  refine jj_if_eq (tgt := 20) C dX7_cell_9 (by decide) (fun q9 => ?_) (fun q9 => ?_)
  · rw [if_pos q9] at hx
    refine jj_ldc2 C dX7_cell_20 ct_X7_162 ?_
    obtain rfl := Option.some.inj hx
    exact jj_lret C dX7_cell_23 rfl
  · rw [if_neg q9] at hx
    refine jj_iload_n C 3 3 dX7_cell_12 rfl rfl ?_
    refine jj_iconst (v := 3) C dX7_cell_13 (by decide) ?_
    obtain ⟨v3, ev3, hx⟩ := ob hx
    refine jj_callS C [.int l3, .int 3] lk_X7_90 (mc_X7_isBelow X.2.1 G F n ev3) rfl rfl (Nat.le_of_ble_eq_true rfl) ⟨Nat.le_of_ble_eq_true rfl, Nat.le_of_ble_eq_true rfl⟩ ⟨Nat.zero_le _, Nat.zero_le _⟩ rfl dX7_cell_14 rfl rfl ?_
    refine jj_if_ne (tgt := 24) C dX7_cell_17 (by decide) (fun q17 => ?_) (fun q17 => ?_)
    · rw [if_neg q17] at hx
      refine jj_aload_n C 0 0 dX7_cell_24 rfl rfl ?_
      obtain ⟨v4, ev4, hx⟩ := ob hx
      refine jj_getR C fd_X7_13 dX7_cell_25 ev4 ?_
      refine jj_iload_n C 1 1 dX7_cell_28 rfl rfl ?_
      obtain ⟨v5, ev5, hx⟩ := ob hx
      refine jj_aald C 3 rfl dX7_cell_29 ev5 ?_
      refine jj_iload_n C 3 3 dX7_cell_30 rfl rfl ?_
      obtain ⟨v6, ev6, hx⟩ := ob hx
      refine jj_callV C [.int l3] lk_X7_213 (mc_X4_faultOfLane X.2.1 G F n ev6) (o_X4_faultOfLane ev6) rfl rfl (Nat.le_of_ble_eq_true rfl) ⟨Nat.le_of_ble_eq_true rfl, Nat.le_of_ble_eq_true rfl⟩ ⟨Nat.zero_le _, Nat.zero_le _⟩ rfl dX7_cell_31 rfl rfl ?_
      refine jj_istore C 4 dX7_cell_34 rfl (by decide) ?_
      refine jj_iload C 4 0 dX7_cell_36 rfl ?_
      refine jj_if_ne (tgt := 60) C dX7_cell_38 (by decide) (fun q38 => ?_) (fun q38 => ?_)
      · rw [if_neg q38] at hx
        refine jj_sub [1, 2, 3, 0] rfl ?_
        exact t_X7_cell_60 C F hx
      · rw [if_pos q38] at hx
        refine jj_iload_n C 2 3 dX7_cell_41 rfl rfl ?_
        refine jj_aload_n C 0 1 dX7_cell_42 rfl rfl ?_
        obtain ⟨v7, ev7, hx⟩ := ob hx
        refine jj_getR C fd_X7_13 dX7_cell_43 ev7 ?_
        refine jj_iload_n C 1 2 dX7_cell_46 rfl rfl ?_
        obtain ⟨v8, ev8, hx⟩ := ob hx
        refine jj_aald C 3 rfl dX7_cell_47 ev8 ?_
        obtain ⟨v9, ev9, hx⟩ := ob hx
        refine jj_getI C fd_X7_209 dX7_cell_48 ev9 ?_
        obtain ⟨v10, ev10, hx⟩ := ob hx
        refine jj_callS C [.int l2, .int v9] lk_X7_90 (mc_X7_isBelow X.2.1 G F n ev10) rfl rfl (Nat.le_of_ble_eq_true rfl) ⟨Nat.le_of_ble_eq_true rfl, Nat.le_of_ble_eq_true rfl⟩ ⟨Nat.zero_le _, Nat.zero_le _⟩ rfl dX7_cell_51 rfl rfl ?_
        refine jj_if_ne (tgt := 60) C dX7_cell_54 (by decide) (fun q54 => ?_) (fun q54 => ?_)
        · rw [if_neg q54] at hx
          refine jj_sub [1, 2, 3, 0] rfl ?_
          exact t_X7_cell_60 C F hx
        · rw [if_pos q54] at hx
          refine jj_iconst (v := 3) C dX7_cell_57 (by decide) ?_
          refine jj_istore C 4 dX7_cell_58 rfl (by decide) ?_
          refine jj_sub [1, 2, 3, 0] rfl ?_
          exact t_X7_cell_60 C F hx
    · rw [if_pos q17] at hx
      refine jj_ldc2 C dX7_cell_20 ct_X7_162 ?_
      obtain rfl := Option.some.inj hx
      exact jj_lret C dX7_cell_23 rfl
def x_X7_copy_53 (F : Nat)  (h : pH) (l0 : Nat) : Option (Int32 × pH) :=
  (x_X7_failWith F h l0 1).bind fun v1 =>
  some (v1.1, v1.2)
theorem t_X7_copy_53 {X : pX} {G : pG} {n : Nat} {res : (Int32 × pH)} (C : Cx X G RX7 cX7_copy 8 (rmD 2 0 0) n (some (FieldType.int))) (F : Nat) {h : pH} {l0 : Nat} (hx : x_X7_copy_53 F h l0 = some res) : J X G (0, 0, some (.int res.1), n, res.2) (0, 0, n) h 53 [(0, .ref l0)] [] := by
  unfold x_X7_copy_53 at hx
  refine jj_aload_n C 0 0 dX7_copy_53 rfl rfl ?_
  refine jj_iconst (v := 1) C dX7_copy_54 (by decide) ?_
  obtain ⟨v1, ev1, hx⟩ := ob hx
  refine jj_callV C [.int 1] lk_X7_98 (mc_X7_failWith X.2.1 G F n ev1) (o_X7_failWith ev1) rfl rfl (Nat.le_of_ble_eq_true rfl) ⟨Nat.le_of_ble_eq_true rfl, Nat.le_of_ble_eq_true rfl⟩ ⟨Nat.zero_le _, Nat.zero_le _⟩ rfl dX7_copy_55 rfl rfl ?_
  obtain rfl := Option.some.inj hx
  exact jj_iret C dX7_copy_58 rfl
def x_X7_copy_101 (F : Nat)  (h : pH) (l0 : Nat) : Option (Int32 × pH) :=
  (x_X7_failWith F h l0 3).bind fun v1 =>
  some (v1.1, v1.2)
theorem t_X7_copy_101 {X : pX} {G : pG} {n : Nat} {res : (Int32 × pH)} (C : Cx X G RX7 cX7_copy 8 (rmD 2 0 0) n (some (FieldType.int))) (F : Nat) {h : pH} {l0 : Nat} (hx : x_X7_copy_101 F h l0 = some res) : J X G (0, 0, some (.int res.1), n, res.2) (0, 0, n) h 101 [(0, .ref l0)] [] := by
  unfold x_X7_copy_101 at hx
  refine jj_aload_n C 0 0 dX7_copy_101 rfl rfl ?_
  refine jj_iconst (v := 3) C dX7_copy_102 (by decide) ?_
  obtain ⟨v1, ev1, hx⟩ := ob hx
  refine jj_callV C [.int 3] lk_X7_98 (mc_X7_failWith X.2.1 G F n ev1) (o_X7_failWith ev1) rfl rfl (Nat.le_of_ble_eq_true rfl) ⟨Nat.le_of_ble_eq_true rfl, Nat.le_of_ble_eq_true rfl⟩ ⟨Nat.zero_le _, Nat.zero_le _⟩ rfl dX7_copy_103 rfl rfl ?_
  obtain rfl := Option.some.inj hx
  exact jj_iret C dX7_copy_106 rfl
def x_X7_copy (F : Nat) (h : pH) (l0 : Nat) (l1 : Int32) (l2 : Int32) (l3 : Int32) (l4 : Int32) (l5 : Int32) : Option (Int32 × pH) :=
  (chk 7 h l0).bind fun _ =>
  (putV 7 h l0 16 (.int 0)).bind fun v1 =>
  (x_X7_isSheet F v1 l1).bind fun v2 =>
  if v2 = 0 then
    some ((-1 : Int32), v1)
  else
    (x_X7_isSheet F v1 l3).bind fun v3 =>
    if v3 = 0 then
      some ((-1 : Int32), v1)
    else
      (getR 7 v1 l0 0).bind fun v4 =>
      (aldR 3 v1 v4 l1).bind fun v5 =>
      (getR 7 v1 l0 0).bind fun v6 =>
      (aldR 3 v1 v6 l3).bind fun v7 =>
      (getI 4 v1 v5 1).bind fun v8 =>
      if v8 = 0 then
        x_X7_copy_53 F v1 l0
      else
        (getI 4 v1 v7 1).bind fun v9 =>
        if v9 = 0 then
          x_X7_copy_53 F v1 l0
        else
          (getI 4 v1 v5 2).bind fun v10 =>
          (getI 4 v1 v7 2).bind fun v11 =>
          if v10 = v11 then
            (x_X4_hasCells F v1 v5 l2 l5).bind fun v12 =>
            if v12 = 0 then
              x_X7_copy_101 F v1 l0
            else
              (x_X4_hasCells F v1 v7 l4 l5).bind fun v13 =>
              if v13 = 0 then
                x_X7_copy_101 F v1 l0
              else
                (getR 4 v1 v5 0).bind fun v14 =>
                (getR 4 v1 v7 0).bind fun v15 =>
                (acpI v1 v14 l2 v15 l4 l5).bind fun v16 =>
                some (l5, v16)
          else
            (x_X7_failWith F v1 l0 2).bind fun v17 =>
            some (v17.1, v17.2)
theorem o_X7_copy {F : Nat} {h : pH} {l0 : Nat} {l1 : Int32} {l2 : Int32} {l3 : Int32} {l4 : Int32} {l5 : Int32} {res : (Int32 × pH)} (hx : x_X7_copy F h l0 l1 l2 l3 l4 l5 = some res) : chk 7 h l0 = some () := by
  unfold x_X7_copy at hx
  obtain ⟨_, e, _⟩ := ob hx
  exact e
theorem mc_X7_copy (l : Launch) (G : pG) (F n : Nat) {h : pH} {l0 : Nat} {l1 : Int32} {l2 : Int32} {l3 : Int32} {l4 : Int32} {l5 : Int32} {res : (Int32 × pH)} (hx : x_X7_copy F h l0 l1 l2 l3 l4 l5 = some res) : MC l yX7_copy cX7_copy 8 (some (FieldType.int)) (rmD 2 0 0) G [.ref l0, .int l1, .int l2, .int l3, .int l4, .int l5] n h (some (.int res.1)) n res.2 := by
  unfold x_X7_copy at hx
  obtain ⟨_, _, hx⟩ := ob hx
  refine jj_entry RX7 rfl (by decide) (Nat.le_of_ble_eq_true rfl) (fun X _ _ C => ?_)
  show J X G (0, 0, some (.int res.1), n, res.2) (0, 0, n) h 0 [(0, .ref l0), (1, .int l1), (2, .int l2), (3, .int l3), (4, .int l4), (5, .int l5)] []
  refine jj_aload_n C 0 0 dX7_copy_0 rfl rfl ?_
  refine jj_iconst (v := 0) C dX7_copy_1 (by decide) ?_
  obtain ⟨v1, ev1, hx⟩ := ob hx
  refine jj_put C fd_X7_82 rfl rfl dX7_copy_2 ev1 ?_
  refine jj_iload_n C 1 1 dX7_copy_5 rfl rfl ?_
  obtain ⟨v2, ev2, hx⟩ := ob hx
  refine jj_callS C [.int l1] lk_X7_86 (mc_X7_isSheet X.2.1 G F n ev2) rfl rfl (Nat.le_of_ble_eq_true rfl) ⟨Nat.le_of_ble_eq_true rfl, Nat.le_of_ble_eq_true rfl⟩ ⟨Nat.zero_le _, Nat.zero_le _⟩ rfl dX7_copy_6 rfl rfl ?_
  refine jj_if_eq (tgt := 19) C dX7_copy_9 (by decide) (fun q9 => ?_) (fun q9 => ?_)
  · rw [if_pos q9] at hx
    refine jj_iconst (v := (-1)) C dX7_copy_19 (by decide) ?_
    obtain rfl := Option.some.inj hx
    exact jj_iret C dX7_copy_20 rfl
  · rw [if_neg q9] at hx
    refine jj_iload_n C 3 3 dX7_copy_12 rfl rfl ?_
    obtain ⟨v3, ev3, hx⟩ := ob hx
    refine jj_callS C [.int l3] lk_X7_86 (mc_X7_isSheet X.2.1 G F n ev3) rfl rfl (Nat.le_of_ble_eq_true rfl) ⟨Nat.le_of_ble_eq_true rfl, Nat.le_of_ble_eq_true rfl⟩ ⟨Nat.zero_le _, Nat.zero_le _⟩ rfl dX7_copy_13 rfl rfl ?_
    refine jj_if_ne (tgt := 21) C dX7_copy_16 (by decide) (fun q16 => ?_) (fun q16 => ?_)
    · rw [if_neg q16] at hx
      refine jj_aload_n C 0 0 dX7_copy_21 rfl rfl ?_
      obtain ⟨v4, ev4, hx⟩ := ob hx
      refine jj_getR C fd_X7_13 dX7_copy_22 ev4 ?_
      refine jj_iload_n C 1 1 dX7_copy_25 rfl rfl ?_
      obtain ⟨v5, ev5, hx⟩ := ob hx
      refine jj_aald C 3 rfl dX7_copy_26 ev5 ?_
      refine jj_astore C 6 dX7_copy_27 rfl (by decide) ?_
      refine jj_aload_n C 0 1 dX7_copy_29 rfl rfl ?_
      obtain ⟨v6, ev6, hx⟩ := ob hx
      refine jj_getR C fd_X7_13 dX7_copy_30 ev6 ?_
      refine jj_iload_n C 3 4 dX7_copy_33 rfl rfl ?_
      obtain ⟨v7, ev7, hx⟩ := ob hx
      refine jj_aald C 3 rfl dX7_copy_34 ev7 ?_
      refine jj_astore C 7 dX7_copy_35 rfl (by decide) ?_
      refine jj_aload C 6 1 dX7_copy_37 rfl ?_
      obtain ⟨v8, ev8, hx⟩ := ob hx
      refine jj_getI C fd_X7_206 dX7_copy_39 ev8 ?_
      refine jj_if_eq (tgt := 53) C dX7_copy_42 (by decide) (fun q42 => ?_) (fun q42 => ?_)
      · rw [if_pos q42] at hx
        refine jj_sub [2] rfl ?_
        exact t_X7_copy_53 C F hx
      · rw [if_neg q42] at hx
        refine jj_aload C 7 0 dX7_copy_45 rfl ?_
        obtain ⟨v9, ev9, hx⟩ := ob hx
        refine jj_getI C fd_X7_206 dX7_copy_47 ev9 ?_
        refine jj_if_ne (tgt := 59) C dX7_copy_50 (by decide) (fun q50 => ?_) (fun q50 => ?_)
        · rw [if_neg q50] at hx
          refine jj_aload C 6 1 dX7_copy_59 rfl ?_
          obtain ⟨v10, ev10, hx⟩ := ob hx
          refine jj_getI C fd_X7_219 dX7_copy_61 ev10 ?_
          refine jj_aload C 7 0 dX7_copy_64 rfl ?_
          obtain ⟨v11, ev11, hx⟩ := ob hx
          refine jj_getI C fd_X7_219 dX7_copy_66 ev11 ?_
          refine jj_icmp_eq (tgt := 78) C dX7_copy_69 (by decide) (fun q69 => ?_) (fun q69 => ?_)
          · rw [if_pos q69] at hx
            refine jj_aload C 6 1 dX7_copy_78 rfl ?_
            refine jj_iload_n C 2 4 dX7_copy_80 rfl rfl ?_
            refine jj_iload C 5 7 dX7_copy_81 rfl ?_
            obtain ⟨v12, ev12, hx⟩ := ob hx
            refine jj_callV C [.int l2, .int l5] lk_X7_222 (mc_X4_hasCells X.2.1 G F n ev12) (o_X4_hasCells ev12) rfl rfl (Nat.le_of_ble_eq_true rfl) ⟨Nat.le_of_ble_eq_true rfl, Nat.le_of_ble_eq_true rfl⟩ ⟨Nat.zero_le _, Nat.zero_le _⟩ rfl dX7_copy_83 rfl rfl ?_
            refine jj_if_eq (tgt := 101) C dX7_copy_86 (by decide) (fun q86 => ?_) (fun q86 => ?_)
            · rw [if_pos q86] at hx
              refine jj_sub [2] rfl ?_
              exact t_X7_copy_101 C F hx
            · rw [if_neg q86] at hx
              refine jj_aload C 7 0 dX7_copy_89 rfl ?_
              refine jj_iload C 4 6 dX7_copy_91 rfl ?_
              refine jj_iload C 5 7 dX7_copy_93 rfl ?_
              obtain ⟨v13, ev13, hx⟩ := ob hx
              refine jj_callV C [.int l4, .int l5] lk_X7_222 (mc_X4_hasCells X.2.1 G F n ev13) (o_X4_hasCells ev13) rfl rfl (Nat.le_of_ble_eq_true rfl) ⟨Nat.le_of_ble_eq_true rfl, Nat.le_of_ble_eq_true rfl⟩ ⟨Nat.zero_le _, Nat.zero_le _⟩ rfl dX7_copy_95 rfl rfl ?_
              refine jj_if_ne (tgt := 107) C dX7_copy_98 (by decide) (fun q98 => ?_) (fun q98 => ?_)
              · rw [if_neg q98] at hx
                refine jj_aload C 6 1 dX7_copy_107 rfl ?_
                obtain ⟨v14, ev14, hx⟩ := ob hx
                refine jj_getR C fd_X7_216 dX7_copy_109 ev14 ?_
                refine jj_iload_n C 2 4 dX7_copy_112 rfl rfl ?_
                refine jj_aload C 7 0 dX7_copy_113 rfl ?_
                obtain ⟨v15, ev15, hx⟩ := ob hx
                refine jj_getR C fd_X7_216 dX7_copy_115 ev15 ?_
                refine jj_iload C 4 6 dX7_copy_118 rfl ?_
                refine jj_iload C 5 7 dX7_copy_120 rfl ?_
                obtain ⟨v16, ev16, hx⟩ := ob hx
                refine jj_acp C ml_X7_225 (Nat.le_of_ble_eq_true rfl) (Nat.le_of_ble_eq_true rfl) dX7_copy_122 ev16 ?_
                refine jj_iload C 5 7 dX7_copy_125 rfl ?_
                obtain rfl := Option.some.inj hx
                exact jj_iret C dX7_copy_127 rfl
              · rw [if_pos q98] at hx
                refine jj_sub [2] rfl ?_
                exact t_X7_copy_101 C F hx
          · rw [if_neg q69] at hx
            refine jj_aload_n C 0 2 dX7_copy_72 rfl rfl ?_
            refine jj_iconst (v := 2) C dX7_copy_73 (by decide) ?_
            obtain ⟨v17, ev17, hx⟩ := ob hx
            refine jj_callV C [.int 2] lk_X7_98 (mc_X7_failWith X.2.1 G F n ev17) (o_X7_failWith ev17) rfl rfl (Nat.le_of_ble_eq_true rfl) ⟨Nat.le_of_ble_eq_true rfl, Nat.le_of_ble_eq_true rfl⟩ ⟨Nat.zero_le _, Nat.zero_le _⟩ rfl dX7_copy_74 rfl rfl ?_
            obtain rfl := Option.some.inj hx
            exact jj_iret C dX7_copy_77 rfl
        · rw [if_pos q50] at hx
          refine jj_sub [2] rfl ?_
          exact t_X7_copy_53 C F hx
    · rw [if_pos q16] at hx
      refine jj_iconst (v := (-1)) C dX7_copy_19 (by decide) ?_
      obtain rfl := Option.some.inj hx
      exact jj_iret C dX7_copy_20 rfl
def x_X7_fault (F : Nat) (h : pH) (l0 : Nat) : Option Int32 :=
  (chk 7 h l0).bind fun _ =>
  (getI 7 h l0 16).bind fun v1 =>
  some v1
theorem o_X7_fault {F : Nat} {h : pH} {l0 : Nat} {res : Int32} (hx : x_X7_fault F h l0 = some res) : chk 7 h l0 = some () := by
  unfold x_X7_fault at hx
  obtain ⟨_, e, _⟩ := ob hx
  exact e
theorem mc_X7_fault (l : Launch) (G : pG) (F n : Nat) {h : pH} {l0 : Nat} {res : Int32} (hx : x_X7_fault F h l0 = some res) : MC l yX7_fault cX7_fault 1 (some (FieldType.int)) (rmD 0 0 0) G [.ref l0] n h (some (.int res)) n h := by
  unfold x_X7_fault at hx
  obtain ⟨_, _, hx⟩ := ob hx
  refine jj_entry RX7 rfl (by decide) (Nat.le_of_ble_eq_true rfl) (fun X _ _ C => ?_)
  show J X G (0, 0, some (.int res), n, h) (0, 0, n) h 0 [(0, .ref l0)] []
  refine jj_aload_n C 0 0 dX7_fault_0 rfl rfl ?_
  obtain ⟨v1, ev1, hx⟩ := ob hx
  refine jj_getI C fd_X7_82 dX7_fault_1 ev1 ?_
  obtain rfl := Option.some.inj hx
  exact jj_iret C dX7_fault_4 rfl
def x_X7_isCounted (F : Nat) (h : pH) (l0 : Int32) : Option Int32 :=
  if l0 < 0 then
    some (0 : Int32)
  else
    if 30 < l0 then
      some (0 : Int32)
    else
      some (1 : Int32)
theorem mc_X7_isCounted (l : Launch) (G : pG) (F n : Nat) {h : pH} {l0 : Int32} {res : Int32} (hx : x_X7_isCounted F h l0 = some res) : MC l yX7_isCounted cX7_isCounted 1 (some (FieldType.boolean)) (rmD 0 0 0) G [.int l0] n h (some (.int res)) n h := by
  unfold x_X7_isCounted at hx
  refine jj_entry RX7 rfl (by decide) (Nat.le_of_ble_eq_true rfl) (fun X _ _ C => ?_)
  show J X G (0, 0, some (.int res), n, h) (0, 0, n) h 0 [(0, .int l0)] []
  refine jj_iload_n C 0 0 dX7_isCounted_0 rfl rfl ?_
  refine jj_if_lt (tgt := 14) C dX7_isCounted_1 (by decide) (fun q1 => ?_) (fun q1 => ?_)
  · rw [if_pos q1] at hx
    refine jj_iconst (v := 0) C dX7_isCounted_14 (by decide) ?_
    obtain rfl := Option.some.inj hx
    exact jj_zret C (Or.inl rfl) dX7_isCounted_15 rfl
  · rw [if_neg q1] at hx
    refine jj_iload_n C 0 0 dX7_isCounted_4 rfl rfl ?_
    refine jj_bipush (v := 30) C dX7_isCounted_5 (by decide) ?_
    refine jj_icmp_gt (tgt := 14) C dX7_isCounted_7 (by decide) (fun q7 => ?_) (fun q7 => ?_)
    · rw [if_pos q7] at hx
      refine jj_iconst (v := 0) C dX7_isCounted_14 (by decide) ?_
      obtain rfl := Option.some.inj hx
      exact jj_zret C (Or.inl rfl) dX7_isCounted_15 rfl
    · rw [if_neg q7] at hx
      refine jj_iconst (v := 1) C dX7_isCounted_10 (by decide) ?_
      refine jj_goto (tgt := 15) C dX7_isCounted_11 (by decide) ?_
      obtain rfl := Option.some.inj hx
      exact jj_zret C (Or.inr rfl) dX7_isCounted_15 rfl
def x_X7_free (F : Nat) (h : pH) (l0 : Nat) (l1 : Int32) : Option (Int64 × pH) :=
  (chk 7 h l0).bind fun _ =>
  (x_X7_isCounted F h l1).bind fun v1 =>
  if v1 = 0 then
    some ((-9223372036854775808 : Int64), h)
  else
    (getI 7 h l0 3).bind fun v2 =>
    if v2 = 0 then
      some ((-9223372036854775808 : Int64), h)
    else
      (x_X7_renewNet F h l0).bind fun v3 =>
      (getR 7 v3 l0 13).bind fun v4 =>
      (getR 7 v3 l0 12).bind fun v5 =>
      (x_X0_countTo F v3 v4 v5 l1).bind fun v6 =>
      (getR 7 v6 l0 13).bind fun v7 =>
      (getR 0 v6 v7 1).bind fun v8 =>
      (aldL v6 v8 l1).bind fun v9 =>
      some (v9, v6)
theorem o_X7_free {F : Nat} {h : pH} {l0 : Nat} {l1 : Int32} {res : (Int64 × pH)} (hx : x_X7_free F h l0 l1 = some res) : chk 7 h l0 = some () := by
  unfold x_X7_free at hx
  obtain ⟨_, e, _⟩ := ob hx
  exact e
theorem mc_X7_free (l : Launch) (G : pG) (F n : Nat) {h : pH} {l0 : Nat} {l1 : Int32} {res : (Int64 × pH)} (hx : x_X7_free F h l0 l1 = some res) : MC l yX7_free cX7_free 2 (some (FieldType.long)) (rmD 6 0 0) G [.ref l0, .int l1] n h (some (.long res.1)) n res.2 := by
  unfold x_X7_free at hx
  obtain ⟨_, _, hx⟩ := ob hx
  refine jj_entry RX7 rfl (by decide) (Nat.le_of_ble_eq_true rfl) (fun X _ _ C => ?_)
  show J X G (0, 0, some (.long res.1), n, res.2) (0, 0, n) h 0 [(0, .ref l0), (1, .int l1)] []
  refine jj_iload_n C 1 1 dX7_free_0 rfl rfl ?_
  obtain ⟨v1, ev1, hx⟩ := ob hx
  refine jj_callS C [.int l1] lk_X7_159 (mc_X7_isCounted X.2.1 G F n ev1) rfl rfl (Nat.le_of_ble_eq_true rfl) ⟨Nat.le_of_ble_eq_true rfl, Nat.le_of_ble_eq_true rfl⟩ ⟨Nat.zero_le _, Nat.zero_le _⟩ rfl dX7_free_1 rfl rfl ?_
  refine jj_if_eq (tgt := 14) C dX7_free_4 (by decide) (fun q4 => ?_) (fun q4 => ?_)
  · rw [if_pos q4] at hx
    refine jj_ldc2 C dX7_free_14 ct_X7_162 ?_
    obtain rfl := Option.some.inj hx
    exact jj_lret C dX7_free_17 rfl
  · rw [if_neg q4] at hx
    refine jj_aload_n C 0 0 dX7_free_7 rfl rfl ?_
    obtain ⟨v2, ev2, hx⟩ := ob hx
    refine jj_getI C fd_X7_109 dX7_free_8 ev2 ?_
    refine jj_if_ne (tgt := 18) C dX7_free_11 (by decide) (fun q11 => ?_) (fun q11 => ?_)
    · rw [if_neg q11] at hx
      refine jj_aload_n C 0 0 dX7_free_18 rfl rfl ?_
      obtain ⟨v3, ev3, hx⟩ := ob hx
      refine jj_callV C [] lk_X7_154 (mc_X7_renewNet X.2.1 G F n ev3) (o_X7_renewNet ev3) rfl rfl (Nat.le_of_ble_eq_true rfl) ⟨Nat.le_of_ble_eq_true rfl, Nat.le_of_ble_eq_true rfl⟩ ⟨Nat.zero_le _, Nat.zero_le _⟩ rfl dX7_free_19 rfl rfl ?_
      refine jj_aload_n C 0 0 dX7_free_22 rfl rfl ?_
      obtain ⟨v4, ev4, hx⟩ := ob hx
      refine jj_getR C fd_X7_72 dX7_free_23 ev4 ?_
      refine jj_aload_n C 0 0 dX7_free_26 rfl rfl ?_
      obtain ⟨v5, ev5, hx⟩ := ob hx
      refine jj_getR C fd_X7_65 dX7_free_27 ev5 ?_
      refine jj_iload_n C 1 1 dX7_free_30 rfl rfl ?_
      obtain ⟨v6, ev6, hx⟩ := ob hx
      refine jj_callV C [.ref v5, .int l1] lk_X7_164 (mc_X0_countTo X.2.1 G F n ev6) (o_X0_countTo ev6) rfl rfl (Nat.le_of_ble_eq_true rfl) ⟨Nat.le_of_ble_eq_true rfl, Nat.le_of_ble_eq_true rfl⟩ ⟨Nat.zero_le _, Nat.zero_le _⟩ rfl dX7_free_31 rfl rfl ?_
      refine jj_aload_n C 0 0 dX7_free_34 rfl rfl ?_
      obtain ⟨v7, ev7, hx⟩ := ob hx
      refine jj_getR C fd_X7_72 dX7_free_35 ev7 ?_
      obtain ⟨v8, ev8, hx⟩ := ob hx
      refine jj_getR C fd_X7_172 dX7_free_38 ev8 ?_
      refine jj_iload_n C 1 1 dX7_free_41 rfl rfl ?_
      obtain ⟨v9, ev9, hx⟩ := ob hx
      refine jj_lald C dX7_free_42 ev9 ?_
      obtain rfl := Option.some.inj hx
      exact jj_lret C dX7_free_43 rfl
    · rw [if_pos q11] at hx
      refine jj_ldc2 C dX7_free_14 ct_X7_162 ?_
      obtain rfl := Option.some.inj hx
      exact jj_lret C dX7_free_17 rfl
def x_X7_have (F : Nat) (h : pH) (l0 : Nat) (l1 : Int32) : Option (Int64 × pH) :=
  (chk 7 h l0).bind fun _ =>
  (x_X7_isCounted F h l1).bind fun v1 =>
  if v1 = 0 then
    some ((-9223372036854775808 : Int64), h)
  else
    (getI 7 h l0 3).bind fun v2 =>
    if v2 = 0 then
      some ((-9223372036854775808 : Int64), h)
    else
      (x_X7_renewNet F h l0).bind fun v3 =>
      (getR 7 v3 l0 13).bind fun v4 =>
      (getR 7 v3 l0 12).bind fun v5 =>
      (x_X0_countTo F v3 v4 v5 l1).bind fun v6 =>
      (getR 7 v6 l0 13).bind fun v7 =>
      (getR 0 v6 v7 0).bind fun v8 =>
      (aldL v6 v8 l1).bind fun v9 =>
      some (v9, v6)
theorem o_X7_have {F : Nat} {h : pH} {l0 : Nat} {l1 : Int32} {res : (Int64 × pH)} (hx : x_X7_have F h l0 l1 = some res) : chk 7 h l0 = some () := by
  unfold x_X7_have at hx
  obtain ⟨_, e, _⟩ := ob hx
  exact e
theorem mc_X7_have (l : Launch) (G : pG) (F n : Nat) {h : pH} {l0 : Nat} {l1 : Int32} {res : (Int64 × pH)} (hx : x_X7_have F h l0 l1 = some res) : MC l yX7_have cX7_have 2 (some (FieldType.long)) (rmD 6 0 0) G [.ref l0, .int l1] n h (some (.long res.1)) n res.2 := by
  unfold x_X7_have at hx
  obtain ⟨_, _, hx⟩ := ob hx
  refine jj_entry RX7 rfl (by decide) (Nat.le_of_ble_eq_true rfl) (fun X _ _ C => ?_)
  show J X G (0, 0, some (.long res.1), n, res.2) (0, 0, n) h 0 [(0, .ref l0), (1, .int l1)] []
  refine jj_iload_n C 1 1 dX7_have_0 rfl rfl ?_
  obtain ⟨v1, ev1, hx⟩ := ob hx
  refine jj_callS C [.int l1] lk_X7_159 (mc_X7_isCounted X.2.1 G F n ev1) rfl rfl (Nat.le_of_ble_eq_true rfl) ⟨Nat.le_of_ble_eq_true rfl, Nat.le_of_ble_eq_true rfl⟩ ⟨Nat.zero_le _, Nat.zero_le _⟩ rfl dX7_have_1 rfl rfl ?_
  refine jj_if_eq (tgt := 14) C dX7_have_4 (by decide) (fun q4 => ?_) (fun q4 => ?_)
  · rw [if_pos q4] at hx
    refine jj_ldc2 C dX7_have_14 ct_X7_162 ?_
    obtain rfl := Option.some.inj hx
    exact jj_lret C dX7_have_17 rfl
  · rw [if_neg q4] at hx
    refine jj_aload_n C 0 0 dX7_have_7 rfl rfl ?_
    obtain ⟨v2, ev2, hx⟩ := ob hx
    refine jj_getI C fd_X7_109 dX7_have_8 ev2 ?_
    refine jj_if_ne (tgt := 18) C dX7_have_11 (by decide) (fun q11 => ?_) (fun q11 => ?_)
    · rw [if_neg q11] at hx
      refine jj_aload_n C 0 0 dX7_have_18 rfl rfl ?_
      obtain ⟨v3, ev3, hx⟩ := ob hx
      refine jj_callV C [] lk_X7_154 (mc_X7_renewNet X.2.1 G F n ev3) (o_X7_renewNet ev3) rfl rfl (Nat.le_of_ble_eq_true rfl) ⟨Nat.le_of_ble_eq_true rfl, Nat.le_of_ble_eq_true rfl⟩ ⟨Nat.zero_le _, Nat.zero_le _⟩ rfl dX7_have_19 rfl rfl ?_
      refine jj_aload_n C 0 0 dX7_have_22 rfl rfl ?_
      obtain ⟨v4, ev4, hx⟩ := ob hx
      refine jj_getR C fd_X7_72 dX7_have_23 ev4 ?_
      refine jj_aload_n C 0 0 dX7_have_26 rfl rfl ?_
      obtain ⟨v5, ev5, hx⟩ := ob hx
      refine jj_getR C fd_X7_65 dX7_have_27 ev5 ?_
      refine jj_iload_n C 1 1 dX7_have_30 rfl rfl ?_
      obtain ⟨v6, ev6, hx⟩ := ob hx
      refine jj_callV C [.ref v5, .int l1] lk_X7_164 (mc_X0_countTo X.2.1 G F n ev6) (o_X0_countTo ev6) rfl rfl (Nat.le_of_ble_eq_true rfl) ⟨Nat.le_of_ble_eq_true rfl, Nat.le_of_ble_eq_true rfl⟩ ⟨Nat.zero_le _, Nat.zero_le _⟩ rfl dX7_have_31 rfl rfl ?_
      refine jj_aload_n C 0 0 dX7_have_34 rfl rfl ?_
      obtain ⟨v7, ev7, hx⟩ := ob hx
      refine jj_getR C fd_X7_72 dX7_have_35 ev7 ?_
      obtain ⟨v8, ev8, hx⟩ := ob hx
      refine jj_getR C fd_X7_168 dX7_have_38 ev8 ?_
      refine jj_iload_n C 1 1 dX7_have_41 rfl rfl ?_
      obtain ⟨v9, ev9, hx⟩ := ob hx
      refine jj_lald C dX7_have_42 ev9 ?_
      obtain rfl := Option.some.inj hx
      exact jj_lret C dX7_have_43 rfl
    · rw [if_pos q11] at hx
      refine jj_ldc2 C dX7_have_14 ct_X7_162 ?_
      obtain rfl := Option.some.inj hx
      exact jj_lret C dX7_have_17 rfl
def x_X7_heardInTold_101 (F : Nat) (k26 : Int32 → Int32 → Int32 → Int32 → Int32 → Option Int32) (h : pH) (l0 : Nat) (l1 : Int32) (l2 : Int32) (l3 : Int32) (l4 : Int32) (l5 : Int32) (l6 : Int32) (l7 : Int32) (l8 : Int32) : Option Int32 :=
  k26 l4 l5 l6 l7 (l8 + 1)
theorem t_X7_heardInTold_101 {X : pX} {G : pG} {n : Nat} {res : Int32} (C : Cx X G RX7 cX7_heardInTold 10 (rmD 4 0 0) n (some (FieldType.int))) (F : Nat) {h : pH} {l0 : Nat} {l1 : Int32} {l2 : Int32} {l3 : Int32} {l4 : Int32} {l5 : Int32} {l6 : Int32} {l7 : Int32} {l8 : Int32} {k26 : Int32 → Int32 → Int32 → Int32 → Int32 → Option Int32} (hk26 : ∀ (l4 : Int32) (l5 : Int32) (l6 : Int32) (l7 : Int32) (l8 : Int32), k26 l4 l5 l6 l7 l8 = some res → J X G (0, 0, some (.int res), n, h) (0, 0, n) h 26 [(0, .ref l0), (1, .int l1), (2, .int l2), (3, .int l3), (4, .int l4), (5, .int l5), (6, .int l6), (7, .int l7), (8, .int l8)] []) (hx : x_X7_heardInTold_101 F k26 h l0 l1 l2 l3 l4 l5 l6 l7 l8 = some res) : J X G (0, 0, some (.int res), n, h) (0, 0, n) h 101 [(0, .ref l0), (1, .int l1), (2, .int l2), (3, .int l3), (4, .int l4), (5, .int l5), (6, .int l6), (7, .int l7), (8, .int l8)] [] := by
  unfold x_X7_heardInTold_101 at hx
  refine jj_iinc (v := l8 + 1) C 8 8 dX7_heardInTold_101 rfl rfl rfl (by decide) ?_
  refine jj_goto (tgt := 26) C dX7_heardInTold_104 (by decide) ?_
  refine jj_sub [1, 2, 3, 4, 5, 6, 7, 8, 0] rfl ?_
  exact hk26 _ _ _ _ _ hx
def x_X7_heardInTold_84 (F : Nat) (k26 : Int32 → Int32 → Int32 → Int32 → Int32 → Option Int32) (h : pH) (l0 : Nat) (l1 : Int32) (l2 : Int32) (l3 : Int32) (l4 : Int32) (l5 : Int32) (l6 : Int32) (l7 : Int32) (l8 : Int32) : Option Int32 :=
  if l7 = ((-9)) then
    if l4 = l3 then
      x_X7_heardInTold_101 F k26 h l0 l1 l2 l3 l4 l5 l6 l8 l8
    else
      x_X7_heardInTold_101 F k26 h l0 l1 l2 l3 l4 l5 l6 l7 l8
  else
    x_X7_heardInTold_101 F k26 h l0 l1 l2 l3 l4 l5 l6 l7 l8
theorem t_X7_heardInTold_84 {X : pX} {G : pG} {n : Nat} {res : Int32} (C : Cx X G RX7 cX7_heardInTold 10 (rmD 4 0 0) n (some (FieldType.int))) (F : Nat) {h : pH} {l0 : Nat} {l1 : Int32} {l2 : Int32} {l3 : Int32} {l4 : Int32} {l5 : Int32} {l6 : Int32} {l7 : Int32} {l8 : Int32} {k26 : Int32 → Int32 → Int32 → Int32 → Int32 → Option Int32} (hk26 : ∀ (l4 : Int32) (l5 : Int32) (l6 : Int32) (l7 : Int32) (l8 : Int32), k26 l4 l5 l6 l7 l8 = some res → J X G (0, 0, some (.int res), n, h) (0, 0, n) h 26 [(0, .ref l0), (1, .int l1), (2, .int l2), (3, .int l3), (4, .int l4), (5, .int l5), (6, .int l6), (7, .int l7), (8, .int l8)] []) (hx : x_X7_heardInTold_84 F k26 h l0 l1 l2 l3 l4 l5 l6 l7 l8 = some res) : J X G (0, 0, some (.int res), n, h) (0, 0, n) h 84 [(0, .ref l0), (1, .int l1), (2, .int l2), (3, .int l3), (4, .int l4), (5, .int l5), (6, .int l6), (7, .int l7), (8, .int l8)] [] := by
  unfold x_X7_heardInTold_84 at hx
  refine jj_iload C 7 7 dX7_heardInTold_84 rfl ?_
  refine jj_bipush (v := (-9)) C dX7_heardInTold_86 (by decide) ?_
  refine jj_icmp_ne (tgt := 101) C dX7_heardInTold_88 (by decide) (fun q88 => ?_) (fun q88 => ?_)
  · rw [if_neg q88] at hx
    exact t_X7_heardInTold_101 C F hk26 hx
  · rw [if_pos q88] at hx
    refine jj_iload C 4 4 dX7_heardInTold_91 rfl ?_
    refine jj_iload_n C 3 3 dX7_heardInTold_93 rfl rfl ?_
    refine jj_icmp_ne (tgt := 101) C dX7_heardInTold_94 (by decide) (fun q94 => ?_) (fun q94 => ?_)
    · rw [if_neg q94] at hx
      exact t_X7_heardInTold_101 C F hk26 hx
    · rw [if_pos q94] at hx
      refine jj_iload C 8 8 dX7_heardInTold_97 rfl ?_
      refine jj_istore C 7 dX7_heardInTold_99 rfl (by decide) ?_
      refine jj_sub [1, 2, 3, 4, 5, 6, 7, 0, 8] rfl ?_
      exact t_X7_heardInTold_101 C F hk26 hx
def s_X7_heardInTold_26 (F : Nat)  (h : pH) (l0 : Nat) (l1 : Int32) (l2 : Int32) (l3 : Int32) (k26 : Int32 → Int32 → Int32 → Int32 → Int32 → Option Int32) (l4 : Int32) (l5 : Int32) (l6 : Int32) (l7 : Int32) (l8 : Int32) : Option Int32 :=
  if l1 < l8 then
    if l2 = 0 then
      some l4
    else
      if l2 = 1 then
        some l6
      else
        if l2 = 2 then
          some l7
        else
          some l5
  else
    (getR 7 h l0 2).bind fun v1 =>
    (getI 7 h l0 3).bind fun v2 =>
    (getR 7 h l0 6).bind fun v3 =>
    (x_X7_heardBy F h v1 v2 v3 l8).bind fun v4 =>
    (x_J6_bitCount_0f7a4 F h v4).bind fun v5 =>
    if l6 = ((-9)) then
      if (l4 ||| v4) = 0 then
        x_X7_heardInTold_84 F k26 h l0 l1 l2 l3 (l4 ||| v4) (l5 + v5) l6 l7 l8
      else
        x_X7_heardInTold_84 F k26 h l0 l1 l2 l3 (l4 ||| v4) (l5 + v5) l8 l7 l8
    else
      x_X7_heardInTold_84 F k26 h l0 l1 l2 l3 (l4 ||| v4) (l5 + v5) l6 l7 l8
def x_X7_heardInTold_26 (F : Nat)  (h : pH) (l0 : Nat) (l1 : Int32) (l2 : Int32) (l3 : Int32) : Nat → Int32 → Int32 → Int32 → Int32 → Int32 → Option Int32
  | 0, _, _, _, _, _ => none
  | m + 1, l4, l5, l6, l7, l8 => s_X7_heardInTold_26 F h l0 l1 l2 l3 (x_X7_heardInTold_26 F h l0 l1 l2 l3 m) l4 l5 l6 l7 l8
theorem ts_X7_heardInTold_26 {X : pX} {G : pG} {n : Nat} {res : Int32} (C : Cx X G RX7 cX7_heardInTold 10 (rmD 4 0 0) n (some (FieldType.int))) (F : Nat) {h : pH} {l0 : Nat} {l1 : Int32} {l2 : Int32} {l3 : Int32} {k26 : Int32 → Int32 → Int32 → Int32 → Int32 → Option Int32} (hk26 : ∀ (l4 : Int32) (l5 : Int32) (l6 : Int32) (l7 : Int32) (l8 : Int32), k26 l4 l5 l6 l7 l8 = some res → J X G (0, 0, some (.int res), n, h) (0, 0, n) h 26 [(0, .ref l0), (1, .int l1), (2, .int l2), (3, .int l3), (4, .int l4), (5, .int l5), (6, .int l6), (7, .int l7), (8, .int l8)] []) {l4 : Int32} {l5 : Int32} {l6 : Int32} {l7 : Int32} {l8 : Int32} (hx : s_X7_heardInTold_26 F h l0 l1 l2 l3 k26 l4 l5 l6 l7 l8 = some res) : J X G (0, 0, some (.int res), n, h) (0, 0, n) h 26 [(0, .ref l0), (1, .int l1), (2, .int l2), (3, .int l3), (4, .int l4), (5, .int l5), (6, .int l6), (7, .int l7), (8, .int l8)] [] := by
  unfold s_X7_heardInTold_26 at hx
  refine jj_iload C 8 8 dX7_heardInTold_26 rfl ?_
  refine jj_iload_n C 1 1 dX7_heardInTold_28 rfl rfl ?_
  refine jj_icmp_gt (tgt := 107) C dX7_heardInTold_29 (by decide) (fun q29 => ?_) (fun q29 => ?_)
  · rw [if_pos q29] at hx
    refine jj_iload_n C 2 2 dX7_heardInTold_107 rfl rfl ?_
    refine jj_if_ne (tgt := 114) C dX7_heardInTold_108 (by decide) (fun q108 => ?_) (fun q108 => ?_)
    · rw [if_neg q108] at hx
      refine jj_iload_n C 2 2 dX7_heardInTold_114 rfl rfl ?_
      refine jj_iconst (v := 1) C dX7_heardInTold_115 (by decide) ?_
      refine jj_icmp_ne (tgt := 122) C dX7_heardInTold_116 (by decide) (fun q116 => ?_) (fun q116 => ?_)
      · rw [if_neg q116] at hx
        refine jj_iload_n C 2 2 dX7_heardInTold_122 rfl rfl ?_
        refine jj_iconst (v := 2) C dX7_heardInTold_123 (by decide) ?_
        refine jj_icmp_ne (tgt := 132) C dX7_heardInTold_124 (by decide) (fun q124 => ?_) (fun q124 => ?_)
        · rw [if_neg q124] at hx
          refine jj_iload C 5 5 dX7_heardInTold_132 rfl ?_
          obtain rfl := Option.some.inj hx
          exact jj_iret C dX7_heardInTold_134 rfl
        · rw [if_pos q124] at hx
          refine jj_iload C 7 7 dX7_heardInTold_127 rfl ?_
          refine jj_goto (tgt := 134) C dX7_heardInTold_129 (by decide) ?_
          obtain rfl := Option.some.inj hx
          exact jj_iret C dX7_heardInTold_134 rfl
      · rw [if_pos q116] at hx
        refine jj_iload C 6 6 dX7_heardInTold_119 rfl ?_
        obtain rfl := Option.some.inj hx
        exact jj_iret C dX7_heardInTold_121 rfl
    · rw [if_pos q108] at hx
      refine jj_iload C 4 4 dX7_heardInTold_111 rfl ?_
      obtain rfl := Option.some.inj hx
      exact jj_iret C dX7_heardInTold_113 rfl
  · rw [if_neg q29] at hx
    refine jj_aload_n C 0 0 dX7_heardInTold_32 rfl rfl ?_
    obtain ⟨v1, ev1, hx⟩ := ob hx
    refine jj_getR C fd_X7_28 dX7_heardInTold_33 ev1 ?_
    refine jj_aload_n C 0 0 dX7_heardInTold_36 rfl rfl ?_
    obtain ⟨v2, ev2, hx⟩ := ob hx
    refine jj_getI C fd_X7_109 dX7_heardInTold_37 ev2 ?_
    refine jj_aload_n C 0 0 dX7_heardInTold_40 rfl rfl ?_
    obtain ⟨v3, ev3, hx⟩ := ob hx
    refine jj_getR C fd_X7_36 dX7_heardInTold_41 ev3 ?_
    refine jj_iload C 8 8 dX7_heardInTold_44 rfl ?_
    obtain ⟨v4, ev4, hx⟩ := ob hx
    refine jj_callS C [.ref v1, .int v2, .ref v3, .int l8] lk_X7_135 (mc_X7_heardBy X.2.1 G F n ev4) rfl rfl (Nat.le_of_ble_eq_true rfl) ⟨Nat.le_of_ble_eq_true rfl, Nat.le_of_ble_eq_true rfl⟩ ⟨Nat.zero_le _, Nat.zero_le _⟩ rfl dX7_heardInTold_46 rfl rfl ?_
    refine jj_istore C 9 dX7_heardInTold_49 rfl (by decide) ?_
    refine jj_iload C 4 5 dX7_heardInTold_51 rfl ?_
    refine jj_iload C 9 0 dX7_heardInTold_53 rfl ?_
    refine jj_ior C dX7_heardInTold_55 ?_
    refine jj_istore C 4 dX7_heardInTold_56 rfl (by decide) ?_
    refine jj_iload C 5 6 dX7_heardInTold_58 rfl ?_
    refine jj_iload C 9 1 dX7_heardInTold_60 rfl ?_
    obtain ⟨v5, ev5, hx⟩ := ob hx
    refine jj_callS C [.int v4] lk_X7_270 (mc_J6_bitCount_0f7a4 X.2.1 G F n ev5) rfl rfl (Nat.le_of_ble_eq_true rfl) ⟨Nat.le_of_ble_eq_true rfl, Nat.le_of_ble_eq_true rfl⟩ ⟨Nat.zero_le _, Nat.zero_le _⟩ rfl dX7_heardInTold_62 rfl rfl ?_
    refine jj_iadd C dX7_heardInTold_65 ?_
    refine jj_istore C 5 dX7_heardInTold_66 rfl (by decide) ?_
    refine jj_iload C 6 7 dX7_heardInTold_68 rfl ?_
    refine jj_bipush (v := (-9)) C dX7_heardInTold_70 (by decide) ?_
    refine jj_icmp_ne (tgt := 84) C dX7_heardInTold_72 (by decide) (fun q72 => ?_) (fun q72 => ?_)
    · rw [if_neg q72] at hx
      refine jj_sub [3, 4, 5, 6, 1, 0, 7, 8, 9] rfl ?_
      exact t_X7_heardInTold_84 C F hk26 hx
    · rw [if_pos q72] at hx
      refine jj_iload C 4 1 dX7_heardInTold_75 rfl ?_
      refine jj_if_eq (tgt := 84) C dX7_heardInTold_77 (by decide) (fun q77 => ?_) (fun q77 => ?_)
      · rw [if_pos q77] at hx
        refine jj_sub [3, 4, 5, 6, 1, 0, 7, 8, 9] rfl ?_
        exact t_X7_heardInTold_84 C F hk26 hx
      · rw [if_neg q77] at hx
        refine jj_iload C 8 9 dX7_heardInTold_80 rfl ?_
        refine jj_istore C 6 dX7_heardInTold_82 rfl (by decide) ?_
        refine jj_sub [4, 5, 6, 7, 2, 1, 0, 8, 9] rfl ?_
        exact t_X7_heardInTold_84 C F hk26 hx
theorem t_X7_heardInTold_26 {X : pX} {G : pG} {n : Nat} {res : Int32} (C : Cx X G RX7 cX7_heardInTold 10 (rmD 4 0 0) n (some (FieldType.int))) (F : Nat) {h : pH} {l0 : Nat} {l1 : Int32} {l2 : Int32} {l3 : Int32} : ∀ (m : Nat) (l4 : Int32) (l5 : Int32) (l6 : Int32) (l7 : Int32) (l8 : Int32), x_X7_heardInTold_26 F h l0 l1 l2 l3 m l4 l5 l6 l7 l8 = some res → J X G (0, 0, some (.int res), n, h) (0, 0, n) h 26 [(0, .ref l0), (1, .int l1), (2, .int l2), (3, .int l3), (4, .int l4), (5, .int l5), (6, .int l6), (7, .int l7), (8, .int l8)] [] := by
  intro m
  induction m with
  | zero => intro l4 l5 l6 l7 l8 hx; exact nomatch (show (none : Option Int32) = some res from hx)
  | succ m ih => intro l4 l5 l6 l7 l8 hx; exact ts_X7_heardInTold_26 C F  ih hx
def x_X7_heardInTold (F : Nat) (h : pH) (l0 : Nat) (l1 : Int32) (l2 : Int32) : Option Int32 :=
  (chk 7 h l0).bind fun _ =>
  (getI 7 h l0 3).bind fun v1 =>
  x_X7_heardInTold_26 F h l0 l1 l2 (((1 : Int32) <<< (v1 &&& 31)) - (1 : Int32)) F 0 0 ((-9)) ((-9)) 1
theorem o_X7_heardInTold {F : Nat} {h : pH} {l0 : Nat} {l1 : Int32} {l2 : Int32} {res : Int32} (hx : x_X7_heardInTold F h l0 l1 l2 = some res) : chk 7 h l0 = some () := by
  unfold x_X7_heardInTold at hx
  obtain ⟨_, e, _⟩ := ob hx
  exact e
theorem mc_X7_heardInTold (l : Launch) (G : pG) (F n : Nat) {h : pH} {l0 : Nat} {l1 : Int32} {l2 : Int32} {res : Int32} (hx : x_X7_heardInTold F h l0 l1 l2 = some res) : MC l yX7_heardInTold cX7_heardInTold 10 (some (FieldType.int)) (rmD 4 0 0) G [.ref l0, .int l1, .int l2] n h (some (.int res)) n h := by
  unfold x_X7_heardInTold at hx
  obtain ⟨_, _, hx⟩ := ob hx
  refine jj_entry RX7 rfl (by decide) (Nat.le_of_ble_eq_true rfl) (fun X _ _ C => ?_)
  show J X G (0, 0, some (.int res), n, h) (0, 0, n) h 0 [(0, .ref l0), (1, .int l1), (2, .int l2)] []
  refine jj_iconst (v := 1) C dX7_heardInTold_0 (by decide) ?_
  refine jj_aload_n C 0 0 dX7_heardInTold_1 rfl rfl ?_
  obtain ⟨v1, ev1, hx⟩ := ob hx
  refine jj_getI C fd_X7_109 dX7_heardInTold_2 ev1 ?_
  refine jj_ishl C dX7_heardInTold_5 ?_
  refine jj_iconst (v := 1) C dX7_heardInTold_6 (by decide) ?_
  refine jj_isub C dX7_heardInTold_7 ?_
  refine jj_istore_n C 3 dX7_heardInTold_8 rfl rfl (by decide) ?_
  refine jj_iconst (v := 0) C dX7_heardInTold_9 (by decide) ?_
  refine jj_istore C 4 dX7_heardInTold_10 rfl (by decide) ?_
  refine jj_iconst (v := 0) C dX7_heardInTold_12 (by decide) ?_
  refine jj_istore C 5 dX7_heardInTold_13 rfl (by decide) ?_
  refine jj_bipush (v := (-9)) C dX7_heardInTold_15 (by decide) ?_
  refine jj_istore C 6 dX7_heardInTold_17 rfl (by decide) ?_
  refine jj_bipush (v := (-9)) C dX7_heardInTold_19 (by decide) ?_
  refine jj_istore C 7 dX7_heardInTold_21 rfl (by decide) ?_
  refine jj_iconst (v := 1) C dX7_heardInTold_23 (by decide) ?_
  refine jj_istore C 8 dX7_heardInTold_24 rfl (by decide) ?_
  refine jj_sub [6, 7, 8, 5, 4, 3, 2, 1, 0] rfl ?_
  exact t_X7_heardInTold_26 C F F _ _ _ _ _ hx
def x_X7_hush (F : Nat) (h : pH) (l0 : Nat) : Option (Int32 × pH) :=
  (chk 7 h l0).bind fun _ =>
  (getI 7 h l0 3).bind fun v1 =>
  if v1 = 0 then
    some ((-3 : Int32), h)
  else
    (getI 7 h l0 5).bind fun v2 =>
    (putV 7 h l0 5 (.int 0)).bind fun v3 =>
    some (v2, v3)
theorem o_X7_hush {F : Nat} {h : pH} {l0 : Nat} {res : (Int32 × pH)} (hx : x_X7_hush F h l0 = some res) : chk 7 h l0 = some () := by
  unfold x_X7_hush at hx
  obtain ⟨_, e, _⟩ := ob hx
  exact e
theorem mc_X7_hush (l : Launch) (G : pG) (F n : Nat) {h : pH} {l0 : Nat} {res : (Int32 × pH)} (hx : x_X7_hush F h l0 = some res) : MC l yX7_hush cX7_hush 2 (some (FieldType.int)) (rmD 0 0 0) G [.ref l0] n h (some (.int res.1)) n res.2 := by
  unfold x_X7_hush at hx
  obtain ⟨_, _, hx⟩ := ob hx
  refine jj_entry RX7 rfl (by decide) (Nat.le_of_ble_eq_true rfl) (fun X _ _ C => ?_)
  show J X G (0, 0, some (.int res.1), n, res.2) (0, 0, n) h 0 [(0, .ref l0)] []
  refine jj_aload_n C 0 0 dX7_hush_0 rfl rfl ?_
  obtain ⟨v1, ev1, hx⟩ := ob hx
  refine jj_getI C fd_X7_109 dX7_hush_1 ev1 ?_
  refine jj_if_ne (tgt := 10) C dX7_hush_4 (by decide) (fun q4 => ?_) (fun q4 => ?_)
  · rw [if_neg q4] at hx
    refine jj_aload_n C 0 0 dX7_hush_10 rfl rfl ?_
    obtain ⟨v2, ev2, hx⟩ := ob hx
    refine jj_getI C fd_X7_125 dX7_hush_11 ev2 ?_
    refine jj_istore_n C 1 dX7_hush_14 rfl rfl (by decide) ?_
    refine jj_aload_n C 0 1 dX7_hush_15 rfl rfl ?_
    refine jj_iconst (v := 0) C dX7_hush_16 (by decide) ?_
    obtain ⟨v3, ev3, hx⟩ := ob hx
    refine jj_put C fd_X7_125 rfl rfl dX7_hush_17 ev3 ?_
    refine jj_iload_n C 1 0 dX7_hush_20 rfl rfl ?_
    obtain rfl := Option.some.inj hx
    exact jj_iret C dX7_hush_21 rfl
  · rw [if_pos q4] at hx
    refine jj_bipush (v := (-3)) C dX7_hush_7 (by decide) ?_
    obtain rfl := Option.some.inj hx
    exact jj_iret C dX7_hush_9 rfl
def x_X7_isOfRow_20 (F : Nat)  (h : pH) : Option Int32 :=
  some (1 : Int32)
theorem t_X7_isOfRow_20 {X : pX} {G : pG} {n : Nat} {res : Int32} (C : Cx X G RX7 cX7_isOfRow 1 (rmD 1 0 0) n (some (FieldType.boolean))) (F : Nat) {h : pH} (hx : x_X7_isOfRow_20 F h = some res) : J X G (0, 0, some (.int res), n, h) (0, 0, n) h 20 [] [] := by
  unfold x_X7_isOfRow_20 at hx
  refine jj_iconst (v := 1) C dX7_isOfRow_20 (by decide) ?_
  refine jj_goto (tgt := 25) C dX7_isOfRow_21 (by decide) ?_
  obtain rfl := Option.some.inj hx
  exact jj_zret C (Or.inr rfl) dX7_isOfRow_25 rfl
def x_X7_isOfRow (F : Nat) (h : pH) (l0 : Int32) : Option Int32 :=
  (x_X7_isBelow F h l0 4).bind fun v1 =>
  if v1 = 0 then
    if l0 < 10 then
      some (0 : Int32)
    else
      if 14 ≤ l0 then
        some (0 : Int32)
      else
        x_X7_isOfRow_20 F h
  else
    x_X7_isOfRow_20 F h
theorem mc_X7_isOfRow (l : Launch) (G : pG) (F n : Nat) {h : pH} {l0 : Int32} {res : Int32} (hx : x_X7_isOfRow F h l0 = some res) : MC l yX7_isOfRow cX7_isOfRow 1 (some (FieldType.boolean)) (rmD 1 0 0) G [.int l0] n h (some (.int res)) n h := by
  unfold x_X7_isOfRow at hx
  refine jj_entry RX7 rfl (by decide) (Nat.le_of_ble_eq_true rfl) (fun X _ _ C => ?_)
  show J X G (0, 0, some (.int res), n, h) (0, 0, n) h 0 [(0, .int l0)] []
  refine jj_iload_n C 0 0 dX7_isOfRow_0 rfl rfl ?_
  refine jj_iconst (v := 4) C dX7_isOfRow_1 (by decide) ?_
  obtain ⟨v1, ev1, hx⟩ := ob hx
  refine jj_callS C [.int l0, .int 4] lk_X7_90 (mc_X7_isBelow X.2.1 G F n ev1) rfl rfl (Nat.le_of_ble_eq_true rfl) ⟨Nat.le_of_ble_eq_true rfl, Nat.le_of_ble_eq_true rfl⟩ ⟨Nat.zero_le _, Nat.zero_le _⟩ rfl dX7_isOfRow_2 rfl rfl ?_
  refine jj_if_ne (tgt := 20) C dX7_isOfRow_5 (by decide) (fun q5 => ?_) (fun q5 => ?_)
  · rw [if_neg q5] at hx
    refine jj_sub [] rfl ?_
    exact t_X7_isOfRow_20 C F hx
  · rw [if_pos q5] at hx
    refine jj_iload_n C 0 0 dX7_isOfRow_8 rfl rfl ?_
    refine jj_bipush (v := 10) C dX7_isOfRow_9 (by decide) ?_
    refine jj_icmp_lt (tgt := 24) C dX7_isOfRow_11 (by decide) (fun q11 => ?_) (fun q11 => ?_)
    · rw [if_pos q11] at hx
      refine jj_iconst (v := 0) C dX7_isOfRow_24 (by decide) ?_
      obtain rfl := Option.some.inj hx
      exact jj_zret C (Or.inl rfl) dX7_isOfRow_25 rfl
    · rw [if_neg q11] at hx
      refine jj_iload_n C 0 0 dX7_isOfRow_14 rfl rfl ?_
      refine jj_bipush (v := 14) C dX7_isOfRow_15 (by decide) ?_
      refine jj_icmp_ge (tgt := 24) C dX7_isOfRow_17 (by decide) (fun q17 => ?_) (fun q17 => ?_)
      · rw [if_pos q17] at hx
        refine jj_iconst (v := 0) C dX7_isOfRow_24 (by decide) ?_
        obtain rfl := Option.some.inj hx
        exact jj_zret C (Or.inl rfl) dX7_isOfRow_25 rfl
      · rw [if_neg q17] at hx
        refine jj_sub [] rfl ?_
        exact t_X7_isOfRow_20 C F hx
def x_X7_readingsAreSo_41 (F : Nat) (k2 : Int32 → Option Int32) (h : pH) (l0 : Nat) (l1 : Int32) (l2 : Int32) (l3 : Nat) (s0 : Nat) : Option Int32 :=
  (getR 3 h l3 0).bind fun v1 =>
  (getI 3 h l3 2).bind fun v2 =>
  (x_X6_standsIn F h s0 v1 v2).bind fun v3 =>
  (getI 3 h l3 3).bind fun v4 =>
  if v3 = v4 then
    k2 (l2 + 1)
  else
    some (0 : Int32)
theorem t_X7_readingsAreSo_41 {X : pX} {G : pG} {n : Nat} {res : Int32} (C : Cx X G RX7 cX7_readingsAreSo 5 (rmD 4 0 0) n (some (FieldType.boolean))) (F : Nat) {h : pH} {l0 : Nat} {l1 : Int32} {l2 : Int32} {l3 : Nat} {s0 : Nat} {k2 : Int32 → Option Int32} (hk2 : ∀ (l2 : Int32), k2 l2 = some res → J X G (0, 0, some (.int res), n, h) (0, 0, n) h 2 [(0, .ref l0), (1, .int l1), (2, .int l2)] []) (hx : x_X7_readingsAreSo_41 F k2 h l0 l1 l2 l3 s0 = some res) : J X G (0, 0, some (.int res), n, h) (0, 0, n) h 41 [(0, .ref l0), (1, .int l1), (2, .int l2), (3, .ref l3)] [.ref s0] := by
  unfold x_X7_readingsAreSo_41 at hx
  refine jj_astore C 4 dX7_readingsAreSo_41 rfl (by decide) ?_
  refine jj_aload C 4 0 dX7_readingsAreSo_43 rfl ?_
  refine jj_aload_n C 3 4 dX7_readingsAreSo_45 rfl rfl ?_
  obtain ⟨v1, ev1, hx⟩ := ob hx
  refine jj_getR C fd_X7_284 dX7_readingsAreSo_46 ev1 ?_
  refine jj_aload_n C 3 4 dX7_readingsAreSo_49 rfl rfl ?_
  obtain ⟨v2, ev2, hx⟩ := ob hx
  refine jj_getI C fd_X7_285 dX7_readingsAreSo_50 ev2 ?_
  obtain ⟨v3, ev3, hx⟩ := ob hx
  refine jj_callV C [.ref v1, .int v2] lk_X7_278 (mc_X6_standsIn X.2.1 G F n ev3) (o_X6_standsIn ev3) rfl rfl (Nat.le_of_ble_eq_true rfl) ⟨Nat.le_of_ble_eq_true rfl, Nat.le_of_ble_eq_true rfl⟩ ⟨Nat.zero_le _, Nat.zero_le _⟩ rfl dX7_readingsAreSo_53 rfl rfl ?_
  refine jj_aload_n C 3 4 dX7_readingsAreSo_56 rfl rfl ?_
  obtain ⟨v4, ev4, hx⟩ := ob hx
  refine jj_getI C fd_X7_286 dX7_readingsAreSo_57 ev4 ?_
  refine jj_icmp_eq (tgt := 65) C dX7_readingsAreSo_60 (by decide) (fun q60 => ?_) (fun q60 => ?_)
  · rw [if_pos q60] at hx
    refine jj_iinc (v := l2 + 1) C 2 3 dX7_readingsAreSo_65 rfl rfl rfl (by decide) ?_
    refine jj_goto (tgt := 2) C dX7_readingsAreSo_68 (by decide) ?_
    refine jj_sub [2, 3, 0] rfl ?_
    exact hk2 _ hx
  · rw [if_neg q60] at hx
    refine jj_iconst (v := 0) C dX7_readingsAreSo_63 (by decide) ?_
    obtain rfl := Option.some.inj hx
    exact jj_zret C (Or.inl rfl) dX7_readingsAreSo_64 rfl
def s_X7_readingsAreSo_2 (F : Nat)  (h : pH) (l0 : Nat) (l1 : Int32) (k2 : Int32 → Option Int32) (l2 : Int32) : Option Int32 :=
  (getI 7 h l0 8).bind fun v1 =>
  if v1 ≤ l2 then
    some (1 : Int32)
  else
    (getR 7 h l0 7).bind fun v2 =>
    (aldR 5 h v2 l2).bind fun v3 =>
    (getI 3 h v3 1).bind fun v4 =>
    if v4 = l1 then
      (getR 7 h l0 9).bind fun v8 =>
      x_X7_readingsAreSo_41 F k2 h l0 l1 l2 v3 v8
    else
      (getR 7 h l0 2).bind fun v5 =>
      (getI 3 h v3 1).bind fun v6 =>
      (aldR 4 h v5 v6).bind fun v7 =>
      x_X7_readingsAreSo_41 F k2 h l0 l1 l2 v3 v7
def x_X7_readingsAreSo_2 (F : Nat)  (h : pH) (l0 : Nat) (l1 : Int32) : Nat → Int32 → Option Int32
  | 0, _ => none
  | m + 1, l2 => s_X7_readingsAreSo_2 F h l0 l1 (x_X7_readingsAreSo_2 F h l0 l1 m) l2
theorem ts_X7_readingsAreSo_2 {X : pX} {G : pG} {n : Nat} {res : Int32} (C : Cx X G RX7 cX7_readingsAreSo 5 (rmD 4 0 0) n (some (FieldType.boolean))) (F : Nat) {h : pH} {l0 : Nat} {l1 : Int32} {k2 : Int32 → Option Int32} (hk2 : ∀ (l2 : Int32), k2 l2 = some res → J X G (0, 0, some (.int res), n, h) (0, 0, n) h 2 [(0, .ref l0), (1, .int l1), (2, .int l2)] []) {l2 : Int32} (hx : s_X7_readingsAreSo_2 F h l0 l1 k2 l2 = some res) : J X G (0, 0, some (.int res), n, h) (0, 0, n) h 2 [(0, .ref l0), (1, .int l1), (2, .int l2)] [] := by
  unfold s_X7_readingsAreSo_2 at hx
  refine jj_iload_n C 2 2 dX7_readingsAreSo_2 rfl rfl ?_
  refine jj_aload_n C 0 0 dX7_readingsAreSo_3 rfl rfl ?_
  obtain ⟨v1, ev1, hx⟩ := ob hx
  refine jj_getI C fd_X7_182 dX7_readingsAreSo_4 ev1 ?_
  refine jj_icmp_ge (tgt := 71) C dX7_readingsAreSo_7 (by decide) (fun q7 => ?_) (fun q7 => ?_)
  · rw [if_pos q7] at hx
    refine jj_iconst (v := 1) C dX7_readingsAreSo_71 (by decide) ?_
    obtain rfl := Option.some.inj hx
    exact jj_zret C (Or.inr rfl) dX7_readingsAreSo_72 rfl
  · rw [if_neg q7] at hx
    refine jj_aload_n C 0 0 dX7_readingsAreSo_10 rfl rfl ?_
    obtain ⟨v2, ev2, hx⟩ := ob hx
    refine jj_getR C fd_X7_41 dX7_readingsAreSo_11 ev2 ?_
    refine jj_iload_n C 2 2 dX7_readingsAreSo_14 rfl rfl ?_
    obtain ⟨v3, ev3, hx⟩ := ob hx
    refine jj_aald C 5 rfl dX7_readingsAreSo_15 ev3 ?_
    refine jj_astore_n C 3 dX7_readingsAreSo_16 rfl rfl (by decide) ?_
    refine jj_aload_n C 3 0 dX7_readingsAreSo_17 rfl rfl ?_
    obtain ⟨v4, ev4, hx⟩ := ob hx
    refine jj_getI C fd_X7_281 dX7_readingsAreSo_18 ev4 ?_
    refine jj_iload_n C 1 2 dX7_readingsAreSo_21 rfl rfl ?_
    refine jj_icmp_ne (tgt := 32) C dX7_readingsAreSo_22 (by decide) (fun q22 => ?_) (fun q22 => ?_)
    · rw [if_neg q22] at hx
      refine jj_aload_n C 0 1 dX7_readingsAreSo_32 rfl rfl ?_
      obtain ⟨v5, ev5, hx⟩ := ob hx
      refine jj_getR C fd_X7_28 dX7_readingsAreSo_33 ev5 ?_
      refine jj_aload_n C 3 0 dX7_readingsAreSo_36 rfl rfl ?_
      obtain ⟨v6, ev6, hx⟩ := ob hx
      refine jj_getI C fd_X7_281 dX7_readingsAreSo_37 ev6 ?_
      obtain ⟨v7, ev7, hx⟩ := ob hx
      refine jj_aald C 4 rfl dX7_readingsAreSo_40 ev7 ?_
      refine jj_sub [1, 2, 3, 0] rfl ?_
      exact t_X7_readingsAreSo_41 C F hk2 hx
    · rw [if_pos q22] at hx
      refine jj_aload_n C 0 1 dX7_readingsAreSo_25 rfl rfl ?_
      obtain ⟨v8, ev8, hx⟩ := ob hx
      refine jj_getR C fd_X7_48 dX7_readingsAreSo_26 ev8 ?_
      refine jj_goto (tgt := 41) C dX7_readingsAreSo_29 (by decide) ?_
      refine jj_sub [1, 2, 3, 0] rfl ?_
      exact t_X7_readingsAreSo_41 C F hk2 hx
theorem t_X7_readingsAreSo_2 {X : pX} {G : pG} {n : Nat} {res : Int32} (C : Cx X G RX7 cX7_readingsAreSo 5 (rmD 4 0 0) n (some (FieldType.boolean))) (F : Nat) {h : pH} {l0 : Nat} {l1 : Int32} : ∀ (m : Nat) (l2 : Int32), x_X7_readingsAreSo_2 F h l0 l1 m l2 = some res → J X G (0, 0, some (.int res), n, h) (0, 0, n) h 2 [(0, .ref l0), (1, .int l1), (2, .int l2)] [] := by
  intro m
  induction m with
  | zero => intro l2 hx; exact nomatch (show (none : Option Int32) = some res from hx)
  | succ m ih => intro l2 hx; exact ts_X7_readingsAreSo_2 C F  ih hx
def x_X7_readingsAreSo (F : Nat) (h : pH) (l0 : Nat) (l1 : Int32) : Option Int32 :=
  (chk 7 h l0).bind fun _ =>
  x_X7_readingsAreSo_2 F h l0 l1 F 0
theorem o_X7_readingsAreSo {F : Nat} {h : pH} {l0 : Nat} {l1 : Int32} {res : Int32} (hx : x_X7_readingsAreSo F h l0 l1 = some res) : chk 7 h l0 = some () := by
  unfold x_X7_readingsAreSo at hx
  obtain ⟨_, e, _⟩ := ob hx
  exact e
theorem mc_X7_readingsAreSo (l : Launch) (G : pG) (F n : Nat) {h : pH} {l0 : Nat} {l1 : Int32} {res : Int32} (hx : x_X7_readingsAreSo F h l0 l1 = some res) : MC l yX7_readingsAreSo cX7_readingsAreSo 5 (some (FieldType.boolean)) (rmD 4 0 0) G [.ref l0, .int l1] n h (some (.int res)) n h := by
  unfold x_X7_readingsAreSo at hx
  obtain ⟨_, _, hx⟩ := ob hx
  refine jj_entry RX7 rfl (by decide) (Nat.le_of_ble_eq_true rfl) (fun X _ _ C => ?_)
  show J X G (0, 0, some (.int res), n, h) (0, 0, n) h 0 [(0, .ref l0), (1, .int l1)] []
  refine jj_iconst (v := 0) C dX7_readingsAreSo_0 (by decide) ?_
  refine jj_istore_n C 2 dX7_readingsAreSo_1 rfl rfl (by decide) ?_
  refine jj_sub [1, 2, 0] rfl ?_
  exact t_X7_readingsAreSo_2 C F F _ hx
def x_X7_kinds_54 (F : Nat) (k27 : pH → Int32 → Int32 → Option (Int32 × pH)) (h : pH) (l0 : Nat) (l1 : Int32) (l2 : Int32) (l3 : Int32) : Option (Int32 × pH) :=
  k27 h l2 (l3 + 1)
theorem t_X7_kinds_54 {X : pX} {G : pG} {n : Nat} {res : (Int32 × pH)} (C : Cx X G RX7 cX7_kinds 4 (rmD 5 0 0) n (some (FieldType.int))) (F : Nat) {h : pH} {l0 : Nat} {l1 : Int32} {l2 : Int32} {l3 : Int32} {k27 : pH → Int32 → Int32 → Option (Int32 × pH)} (hk27 : ∀ (h : pH) (l2 : Int32) (l3 : Int32), k27 h l2 l3 = some res → J X G (0, 0, some (.int res.1), n, res.2) (0, 0, n) h 27 [(0, .ref l0), (1, .int l1), (2, .int l2), (3, .int l3)] []) (hx : x_X7_kinds_54 F k27 h l0 l1 l2 l3 = some res) : J X G (0, 0, some (.int res.1), n, res.2) (0, 0, n) h 54 [(0, .ref l0), (1, .int l1), (2, .int l2), (3, .int l3)] [] := by
  unfold x_X7_kinds_54 at hx
  refine jj_iinc (v := l3 + 1) C 3 3 dX7_kinds_54 rfl rfl rfl (by decide) ?_
  refine jj_goto (tgt := 27) C dX7_kinds_57 (by decide) ?_
  refine jj_sub [1, 2, 3, 0] rfl ?_
  exact hk27 _ _ _ hx
def s_X7_kinds_27 (F : Nat)  (l0 : Nat) (l1 : Int32) (k27 : pH → Int32 → Int32 → Option (Int32 × pH)) (h : pH) (l2 : Int32) (l3 : Int32) : Option (Int32 × pH) :=
  if 3 ≤ l3 then
    some (l2, h)
  else
    (getR 7 h l0 9).bind fun v1 =>
    (putV 6 h v1 2 (.int l3)).bind fun v2 =>
    (x_X7_readingsAreSo F v2 l0 l1).bind fun v3 =>
    if v3 = 0 then
      x_X7_kinds_54 F k27 v2 l0 l1 l2 l3
    else
      x_X7_kinds_54 F k27 v2 l0 l1 (l2 ||| ((1 : Int32) <<< (l3 &&& 31))) l3
def x_X7_kinds_27 (F : Nat)  (l0 : Nat) (l1 : Int32) : Nat → pH → Int32 → Int32 → Option (Int32 × pH)
  | 0, _, _, _ => none
  | m + 1, h, l2, l3 => s_X7_kinds_27 F l0 l1 (x_X7_kinds_27 F l0 l1 m) h l2 l3
theorem ts_X7_kinds_27 {X : pX} {G : pG} {n : Nat} {res : (Int32 × pH)} (C : Cx X G RX7 cX7_kinds 4 (rmD 5 0 0) n (some (FieldType.int))) (F : Nat) {l0 : Nat} {l1 : Int32} {k27 : pH → Int32 → Int32 → Option (Int32 × pH)} (hk27 : ∀ (h : pH) (l2 : Int32) (l3 : Int32), k27 h l2 l3 = some res → J X G (0, 0, some (.int res.1), n, res.2) (0, 0, n) h 27 [(0, .ref l0), (1, .int l1), (2, .int l2), (3, .int l3)] []) {h : pH} {l2 : Int32} {l3 : Int32} (hx : s_X7_kinds_27 F l0 l1 k27 h l2 l3 = some res) : J X G (0, 0, some (.int res.1), n, res.2) (0, 0, n) h 27 [(0, .ref l0), (1, .int l1), (2, .int l2), (3, .int l3)] [] := by
  unfold s_X7_kinds_27 at hx
  refine jj_iload_n C 3 3 dX7_kinds_27 rfl rfl ?_
  refine jj_iconst (v := 3) C dX7_kinds_28 (by decide) ?_
  refine jj_icmp_ge (tgt := 60) C dX7_kinds_29 (by decide) (fun q29 => ?_) (fun q29 => ?_)
  · rw [if_pos q29] at hx
    refine jj_iload_n C 2 2 dX7_kinds_60 rfl rfl ?_
    obtain rfl := Option.some.inj hx
    exact jj_iret C dX7_kinds_61 rfl
  · rw [if_neg q29] at hx
    refine jj_aload_n C 0 0 dX7_kinds_32 rfl rfl ?_
    obtain ⟨v1, ev1, hx⟩ := ob hx
    refine jj_getR C fd_X7_48 dX7_kinds_33 ev1 ?_
    refine jj_iload_n C 3 3 dX7_kinds_36 rfl rfl ?_
    obtain ⟨v2, ev2, hx⟩ := ob hx
    refine jj_put C fd_X7_115 rfl rfl dX7_kinds_37 ev2 ?_
    refine jj_aload_n C 0 0 dX7_kinds_40 rfl rfl ?_
    refine jj_iload_n C 1 1 dX7_kinds_41 rfl rfl ?_
    obtain ⟨v3, ev3, hx⟩ := ob hx
    refine jj_callV C [.int l1] lk_X7_193 (mc_X7_readingsAreSo X.2.1 G F n ev3) (o_X7_readingsAreSo ev3) rfl rfl (Nat.le_of_ble_eq_true rfl) ⟨Nat.le_of_ble_eq_true rfl, Nat.le_of_ble_eq_true rfl⟩ ⟨Nat.zero_le _, Nat.zero_le _⟩ rfl dX7_kinds_42 rfl rfl ?_
    refine jj_if_eq (tgt := 54) C dX7_kinds_45 (by decide) (fun q45 => ?_) (fun q45 => ?_)
    · rw [if_pos q45] at hx
      exact t_X7_kinds_54 C F hk27 hx
    · rw [if_neg q45] at hx
      refine jj_iload_n C 2 2 dX7_kinds_48 rfl rfl ?_
      refine jj_iconst (v := 1) C dX7_kinds_49 (by decide) ?_
      refine jj_iload_n C 3 3 dX7_kinds_50 rfl rfl ?_
      refine jj_ishl C dX7_kinds_51 ?_
      refine jj_ior C dX7_kinds_52 ?_
      refine jj_istore_n C 2 dX7_kinds_53 rfl rfl (by decide) ?_
      refine jj_sub [1, 2, 0, 3] rfl ?_
      exact t_X7_kinds_54 C F hk27 hx
theorem t_X7_kinds_27 {X : pX} {G : pG} {n : Nat} {res : (Int32 × pH)} (C : Cx X G RX7 cX7_kinds 4 (rmD 5 0 0) n (some (FieldType.int))) (F : Nat) {l0 : Nat} {l1 : Int32} : ∀ (m : Nat) (h : pH) (l2 : Int32) (l3 : Int32), x_X7_kinds_27 F l0 l1 m h l2 l3 = some res → J X G (0, 0, some (.int res.1), n, res.2) (0, 0, n) h 27 [(0, .ref l0), (1, .int l1), (2, .int l2), (3, .int l3)] [] := by
  intro m
  induction m with
  | zero => intro h l2 l3 hx; exact nomatch (show (none : Option (Int32 × pH)) = some res from hx)
  | succ m ih => intro h l2 l3 hx; exact ts_X7_kinds_27 C F  ih hx
def x_X7_kinds (F : Nat) (h : pH) (l0 : Nat) (l1 : Int32) : Option (Int32 × pH) :=
  (chk 7 h l0).bind fun _ =>
  (x_X7_isWord F h l0 l1).bind fun v1 =>
  if v1 = 0 then
    some ((-1 : Int32), h)
  else
    (getR 7 h l0 9).bind fun v2 =>
    (getR 7 h l0 2).bind fun v3 =>
    (aldR 4 h v3 l1).bind fun v4 =>
    (x_X6_become F h v2 v4).bind fun v5 =>
    x_X7_kinds_27 F l0 l1 F v5 0 0
theorem o_X7_kinds {F : Nat} {h : pH} {l0 : Nat} {l1 : Int32} {res : (Int32 × pH)} (hx : x_X7_kinds F h l0 l1 = some res) : chk 7 h l0 = some () := by
  unfold x_X7_kinds at hx
  obtain ⟨_, e, _⟩ := ob hx
  exact e
theorem mc_X7_kinds (l : Launch) (G : pG) (F n : Nat) {h : pH} {l0 : Nat} {l1 : Int32} {res : (Int32 × pH)} (hx : x_X7_kinds F h l0 l1 = some res) : MC l yX7_kinds cX7_kinds 4 (some (FieldType.int)) (rmD 5 0 0) G [.ref l0, .int l1] n h (some (.int res.1)) n res.2 := by
  unfold x_X7_kinds at hx
  obtain ⟨_, _, hx⟩ := ob hx
  refine jj_entry RX7 rfl (by decide) (Nat.le_of_ble_eq_true rfl) (fun X _ _ C => ?_)
  show J X G (0, 0, some (.int res.1), n, res.2) (0, 0, n) h 0 [(0, .ref l0), (1, .int l1)] []
  refine jj_aload_n C 0 0 dX7_kinds_0 rfl rfl ?_
  refine jj_iload_n C 1 1 dX7_kinds_1 rfl rfl ?_
  obtain ⟨v1, ev1, hx⟩ := ob hx
  refine jj_callV C [.int l1] lk_X7_112 (mc_X7_isWord X.2.1 G F n ev1) (o_X7_isWord ev1) rfl rfl (Nat.le_of_ble_eq_true rfl) ⟨Nat.le_of_ble_eq_true rfl, Nat.le_of_ble_eq_true rfl⟩ ⟨Nat.zero_le _, Nat.zero_le _⟩ rfl dX7_kinds_2 rfl rfl ?_
  refine jj_if_ne (tgt := 10) C dX7_kinds_5 (by decide) (fun q5 => ?_) (fun q5 => ?_)
  · rw [if_neg q5] at hx
    refine jj_aload_n C 0 0 dX7_kinds_10 rfl rfl ?_
    obtain ⟨v2, ev2, hx⟩ := ob hx
    refine jj_getR C fd_X7_48 dX7_kinds_11 ev2 ?_
    refine jj_aload_n C 0 0 dX7_kinds_14 rfl rfl ?_
    obtain ⟨v3, ev3, hx⟩ := ob hx
    refine jj_getR C fd_X7_28 dX7_kinds_15 ev3 ?_
    refine jj_iload_n C 1 1 dX7_kinds_18 rfl rfl ?_
    obtain ⟨v4, ev4, hx⟩ := ob hx
    refine jj_aald C 4 rfl dX7_kinds_19 ev4 ?_
    obtain ⟨v5, ev5, hx⟩ := ob hx
    refine jj_callV C [.ref v4] lk_X7_189 (mc_X6_become X.2.1 G F n ev5) (o_X6_become ev5) rfl rfl (Nat.le_of_ble_eq_true rfl) ⟨Nat.le_of_ble_eq_true rfl, Nat.le_of_ble_eq_true rfl⟩ ⟨Nat.zero_le _, Nat.zero_le _⟩ rfl dX7_kinds_20 rfl rfl ?_
    refine jj_iconst (v := 0) C dX7_kinds_23 (by decide) ?_
    refine jj_istore_n C 2 dX7_kinds_24 rfl rfl (by decide) ?_
    refine jj_iconst (v := 0) C dX7_kinds_25 (by decide) ?_
    refine jj_istore_n C 3 dX7_kinds_26 rfl rfl (by decide) ?_
    refine jj_sub [2, 3, 1, 0] rfl ?_
    exact t_X7_kinds_27 C F F _ _ _ hx
  · rw [if_pos q5] at hx
    refine jj_iconst (v := (-1)) C dX7_kinds_8 (by decide) ?_
    obtain rfl := Option.some.inj hx
    exact jj_iret C dX7_kinds_9 rfl
def x_X7_lasts_54 (F : Nat) (k27 : pH → Int32 → Int32 → Option (Int32 × pH)) (h : pH) (l0 : Nat) (l1 : Int32) (l2 : Int32) (l3 : Int32) : Option (Int32 × pH) :=
  k27 h l2 (l3 + 1)
theorem t_X7_lasts_54 {X : pX} {G : pG} {n : Nat} {res : (Int32 × pH)} (C : Cx X G RX7 cX7_lasts 4 (rmD 5 0 0) n (some (FieldType.int))) (F : Nat) {h : pH} {l0 : Nat} {l1 : Int32} {l2 : Int32} {l3 : Int32} {k27 : pH → Int32 → Int32 → Option (Int32 × pH)} (hk27 : ∀ (h : pH) (l2 : Int32) (l3 : Int32), k27 h l2 l3 = some res → J X G (0, 0, some (.int res.1), n, res.2) (0, 0, n) h 27 [(0, .ref l0), (1, .int l1), (2, .int l2), (3, .int l3)] []) (hx : x_X7_lasts_54 F k27 h l0 l1 l2 l3 = some res) : J X G (0, 0, some (.int res.1), n, res.2) (0, 0, n) h 54 [(0, .ref l0), (1, .int l1), (2, .int l2), (3, .int l3)] [] := by
  unfold x_X7_lasts_54 at hx
  refine jj_iinc (v := l3 + 1) C 3 3 dX7_lasts_54 rfl rfl rfl (by decide) ?_
  refine jj_goto (tgt := 27) C dX7_lasts_57 (by decide) ?_
  refine jj_sub [1, 2, 3, 0] rfl ?_
  exact hk27 _ _ _ hx
def s_X7_lasts_27 (F : Nat)  (l0 : Nat) (l1 : Int32) (k27 : pH → Int32 → Int32 → Option (Int32 × pH)) (h : pH) (l2 : Int32) (l3 : Int32) : Option (Int32 × pH) :=
  if 3 ≤ l3 then
    some (l2, h)
  else
    (getR 7 h l0 9).bind fun v1 =>
    (x_X6_changeLast F h v1 l3).bind fun v2 =>
    (x_X7_readingsAreSo F v2 l0 l1).bind fun v3 =>
    if v3 = 0 then
      x_X7_lasts_54 F k27 v2 l0 l1 l2 l3
    else
      x_X7_lasts_54 F k27 v2 l0 l1 (l2 ||| ((1 : Int32) <<< (l3 &&& 31))) l3
def x_X7_lasts_27 (F : Nat)  (l0 : Nat) (l1 : Int32) : Nat → pH → Int32 → Int32 → Option (Int32 × pH)
  | 0, _, _, _ => none
  | m + 1, h, l2, l3 => s_X7_lasts_27 F l0 l1 (x_X7_lasts_27 F l0 l1 m) h l2 l3
theorem ts_X7_lasts_27 {X : pX} {G : pG} {n : Nat} {res : (Int32 × pH)} (C : Cx X G RX7 cX7_lasts 4 (rmD 5 0 0) n (some (FieldType.int))) (F : Nat) {l0 : Nat} {l1 : Int32} {k27 : pH → Int32 → Int32 → Option (Int32 × pH)} (hk27 : ∀ (h : pH) (l2 : Int32) (l3 : Int32), k27 h l2 l3 = some res → J X G (0, 0, some (.int res.1), n, res.2) (0, 0, n) h 27 [(0, .ref l0), (1, .int l1), (2, .int l2), (3, .int l3)] []) {h : pH} {l2 : Int32} {l3 : Int32} (hx : s_X7_lasts_27 F l0 l1 k27 h l2 l3 = some res) : J X G (0, 0, some (.int res.1), n, res.2) (0, 0, n) h 27 [(0, .ref l0), (1, .int l1), (2, .int l2), (3, .int l3)] [] := by
  unfold s_X7_lasts_27 at hx
  refine jj_iload_n C 3 3 dX7_lasts_27 rfl rfl ?_
  refine jj_iconst (v := 3) C dX7_lasts_28 (by decide) ?_
  refine jj_icmp_ge (tgt := 60) C dX7_lasts_29 (by decide) (fun q29 => ?_) (fun q29 => ?_)
  · rw [if_pos q29] at hx
    refine jj_iload_n C 2 2 dX7_lasts_60 rfl rfl ?_
    obtain rfl := Option.some.inj hx
    exact jj_iret C dX7_lasts_61 rfl
  · rw [if_neg q29] at hx
    refine jj_aload_n C 0 0 dX7_lasts_32 rfl rfl ?_
    obtain ⟨v1, ev1, hx⟩ := ob hx
    refine jj_getR C fd_X7_48 dX7_lasts_33 ev1 ?_
    refine jj_iload_n C 3 3 dX7_lasts_36 rfl rfl ?_
    obtain ⟨v2, ev2, hx⟩ := ob hx
    refine jj_callV C [.int l3] lk_X7_196 (mc_X6_changeLast X.2.1 G F n ev2) (o_X6_changeLast ev2) rfl rfl (Nat.le_of_ble_eq_true rfl) ⟨Nat.le_of_ble_eq_true rfl, Nat.le_of_ble_eq_true rfl⟩ ⟨Nat.zero_le _, Nat.zero_le _⟩ rfl dX7_lasts_37 rfl rfl ?_
    refine jj_aload_n C 0 0 dX7_lasts_40 rfl rfl ?_
    refine jj_iload_n C 1 1 dX7_lasts_41 rfl rfl ?_
    obtain ⟨v3, ev3, hx⟩ := ob hx
    refine jj_callV C [.int l1] lk_X7_193 (mc_X7_readingsAreSo X.2.1 G F n ev3) (o_X7_readingsAreSo ev3) rfl rfl (Nat.le_of_ble_eq_true rfl) ⟨Nat.le_of_ble_eq_true rfl, Nat.le_of_ble_eq_true rfl⟩ ⟨Nat.zero_le _, Nat.zero_le _⟩ rfl dX7_lasts_42 rfl rfl ?_
    refine jj_if_eq (tgt := 54) C dX7_lasts_45 (by decide) (fun q45 => ?_) (fun q45 => ?_)
    · rw [if_pos q45] at hx
      exact t_X7_lasts_54 C F hk27 hx
    · rw [if_neg q45] at hx
      refine jj_iload_n C 2 2 dX7_lasts_48 rfl rfl ?_
      refine jj_iconst (v := 1) C dX7_lasts_49 (by decide) ?_
      refine jj_iload_n C 3 3 dX7_lasts_50 rfl rfl ?_
      refine jj_ishl C dX7_lasts_51 ?_
      refine jj_ior C dX7_lasts_52 ?_
      refine jj_istore_n C 2 dX7_lasts_53 rfl rfl (by decide) ?_
      refine jj_sub [1, 2, 0, 3] rfl ?_
      exact t_X7_lasts_54 C F hk27 hx
theorem t_X7_lasts_27 {X : pX} {G : pG} {n : Nat} {res : (Int32 × pH)} (C : Cx X G RX7 cX7_lasts 4 (rmD 5 0 0) n (some (FieldType.int))) (F : Nat) {l0 : Nat} {l1 : Int32} : ∀ (m : Nat) (h : pH) (l2 : Int32) (l3 : Int32), x_X7_lasts_27 F l0 l1 m h l2 l3 = some res → J X G (0, 0, some (.int res.1), n, res.2) (0, 0, n) h 27 [(0, .ref l0), (1, .int l1), (2, .int l2), (3, .int l3)] [] := by
  intro m
  induction m with
  | zero => intro h l2 l3 hx; exact nomatch (show (none : Option (Int32 × pH)) = some res from hx)
  | succ m ih => intro h l2 l3 hx; exact ts_X7_lasts_27 C F  ih hx
def x_X7_lasts (F : Nat) (h : pH) (l0 : Nat) (l1 : Int32) : Option (Int32 × pH) :=
  (chk 7 h l0).bind fun _ =>
  (x_X7_isWord F h l0 l1).bind fun v1 =>
  if v1 = 0 then
    some ((-1 : Int32), h)
  else
    (getR 7 h l0 9).bind fun v2 =>
    (getR 7 h l0 2).bind fun v3 =>
    (aldR 4 h v3 l1).bind fun v4 =>
    (x_X6_become F h v2 v4).bind fun v5 =>
    x_X7_lasts_27 F l0 l1 F v5 0 0
theorem o_X7_lasts {F : Nat} {h : pH} {l0 : Nat} {l1 : Int32} {res : (Int32 × pH)} (hx : x_X7_lasts F h l0 l1 = some res) : chk 7 h l0 = some () := by
  unfold x_X7_lasts at hx
  obtain ⟨_, e, _⟩ := ob hx
  exact e
theorem mc_X7_lasts (l : Launch) (G : pG) (F n : Nat) {h : pH} {l0 : Nat} {l1 : Int32} {res : (Int32 × pH)} (hx : x_X7_lasts F h l0 l1 = some res) : MC l yX7_lasts cX7_lasts 4 (some (FieldType.int)) (rmD 5 0 0) G [.ref l0, .int l1] n h (some (.int res.1)) n res.2 := by
  unfold x_X7_lasts at hx
  obtain ⟨_, _, hx⟩ := ob hx
  refine jj_entry RX7 rfl (by decide) (Nat.le_of_ble_eq_true rfl) (fun X _ _ C => ?_)
  show J X G (0, 0, some (.int res.1), n, res.2) (0, 0, n) h 0 [(0, .ref l0), (1, .int l1)] []
  refine jj_aload_n C 0 0 dX7_lasts_0 rfl rfl ?_
  refine jj_iload_n C 1 1 dX7_lasts_1 rfl rfl ?_
  obtain ⟨v1, ev1, hx⟩ := ob hx
  refine jj_callV C [.int l1] lk_X7_112 (mc_X7_isWord X.2.1 G F n ev1) (o_X7_isWord ev1) rfl rfl (Nat.le_of_ble_eq_true rfl) ⟨Nat.le_of_ble_eq_true rfl, Nat.le_of_ble_eq_true rfl⟩ ⟨Nat.zero_le _, Nat.zero_le _⟩ rfl dX7_lasts_2 rfl rfl ?_
  refine jj_if_ne (tgt := 10) C dX7_lasts_5 (by decide) (fun q5 => ?_) (fun q5 => ?_)
  · rw [if_neg q5] at hx
    refine jj_aload_n C 0 0 dX7_lasts_10 rfl rfl ?_
    obtain ⟨v2, ev2, hx⟩ := ob hx
    refine jj_getR C fd_X7_48 dX7_lasts_11 ev2 ?_
    refine jj_aload_n C 0 0 dX7_lasts_14 rfl rfl ?_
    obtain ⟨v3, ev3, hx⟩ := ob hx
    refine jj_getR C fd_X7_28 dX7_lasts_15 ev3 ?_
    refine jj_iload_n C 1 1 dX7_lasts_18 rfl rfl ?_
    obtain ⟨v4, ev4, hx⟩ := ob hx
    refine jj_aald C 4 rfl dX7_lasts_19 ev4 ?_
    obtain ⟨v5, ev5, hx⟩ := ob hx
    refine jj_callV C [.ref v4] lk_X7_189 (mc_X6_become X.2.1 G F n ev5) (o_X6_become ev5) rfl rfl (Nat.le_of_ble_eq_true rfl) ⟨Nat.le_of_ble_eq_true rfl, Nat.le_of_ble_eq_true rfl⟩ ⟨Nat.zero_le _, Nat.zero_le _⟩ rfl dX7_lasts_20 rfl rfl ?_
    refine jj_iconst (v := 0) C dX7_lasts_23 (by decide) ?_
    refine jj_istore_n C 2 dX7_lasts_24 rfl rfl (by decide) ?_
    refine jj_iconst (v := 0) C dX7_lasts_25 (by decide) ?_
    refine jj_istore_n C 3 dX7_lasts_26 rfl rfl (by decide) ?_
    refine jj_sub [2, 3, 1, 0] rfl ?_
    exact t_X7_lasts_27 C F F _ _ _ hx
  · rw [if_pos q5] at hx
    refine jj_iconst (v := (-1)) C dX7_lasts_8 (by decide) ?_
    obtain rfl := Option.some.inj hx
    exact jj_iret C dX7_lasts_9 rfl
def x_X7_leaveTrace (F : Nat) (h : pH) (l0 : Nat) (l1 : Int32) : Option pH :=
  (chk 7 h l0).bind fun _ =>
  (getI 7 h l0 15).bind fun v1 =>
  (putV 7 h l0 15 (.int (((31 : Int32) * v1) + l1))).bind fun v2 =>
  some v2
theorem o_X7_leaveTrace {F : Nat} {h : pH} {l0 : Nat} {l1 : Int32} {res : pH} (hx : x_X7_leaveTrace F h l0 l1 = some res) : chk 7 h l0 = some () := by
  unfold x_X7_leaveTrace at hx
  obtain ⟨_, e, _⟩ := ob hx
  exact e
theorem mc_X7_leaveTrace (l : Launch) (G : pG) (F n : Nat) {h : pH} {l0 : Nat} {l1 : Int32} {res : pH} (hx : x_X7_leaveTrace F h l0 l1 = some res) : MC l yX7_leaveTrace cX7_leaveTrace 2 none (rmD 0 0 0) G [.ref l0, .int l1] n h (none) n res := by
  unfold x_X7_leaveTrace at hx
  obtain ⟨_, _, hx⟩ := ob hx
  refine jj_entry RX7 rfl (by decide) (Nat.le_of_ble_eq_true rfl) (fun X _ _ C => ?_)
  show J X G (0, 0, none, n, res) (0, 0, n) h 0 [(0, .ref l0), (1, .int l1)] []
  refine jj_aload_n C 0 0 dX7_leaveTrace_0 rfl rfl ?_
  refine jj_bipush (v := 31) C dX7_leaveTrace_1 (by decide) ?_
  refine jj_aload_n C 0 0 dX7_leaveTrace_3 rfl rfl ?_
  obtain ⟨v1, ev1, hx⟩ := ob hx
  refine jj_getI C fd_X7_243 dX7_leaveTrace_4 ev1 ?_
  refine jj_imul C dX7_leaveTrace_7 ?_
  refine jj_iload_n C 1 1 dX7_leaveTrace_8 rfl rfl ?_
  refine jj_iadd C dX7_leaveTrace_9 ?_
  obtain ⟨v2, ev2, hx⟩ := ob hx
  refine jj_put C fd_X7_243 rfl rfl dX7_leaveTrace_10 ev2 ?_
  obtain rfl := Option.some.inj hx
  exact jj_vret C dX7_leaveTrace_13 rfl
def x_X7_longest (F : Nat) (h : pH) (l0 : Nat) : Option (Int32 × pH) :=
  (chk 7 h l0).bind fun _ =>
  (getI 7 h l0 3).bind fun v1 =>
  if v1 = 0 then
    some ((-3 : Int32), h)
  else
    (x_X7_renewNet F h l0).bind fun v2 =>
    (getR 7 v2 l0 11).bind fun v3 =>
    (x_X1_longestSilent F v2 v3).bind fun v4 =>
    some (v4, v2)
theorem o_X7_longest {F : Nat} {h : pH} {l0 : Nat} {res : (Int32 × pH)} (hx : x_X7_longest F h l0 = some res) : chk 7 h l0 = some () := by
  unfold x_X7_longest at hx
  obtain ⟨_, e, _⟩ := ob hx
  exact e
theorem mc_X7_longest (l : Launch) (G : pG) (F n : Nat) {h : pH} {l0 : Nat} {res : (Int32 × pH)} (hx : x_X7_longest F h l0 = some res) : MC l yX7_longest cX7_longest 1 (some (FieldType.int)) (rmD 6 0 0) G [.ref l0] n h (some (.int res.1)) n res.2 := by
  unfold x_X7_longest at hx
  obtain ⟨_, _, hx⟩ := ob hx
  refine jj_entry RX7 rfl (by decide) (Nat.le_of_ble_eq_true rfl) (fun X _ _ C => ?_)
  show J X G (0, 0, some (.int res.1), n, res.2) (0, 0, n) h 0 [(0, .ref l0)] []
  refine jj_aload_n C 0 0 dX7_longest_0 rfl rfl ?_
  obtain ⟨v1, ev1, hx⟩ := ob hx
  refine jj_getI C fd_X7_109 dX7_longest_1 ev1 ?_
  refine jj_if_ne (tgt := 10) C dX7_longest_4 (by decide) (fun q4 => ?_) (fun q4 => ?_)
  · rw [if_neg q4] at hx
    refine jj_aload_n C 0 0 dX7_longest_10 rfl rfl ?_
    obtain ⟨v2, ev2, hx⟩ := ob hx
    refine jj_callV C [] lk_X7_154 (mc_X7_renewNet X.2.1 G F n ev2) (o_X7_renewNet ev2) rfl rfl (Nat.le_of_ble_eq_true rfl) ⟨Nat.le_of_ble_eq_true rfl, Nat.le_of_ble_eq_true rfl⟩ ⟨Nat.zero_le _, Nat.zero_le _⟩ rfl dX7_longest_11 rfl rfl ?_
    refine jj_aload_n C 0 0 dX7_longest_14 rfl rfl ?_
    obtain ⟨v3, ev3, hx⟩ := ob hx
    refine jj_getR C fd_X7_58 dX7_longest_15 ev3 ?_
    obtain ⟨v4, ev4, hx⟩ := ob hx
    refine jj_callV C [] lk_X7_175 (mc_X1_longestSilent X.2.1 G F n ev4) (o_X1_longestSilent ev4) rfl rfl (Nat.le_of_ble_eq_true rfl) ⟨Nat.le_of_ble_eq_true rfl, Nat.le_of_ble_eq_true rfl⟩ ⟨Nat.zero_le _, Nat.zero_le _⟩ rfl dX7_longest_18 rfl rfl ?_
    obtain rfl := Option.some.inj hx
    exact jj_iret C dX7_longest_21 rfl
  · rw [if_pos q4] at hx
    refine jj_bipush (v := (-3)) C dX7_longest_7 (by decide) ?_
    obtain rfl := Option.some.inj hx
    exact jj_iret C dX7_longest_9 rfl
def x_X7_lose_26 (F : Nat)  (h : pH) (l0 : Nat) (l1 : Int32) (s0 : Int32) : Option (Int32 × pH) :=
  (getR 7 h l0 0).bind fun v1 =>
  (aldR 3 h v1 l1).bind fun v2 =>
  (putZ 4 h v2 1 (0 : Int32)).bind fun v3 =>
  some (s0, v3)
theorem t_X7_lose_26 {X : pX} {G : pG} {n : Nat} {res : (Int32 × pH)} (C : Cx X G RX7 cX7_lose 3 (rmD 2 0 0) n (some (FieldType.int))) (F : Nat) {h : pH} {l0 : Nat} {l1 : Int32} {s0 : Int32} (hx : x_X7_lose_26 F h l0 l1 s0 = some res) : J X G (0, 0, some (.int res.1), n, res.2) (0, 0, n) h 26 [(0, .ref l0), (1, .int l1)] [.int s0] := by
  unfold x_X7_lose_26 at hx
  refine jj_istore_n C 2 dX7_lose_26 rfl rfl (by decide) ?_
  refine jj_aload_n C 0 1 dX7_lose_27 rfl rfl ?_
  obtain ⟨v1, ev1, hx⟩ := ob hx
  refine jj_getR C fd_X7_13 dX7_lose_28 ev1 ?_
  refine jj_iload_n C 1 2 dX7_lose_31 rfl rfl ?_
  obtain ⟨v2, ev2, hx⟩ := ob hx
  refine jj_aald C 3 rfl dX7_lose_32 ev2 ?_
  refine jj_iconst (v := 0) C dX7_lose_33 (by decide) ?_
  obtain ⟨v3, ev3, hx⟩ := ob hx
  obtain ⟨zv3, ev3⟩ := putZ_inv ev3
  refine jj_put C fd_X7_206 (nz zv3) (fz zv3) dX7_lose_34 ev3 ?_
  refine jj_iload_n C 2 0 dX7_lose_37 rfl rfl ?_
  obtain rfl := Option.some.inj hx
  exact jj_iret C dX7_lose_38 rfl
def x_X7_lose (F : Nat) (h : pH) (l0 : Nat) (l1 : Int32) : Option (Int32 × pH) :=
  (chk 7 h l0).bind fun _ =>
  (x_X7_isSheet F h l1).bind fun v1 =>
  if v1 = 0 then
    some ((-1 : Int32), h)
  else
    (getR 7 h l0 0).bind fun v2 =>
    (aldR 3 h v2 l1).bind fun v3 =>
    (getI 4 h v3 1).bind fun v4 =>
    if v4 = 0 then
      x_X7_lose_26 F h l0 l1 0
    else
      x_X7_lose_26 F h l0 l1 1
theorem o_X7_lose {F : Nat} {h : pH} {l0 : Nat} {l1 : Int32} {res : (Int32 × pH)} (hx : x_X7_lose F h l0 l1 = some res) : chk 7 h l0 = some () := by
  unfold x_X7_lose at hx
  obtain ⟨_, e, _⟩ := ob hx
  exact e
theorem mc_X7_lose (l : Launch) (G : pG) (F n : Nat) {h : pH} {l0 : Nat} {l1 : Int32} {res : (Int32 × pH)} (hx : x_X7_lose F h l0 l1 = some res) : MC l yX7_lose cX7_lose 3 (some (FieldType.int)) (rmD 2 0 0) G [.ref l0, .int l1] n h (some (.int res.1)) n res.2 := by
  unfold x_X7_lose at hx
  obtain ⟨_, _, hx⟩ := ob hx
  refine jj_entry RX7 rfl (by decide) (Nat.le_of_ble_eq_true rfl) (fun X _ _ C => ?_)
  show J X G (0, 0, some (.int res.1), n, res.2) (0, 0, n) h 0 [(0, .ref l0), (1, .int l1)] []
  refine jj_iload_n C 1 1 dX7_lose_0 rfl rfl ?_
  obtain ⟨v1, ev1, hx⟩ := ob hx
  refine jj_callS C [.int l1] lk_X7_86 (mc_X7_isSheet X.2.1 G F n ev1) rfl rfl (Nat.le_of_ble_eq_true rfl) ⟨Nat.le_of_ble_eq_true rfl, Nat.le_of_ble_eq_true rfl⟩ ⟨Nat.zero_le _, Nat.zero_le _⟩ rfl dX7_lose_1 rfl rfl ?_
  refine jj_if_ne (tgt := 9) C dX7_lose_4 (by decide) (fun q4 => ?_) (fun q4 => ?_)
  · rw [if_neg q4] at hx
    refine jj_aload_n C 0 0 dX7_lose_9 rfl rfl ?_
    obtain ⟨v2, ev2, hx⟩ := ob hx
    refine jj_getR C fd_X7_13 dX7_lose_10 ev2 ?_
    refine jj_iload_n C 1 1 dX7_lose_13 rfl rfl ?_
    obtain ⟨v3, ev3, hx⟩ := ob hx
    refine jj_aald C 3 rfl dX7_lose_14 ev3 ?_
    obtain ⟨v4, ev4, hx⟩ := ob hx
    refine jj_getI C fd_X7_206 dX7_lose_15 ev4 ?_
    refine jj_if_eq (tgt := 25) C dX7_lose_18 (by decide) (fun q18 => ?_) (fun q18 => ?_)
    · rw [if_pos q18] at hx
      refine jj_iconst (v := 0) C dX7_lose_25 (by decide) ?_
      exact t_X7_lose_26 C F hx
    · rw [if_neg q18] at hx
      refine jj_iconst (v := 1) C dX7_lose_21 (by decide) ?_
      refine jj_goto (tgt := 26) C dX7_lose_22 (by decide) ?_
      exact t_X7_lose_26 C F hx
  · rw [if_pos q4] at hx
    refine jj_iconst (v := (-1)) C dX7_lose_7 (by decide) ?_
    obtain rfl := Option.some.inj hx
    exact jj_iret C dX7_lose_8 rfl
def s_X7_standIn_5 (F : Nat)  (h : pH) (l0 : Nat) (l1 : Nat) (l2 : Int32) (k5 : Int32 → Int32 → Option Int32) (l3 : Int32) (l4 : Int32) : Option Int32 :=
  if l2 < l4 then
    some l3
  else
    (getR 7 h l0 2).bind fun v1 =>
    (getI 7 h l0 3).bind fun v2 =>
    (x_X7_heardBy F h v1 v2 l1 l4).bind fun v3 =>
    k5 (l3 ||| v3) (l4 + 1)
def x_X7_standIn_5 (F : Nat)  (h : pH) (l0 : Nat) (l1 : Nat) (l2 : Int32) : Nat → Int32 → Int32 → Option Int32
  | 0, _, _ => none
  | m + 1, l3, l4 => s_X7_standIn_5 F h l0 l1 l2 (x_X7_standIn_5 F h l0 l1 l2 m) l3 l4
theorem ts_X7_standIn_5 {X : pX} {G : pG} {n : Nat} {res : Int32} (C : Cx X G RX7 cX7_standIn 5 (rmD 4 0 0) n (some (FieldType.int))) (F : Nat) {h : pH} {l0 : Nat} {l1 : Nat} {l2 : Int32} {k5 : Int32 → Int32 → Option Int32} (hk5 : ∀ (l3 : Int32) (l4 : Int32), k5 l3 l4 = some res → J X G (0, 0, some (.int res), n, h) (0, 0, n) h 5 [(0, .ref l0), (1, .ref l1), (2, .int l2), (3, .int l3), (4, .int l4)] []) {l3 : Int32} {l4 : Int32} (hx : s_X7_standIn_5 F h l0 l1 l2 k5 l3 l4 = some res) : J X G (0, 0, some (.int res), n, h) (0, 0, n) h 5 [(0, .ref l0), (1, .ref l1), (2, .int l2), (3, .int l3), (4, .int l4)] [] := by
  unfold s_X7_standIn_5 at hx
  refine jj_iload C 4 4 dX7_standIn_5 rfl ?_
  refine jj_iload_n C 2 2 dX7_standIn_7 rfl rfl ?_
  refine jj_icmp_gt (tgt := 34) C dX7_standIn_8 (by decide) (fun q8 => ?_) (fun q8 => ?_)
  · rw [if_pos q8] at hx
    refine jj_iload_n C 3 3 dX7_standIn_34 rfl rfl ?_
    obtain rfl := Option.some.inj hx
    exact jj_iret C dX7_standIn_35 rfl
  · rw [if_neg q8] at hx
    refine jj_iload_n C 3 3 dX7_standIn_11 rfl rfl ?_
    refine jj_aload_n C 0 0 dX7_standIn_12 rfl rfl ?_
    obtain ⟨v1, ev1, hx⟩ := ob hx
    refine jj_getR C fd_X7_28 dX7_standIn_13 ev1 ?_
    refine jj_aload_n C 0 0 dX7_standIn_16 rfl rfl ?_
    obtain ⟨v2, ev2, hx⟩ := ob hx
    refine jj_getI C fd_X7_109 dX7_standIn_17 ev2 ?_
    refine jj_aload_n C 1 1 dX7_standIn_20 rfl rfl ?_
    refine jj_iload C 4 4 dX7_standIn_21 rfl ?_
    obtain ⟨v3, ev3, hx⟩ := ob hx
    refine jj_callS C [.ref v1, .int v2, .ref l1, .int l4] lk_X7_135 (mc_X7_heardBy X.2.1 G F n ev3) rfl rfl (Nat.le_of_ble_eq_true rfl) ⟨Nat.le_of_ble_eq_true rfl, Nat.le_of_ble_eq_true rfl⟩ ⟨Nat.zero_le _, Nat.zero_le _⟩ rfl dX7_standIn_23 rfl rfl ?_
    refine jj_ior C dX7_standIn_26 ?_
    refine jj_istore_n C 3 dX7_standIn_27 rfl rfl (by decide) ?_
    refine jj_iinc (v := l4 + 1) C 4 4 dX7_standIn_28 rfl rfl rfl (by decide) ?_
    refine jj_goto (tgt := 5) C dX7_standIn_31 (by decide) ?_
    refine jj_sub [2, 3, 4, 1, 0] rfl ?_
    exact hk5 _ _ hx
theorem t_X7_standIn_5 {X : pX} {G : pG} {n : Nat} {res : Int32} (C : Cx X G RX7 cX7_standIn 5 (rmD 4 0 0) n (some (FieldType.int))) (F : Nat) {h : pH} {l0 : Nat} {l1 : Nat} {l2 : Int32} : ∀ (m : Nat) (l3 : Int32) (l4 : Int32), x_X7_standIn_5 F h l0 l1 l2 m l3 l4 = some res → J X G (0, 0, some (.int res), n, h) (0, 0, n) h 5 [(0, .ref l0), (1, .ref l1), (2, .int l2), (3, .int l3), (4, .int l4)] [] := by
  intro m
  induction m with
  | zero => intro l3 l4 hx; exact nomatch (show (none : Option Int32) = some res from hx)
  | succ m ih => intro l3 l4 hx; exact ts_X7_standIn_5 C F  ih hx
def x_X7_standIn (F : Nat) (h : pH) (l0 : Nat) (l1 : Nat) (l2 : Int32) : Option Int32 :=
  (chk 7 h l0).bind fun _ =>
  x_X7_standIn_5 F h l0 l1 l2 F 0 1
theorem o_X7_standIn {F : Nat} {h : pH} {l0 : Nat} {l1 : Nat} {l2 : Int32} {res : Int32} (hx : x_X7_standIn F h l0 l1 l2 = some res) : chk 7 h l0 = some () := by
  unfold x_X7_standIn at hx
  obtain ⟨_, e, _⟩ := ob hx
  exact e
theorem mc_X7_standIn (l : Launch) (G : pG) (F n : Nat) {h : pH} {l0 : Nat} {l1 : Nat} {l2 : Int32} {res : Int32} (hx : x_X7_standIn F h l0 l1 l2 = some res) : MC l yX7_standIn cX7_standIn 5 (some (FieldType.int)) (rmD 4 0 0) G [.ref l0, .ref l1, .int l2] n h (some (.int res)) n h := by
  unfold x_X7_standIn at hx
  obtain ⟨_, _, hx⟩ := ob hx
  refine jj_entry RX7 rfl (by decide) (Nat.le_of_ble_eq_true rfl) (fun X _ _ C => ?_)
  show J X G (0, 0, some (.int res), n, h) (0, 0, n) h 0 [(0, .ref l0), (1, .ref l1), (2, .int l2)] []
  refine jj_iconst (v := 0) C dX7_standIn_0 (by decide) ?_
  refine jj_istore_n C 3 dX7_standIn_1 rfl rfl (by decide) ?_
  refine jj_iconst (v := 1) C dX7_standIn_2 (by decide) ?_
  refine jj_istore C 4 dX7_standIn_3 rfl (by decide) ?_
  refine jj_sub [2, 3, 4, 1, 0] rfl ?_
  exact t_X7_standIn_5 C F F _ _ hx
def x_X7_many (F : Nat) (h : pH) (l0 : Nat) (l1 : Int32) : Option Int32 :=
  (chk 7 h l0).bind fun _ =>
  if l1 = 0 then
    (getI 7 h l0 3).bind fun v1 =>
    some v1
  else
    if l1 = 1 then
      (getI 7 h l0 5).bind fun v2 =>
      some v2
    else
      if l1 = 2 then
        (getR 7 h l0 4).bind fun v3 =>
        (getI 7 h l0 5).bind fun v4 =>
        (x_X7_standIn F h l0 v3 v4).bind fun v5 =>
        some v5
      else
        if l1 = 3 then
          (getI 7 h l0 8).bind fun v6 =>
          some v6
        else
          some (-2 : Int32)
theorem o_X7_many {F : Nat} {h : pH} {l0 : Nat} {l1 : Int32} {res : Int32} (hx : x_X7_many F h l0 l1 = some res) : chk 7 h l0 = some () := by
  unfold x_X7_many at hx
  obtain ⟨_, e, _⟩ := ob hx
  exact e
theorem mc_X7_many (l : Launch) (G : pG) (F n : Nat) {h : pH} {l0 : Nat} {l1 : Int32} {res : Int32} (hx : x_X7_many F h l0 l1 = some res) : MC l yX7_many cX7_many 2 (some (FieldType.int)) (rmD 5 0 0) G [.ref l0, .int l1] n h (some (.int res)) n h := by
  unfold x_X7_many at hx
  obtain ⟨_, _, hx⟩ := ob hx
  refine jj_entry RX7 rfl (by decide) (Nat.le_of_ble_eq_true rfl) (fun X _ _ C => ?_)
  show J X G (0, 0, some (.int res), n, h) (0, 0, n) h 0 [(0, .ref l0), (1, .int l1)] []
  refine jj_iload_n C 1 1 dX7_many_0 rfl rfl ?_
  by_cases q1_0 : l1 = 0
  · rw [if_pos q1_0] at hx
    refine jj_table (tgt := 32) C dX7_many_1 0 q1_0 (by decide) (by decide) rfl (by decide) ?_
    refine jj_aload_n C 0 0 dX7_many_32 rfl rfl ?_
    obtain ⟨v1, ev1, hx⟩ := ob hx
    refine jj_getI C fd_X7_109 dX7_many_33 ev1 ?_
    obtain rfl := Option.some.inj hx
    exact jj_iret C dX7_many_36 rfl
  · rw [if_neg q1_0] at hx
    by_cases q1_1 : l1 = 1
    · rw [if_pos q1_1] at hx
      refine jj_table (tgt := 37) C dX7_many_1 1 q1_1 (by decide) (by decide) rfl (by decide) ?_
      refine jj_aload_n C 0 0 dX7_many_37 rfl rfl ?_
      obtain ⟨v2, ev2, hx⟩ := ob hx
      refine jj_getI C fd_X7_125 dX7_many_38 ev2 ?_
      obtain rfl := Option.some.inj hx
      exact jj_iret C dX7_many_41 rfl
    · rw [if_neg q1_1] at hx
      by_cases q1_2 : l1 = 2
      · rw [if_pos q1_2] at hx
        refine jj_table (tgt := 42) C dX7_many_1 2 q1_2 (by decide) (by decide) rfl (by decide) ?_
        refine jj_aload_n C 0 0 dX7_many_42 rfl rfl ?_
        refine jj_aload_n C 0 0 dX7_many_43 rfl rfl ?_
        obtain ⟨v3, ev3, hx⟩ := ob hx
        refine jj_getR C fd_X7_32 dX7_many_44 ev3 ?_
        refine jj_aload_n C 0 0 dX7_many_47 rfl rfl ?_
        obtain ⟨v4, ev4, hx⟩ := ob hx
        refine jj_getI C fd_X7_125 dX7_many_48 ev4 ?_
        obtain ⟨v5, ev5, hx⟩ := ob hx
        refine jj_callV C [.ref v3, .int v4] lk_X7_246 (mc_X7_standIn X.2.1 G F n ev5) (o_X7_standIn ev5) rfl rfl (Nat.le_of_ble_eq_true rfl) ⟨Nat.le_of_ble_eq_true rfl, Nat.le_of_ble_eq_true rfl⟩ ⟨Nat.zero_le _, Nat.zero_le _⟩ rfl dX7_many_51 rfl rfl ?_
        obtain rfl := Option.some.inj hx
        exact jj_iret C dX7_many_54 rfl
      · rw [if_neg q1_2] at hx
        by_cases q1_3 : l1 = 3
        · rw [if_pos q1_3] at hx
          refine jj_table (tgt := 55) C dX7_many_1 3 q1_3 (by decide) (by decide) rfl (by decide) ?_
          refine jj_aload_n C 0 0 dX7_many_55 rfl rfl ?_
          obtain ⟨v6, ev6, hx⟩ := ob hx
          refine jj_getI C fd_X7_182 dX7_many_56 ev6 ?_
          obtain rfl := Option.some.inj hx
          exact jj_iret C dX7_many_59 rfl
        · rw [if_neg q1_3] at hx
          refine jj_tableOut (tgt := 60) C dX7_many_1 (tb_out4 q1_0 q1_1 q1_2 q1_3) (by decide) ?_
          refine jj_bipush (v := (-2)) C dX7_many_60 (by decide) ?_
          obtain rfl := Option.some.inj hx
          exact jj_iret C dX7_many_62 rfl
def x_X7_odds_91 (F : Nat) (k58 : Int64 → Int64 → Int32 → Option (Int64 × pH)) (h : pH) (l1 : Int32) (l2 : Int32) (l3 : Int64) (l5 : Int64) (l7 : Int32) : Option (Int64 × pH) :=
  k58 l3 l5 (l7 + 1)
theorem t_X7_odds_91 {X : pX} {G : pG} {n : Nat} {res : (Int64 × pH)} (C : Cx X G RX7 cX7_odds 8 (rmD 6 0 0) n (some (FieldType.long))) (F : Nat) {h : pH} {l1 : Int32} {l2 : Int32} {l3 : Int64} {l5 : Int64} {l7 : Int32} {k58 : Int64 → Int64 → Int32 → Option (Int64 × pH)} (hk58 : ∀ (l3 : Int64) (l5 : Int64) (l7 : Int32), k58 l3 l5 l7 = some res → J X G (0, 0, some (.long res.1), n, res.2) (0, 0, n) h 58 [(1, .int l1), (2, .int l2), (3, .long l3), (5, .long l5), (7, .int l7)] []) (hx : x_X7_odds_91 F k58 h l1 l2 l3 l5 l7 = some res) : J X G (0, 0, some (.long res.1), n, res.2) (0, 0, n) h 91 [(1, .int l1), (2, .int l2), (3, .long l3), (5, .long l5), (7, .int l7)] [] := by
  unfold x_X7_odds_91 at hx
  refine jj_iinc (v := l7 + 1) C 7 4 dX7_odds_91 rfl rfl rfl (by decide) ?_
  refine jj_goto (tgt := 58) C dX7_odds_94 (by decide) ?_
  refine jj_sub [1, 2, 3, 4, 0] rfl ?_
  exact hk58 _ _ _ hx
def s_X7_odds_58 (F : Nat)  (h : pH) (l1 : Int32) (l2 : Int32) (k58 : Int64 → Int64 → Int32 → Option (Int64 × pH)) (l3 : Int64) (l5 : Int64) (l7 : Int32) : Option (Int64 × pH) :=
  if l1 ≤ l7 then
    if l2 = 0 then
      some (l3, h)
    else
      some (l5, h)
  else
    if (lg_cmp (l3 - l3 / (3 : Int64) * (3 : Int64)) 0) = 0 then
      x_X7_odds_91 F k58 h l1 l2 (l3 / (3 : Int64)) l5 l7
    else
      x_X7_odds_91 F k58 h l1 l2 l3 (l5 * (3 : Int64)) l7
def x_X7_odds_58 (F : Nat)  (h : pH) (l1 : Int32) (l2 : Int32) : Nat → Int64 → Int64 → Int32 → Option (Int64 × pH)
  | 0, _, _, _ => none
  | m + 1, l3, l5, l7 => s_X7_odds_58 F h l1 l2 (x_X7_odds_58 F h l1 l2 m) l3 l5 l7
theorem ts_X7_odds_58 {X : pX} {G : pG} {n : Nat} {res : (Int64 × pH)} (C : Cx X G RX7 cX7_odds 8 (rmD 6 0 0) n (some (FieldType.long))) (F : Nat) {h : pH} {l1 : Int32} {l2 : Int32} {k58 : Int64 → Int64 → Int32 → Option (Int64 × pH)} (hk58 : ∀ (l3 : Int64) (l5 : Int64) (l7 : Int32), k58 l3 l5 l7 = some res → J X G (0, 0, some (.long res.1), n, res.2) (0, 0, n) h 58 [(1, .int l1), (2, .int l2), (3, .long l3), (5, .long l5), (7, .int l7)] []) {l3 : Int64} {l5 : Int64} {l7 : Int32} (hx : s_X7_odds_58 F h l1 l2 k58 l3 l5 l7 = some res) : J X G (0, 0, some (.long res.1), n, res.2) (0, 0, n) h 58 [(1, .int l1), (2, .int l2), (3, .long l3), (5, .long l5), (7, .int l7)] [] := by
  unfold s_X7_odds_58 at hx
  refine jj_iload C 7 4 dX7_odds_58 rfl ?_
  refine jj_iload_n C 1 0 dX7_odds_60 rfl rfl ?_
  refine jj_icmp_ge (tgt := 97) C dX7_odds_61 (by decide) (fun q61 => ?_) (fun q61 => ?_)
  · rw [if_pos q61] at hx
    refine jj_iload_n C 2 1 dX7_odds_97 rfl rfl ?_
    refine jj_if_ne (tgt := 105) C dX7_odds_98 (by decide) (fun q98 => ?_) (fun q98 => ?_)
    · rw [if_neg q98] at hx
      refine jj_lload C 5 3 dX7_odds_105 rfl ?_
      obtain rfl := Option.some.inj hx
      exact jj_lret C dX7_odds_107 rfl
    · rw [if_pos q98] at hx
      refine jj_lload_n C 3 2 dX7_odds_101 rfl rfl ?_
      refine jj_goto (tgt := 107) C dX7_odds_102 (by decide) ?_
      obtain rfl := Option.some.inj hx
      exact jj_lret C dX7_odds_107 rfl
  · rw [if_neg q61] at hx
    refine jj_lload_n C 3 2 dX7_odds_64 rfl rfl ?_
    refine jj_ldc2 C dX7_odds_65 ct_X7_200 ?_
    refine jj_lrem C dX7_odds_68 (by decide) ?_
    refine jj_lconst (v := 0) C dX7_odds_69 (by decide) ?_
    refine jj_lcmp C dX7_odds_70 ?_
    refine jj_if_ne (tgt := 83) C dX7_odds_71 (by decide) (fun q71 => ?_) (fun q71 => ?_)
    · rw [if_neg q71] at hx
      refine jj_lload C 5 3 dX7_odds_83 rfl ?_
      refine jj_ldc2 C dX7_odds_85 ct_X7_200 ?_
      refine jj_lmul C dX7_odds_88 ?_
      refine jj_lstore C 5 dX7_odds_89 rfl (by decide) ?_
      refine jj_sub [1, 2, 3, 0, 4] rfl ?_
      exact t_X7_odds_91 C F hk58 hx
    · rw [if_pos q71] at hx
      refine jj_lload_n C 3 2 dX7_odds_74 rfl rfl ?_
      refine jj_ldc2 C dX7_odds_75 ct_X7_200 ?_
      refine jj_ldiv C dX7_odds_78 (by decide) ?_
      refine jj_lstore_n C 3 dX7_odds_79 rfl rfl (by decide) ?_
      refine jj_goto (tgt := 91) C dX7_odds_80 (by decide) ?_
      refine jj_sub [1, 2, 0, 3, 4] rfl ?_
      exact t_X7_odds_91 C F hk58 hx
theorem t_X7_odds_58 {X : pX} {G : pG} {n : Nat} {res : (Int64 × pH)} (C : Cx X G RX7 cX7_odds 8 (rmD 6 0 0) n (some (FieldType.long))) (F : Nat) {h : pH} {l1 : Int32} {l2 : Int32} : ∀ (m : Nat) (l3 : Int64) (l5 : Int64) (l7 : Int32), x_X7_odds_58 F h l1 l2 m l3 l5 l7 = some res → J X G (0, 0, some (.long res.1), n, res.2) (0, 0, n) h 58 [(1, .int l1), (2, .int l2), (3, .long l3), (5, .long l5), (7, .int l7)] [] := by
  intro m
  induction m with
  | zero => intro l3 l5 l7 hx; exact nomatch (show (none : Option (Int64 × pH)) = some res from hx)
  | succ m ih => intro l3 l5 l7 hx; exact ts_X7_odds_58 C F  ih hx
def x_X7_odds (F : Nat) (h : pH) (l0 : Nat) (l1 : Int32) (l2 : Int32) : Option (Int64 × pH) :=
  (chk 7 h l0).bind fun _ =>
  (x_X7_isCounted F h l1).bind fun v1 =>
  if v1 = 0 then
    some ((-9223372036854775808 : Int64), h)
  else
    (x_X7_isBelow F h l2 2).bind fun v2 =>
    if v2 = 0 then
      some ((-9223372036854775808 : Int64), h)
    else
      (getI 7 h l0 3).bind fun v3 =>
      if v3 = 0 then
        some ((-9223372036854775808 : Int64), h)
      else
        (x_X7_renewNet F h l0).bind fun v4 =>
        (getR 7 v4 l0 13).bind fun v5 =>
        (getR 7 v4 l0 12).bind fun v6 =>
        (x_X0_countTo F v4 v5 v6 l1).bind fun v7 =>
        (getR 7 v7 l0 13).bind fun v8 =>
        (getR 0 v7 v8 0).bind fun v9 =>
        (aldL v7 v9 l1).bind fun v10 =>
        x_X7_odds_58 F v7 l1 l2 F v10 1 0
theorem o_X7_odds {F : Nat} {h : pH} {l0 : Nat} {l1 : Int32} {l2 : Int32} {res : (Int64 × pH)} (hx : x_X7_odds F h l0 l1 l2 = some res) : chk 7 h l0 = some () := by
  unfold x_X7_odds at hx
  obtain ⟨_, e, _⟩ := ob hx
  exact e
theorem mc_X7_odds (l : Launch) (G : pG) (F n : Nat) {h : pH} {l0 : Nat} {l1 : Int32} {l2 : Int32} {res : (Int64 × pH)} (hx : x_X7_odds F h l0 l1 l2 = some res) : MC l yX7_odds cX7_odds 8 (some (FieldType.long)) (rmD 6 0 0) G [.ref l0, .int l1, .int l2] n h (some (.long res.1)) n res.2 := by
  unfold x_X7_odds at hx
  obtain ⟨_, _, hx⟩ := ob hx
  refine jj_entry RX7 rfl (by decide) (Nat.le_of_ble_eq_true rfl) (fun X _ _ C => ?_)
  show J X G (0, 0, some (.long res.1), n, res.2) (0, 0, n) h 0 [(0, .ref l0), (1, .int l1), (2, .int l2)] []
  refine jj_iload_n C 1 1 dX7_odds_0 rfl rfl ?_
  obtain ⟨v1, ev1, hx⟩ := ob hx
  refine jj_callS C [.int l1] lk_X7_159 (mc_X7_isCounted X.2.1 G F n ev1) rfl rfl (Nat.le_of_ble_eq_true rfl) ⟨Nat.le_of_ble_eq_true rfl, Nat.le_of_ble_eq_true rfl⟩ ⟨Nat.zero_le _, Nat.zero_le _⟩ rfl dX7_odds_1 rfl rfl ?_
  refine jj_if_eq (tgt := 22) C dX7_odds_4 (by decide) (fun q4 => ?_) (fun q4 => ?_)
  · rw [if_pos q4] at hx
    refine jj_ldc2 C dX7_odds_22 ct_X7_162 ?_
    obtain rfl := Option.some.inj hx
    exact jj_lret C dX7_odds_25 rfl
  · rw [if_neg q4] at hx
    refine jj_iload_n C 2 2 dX7_odds_7 rfl rfl ?_
    refine jj_iconst (v := 2) C dX7_odds_8 (by decide) ?_
    obtain ⟨v2, ev2, hx⟩ := ob hx
    refine jj_callS C [.int l2, .int 2] lk_X7_90 (mc_X7_isBelow X.2.1 G F n ev2) rfl rfl (Nat.le_of_ble_eq_true rfl) ⟨Nat.le_of_ble_eq_true rfl, Nat.le_of_ble_eq_true rfl⟩ ⟨Nat.zero_le _, Nat.zero_le _⟩ rfl dX7_odds_9 rfl rfl ?_
    refine jj_if_eq (tgt := 22) C dX7_odds_12 (by decide) (fun q12 => ?_) (fun q12 => ?_)
    · rw [if_pos q12] at hx
      refine jj_ldc2 C dX7_odds_22 ct_X7_162 ?_
      obtain rfl := Option.some.inj hx
      exact jj_lret C dX7_odds_25 rfl
    · rw [if_neg q12] at hx
      refine jj_aload_n C 0 0 dX7_odds_15 rfl rfl ?_
      obtain ⟨v3, ev3, hx⟩ := ob hx
      refine jj_getI C fd_X7_109 dX7_odds_16 ev3 ?_
      refine jj_if_ne (tgt := 26) C dX7_odds_19 (by decide) (fun q19 => ?_) (fun q19 => ?_)
      · rw [if_neg q19] at hx
        refine jj_aload_n C 0 0 dX7_odds_26 rfl rfl ?_
        obtain ⟨v4, ev4, hx⟩ := ob hx
        refine jj_callV C [] lk_X7_154 (mc_X7_renewNet X.2.1 G F n ev4) (o_X7_renewNet ev4) rfl rfl (Nat.le_of_ble_eq_true rfl) ⟨Nat.le_of_ble_eq_true rfl, Nat.le_of_ble_eq_true rfl⟩ ⟨Nat.zero_le _, Nat.zero_le _⟩ rfl dX7_odds_27 rfl rfl ?_
        refine jj_aload_n C 0 0 dX7_odds_30 rfl rfl ?_
        obtain ⟨v5, ev5, hx⟩ := ob hx
        refine jj_getR C fd_X7_72 dX7_odds_31 ev5 ?_
        refine jj_aload_n C 0 0 dX7_odds_34 rfl rfl ?_
        obtain ⟨v6, ev6, hx⟩ := ob hx
        refine jj_getR C fd_X7_65 dX7_odds_35 ev6 ?_
        refine jj_iload_n C 1 1 dX7_odds_38 rfl rfl ?_
        obtain ⟨v7, ev7, hx⟩ := ob hx
        refine jj_callV C [.ref v6, .int l1] lk_X7_164 (mc_X0_countTo X.2.1 G F n ev7) (o_X0_countTo ev7) rfl rfl (Nat.le_of_ble_eq_true rfl) ⟨Nat.le_of_ble_eq_true rfl, Nat.le_of_ble_eq_true rfl⟩ ⟨Nat.zero_le _, Nat.zero_le _⟩ rfl dX7_odds_39 rfl rfl ?_
        refine jj_aload_n C 0 0 dX7_odds_42 rfl rfl ?_
        obtain ⟨v8, ev8, hx⟩ := ob hx
        refine jj_getR C fd_X7_72 dX7_odds_43 ev8 ?_
        obtain ⟨v9, ev9, hx⟩ := ob hx
        refine jj_getR C fd_X7_168 dX7_odds_46 ev9 ?_
        refine jj_iload_n C 1 1 dX7_odds_49 rfl rfl ?_
        obtain ⟨v10, ev10, hx⟩ := ob hx
        refine jj_lald C dX7_odds_50 ev10 ?_
        refine jj_lstore_n C 3 dX7_odds_51 rfl rfl (by decide) ?_
        refine jj_lconst (v := 1) C dX7_odds_52 (by decide) ?_
        refine jj_lstore C 5 dX7_odds_53 rfl (by decide) ?_
        refine jj_iconst (v := 0) C dX7_odds_55 (by decide) ?_
        refine jj_istore C 7 dX7_odds_56 rfl (by decide) ?_
        refine jj_sub [4, 5, 2, 1, 0] rfl ?_
        exact t_X7_odds_58 C F F _ _ _ hx
      · rw [if_pos q19] at hx
        refine jj_ldc2 C dX7_odds_22 ct_X7_162 ?_
        obtain rfl := Option.some.inj hx
        exact jj_lret C dX7_odds_25 rfl
def x_X7_ofWord (F : Nat) (h : pH) (l0 : Nat) (l1 : Int32) (l2 : Int32) : Option Int32 :=
  (chk 7 h l0).bind fun _ =>
  (x_X7_isWord F h l0 l1).bind fun v1 =>
  if v1 = 0 then
    some (-1 : Int32)
  else
    (getR 7 h l0 2).bind fun v2 =>
    (aldR 4 h v2 l1).bind fun v3 =>
    if l2 = 0 then
      (getI 6 h v3 2).bind fun v12 =>
      some v12
    else
      if l2 = 1 then
        (getI 6 h v3 1).bind fun v11 =>
        some v11
      else
        if l2 = 2 then
          (x_X6_unlikeForms F h v3).bind fun v10 =>
          some v10
        else
          if l2 = 3 then
            (getR 7 h l0 4).bind fun v7 =>
            (getI 7 h l0 5).bind fun v8 =>
            (x_X6_timesIn F h v3 v7 v8).bind fun v9 =>
            some v9
          else
            if l2 < 10 then
              some (-2 : Int32)
            else
              if l2 < 14 then
                (getI 6 h v3 1).bind fun v4 =>
                if v4 ≤ (l2 - (10 : Int32)) then
                  some (-9 : Int32)
                else
                  (getR 6 h v3 0).bind fun v5 =>
                  (aldI 0 h v5 (l2 - (10 : Int32))).bind fun v6 =>
                  some v6
              else
                some (-2 : Int32)
theorem o_X7_ofWord {F : Nat} {h : pH} {l0 : Nat} {l1 : Int32} {l2 : Int32} {res : Int32} (hx : x_X7_ofWord F h l0 l1 l2 = some res) : chk 7 h l0 = some () := by
  unfold x_X7_ofWord at hx
  obtain ⟨_, e, _⟩ := ob hx
  exact e
theorem mc_X7_ofWord (l : Launch) (G : pG) (F n : Nat) {h : pH} {l0 : Nat} {l1 : Int32} {l2 : Int32} {res : Int32} (hx : x_X7_ofWord F h l0 l1 l2 = some res) : MC l yX7_ofWord cX7_ofWord 5 (some (FieldType.int)) (rmD 4 0 0) G [.ref l0, .int l1, .int l2] n h (some (.int res)) n h := by
  unfold x_X7_ofWord at hx
  obtain ⟨_, _, hx⟩ := ob hx
  refine jj_entry RX7 rfl (by decide) (Nat.le_of_ble_eq_true rfl) (fun X _ _ C => ?_)
  show J X G (0, 0, some (.int res), n, h) (0, 0, n) h 0 [(0, .ref l0), (1, .int l1), (2, .int l2)] []
  refine jj_aload_n C 0 0 dX7_ofWord_0 rfl rfl ?_
  refine jj_iload_n C 1 1 dX7_ofWord_1 rfl rfl ?_
  obtain ⟨v1, ev1, hx⟩ := ob hx
  refine jj_callV C [.int l1] lk_X7_112 (mc_X7_isWord X.2.1 G F n ev1) (o_X7_isWord ev1) rfl rfl (Nat.le_of_ble_eq_true rfl) ⟨Nat.le_of_ble_eq_true rfl, Nat.le_of_ble_eq_true rfl⟩ ⟨Nat.zero_le _, Nat.zero_le _⟩ rfl dX7_ofWord_2 rfl rfl ?_
  refine jj_if_ne (tgt := 10) C dX7_ofWord_5 (by decide) (fun q5 => ?_) (fun q5 => ?_)
  · rw [if_neg q5] at hx
    refine jj_aload_n C 0 0 dX7_ofWord_10 rfl rfl ?_
    obtain ⟨v2, ev2, hx⟩ := ob hx
    refine jj_getR C fd_X7_28 dX7_ofWord_11 ev2 ?_
    refine jj_iload_n C 1 1 dX7_ofWord_14 rfl rfl ?_
    obtain ⟨v3, ev3, hx⟩ := ob hx
    refine jj_aald C 4 rfl dX7_ofWord_15 ev3 ?_
    refine jj_astore_n C 3 dX7_ofWord_16 rfl rfl (by decide) ?_
    refine jj_iload_n C 2 3 dX7_ofWord_17 rfl rfl ?_
    refine jj_if_ne (tgt := 26) C dX7_ofWord_18 (by decide) (fun q18 => ?_) (fun q18 => ?_)
    · rw [if_neg q18] at hx
      refine jj_iload_n C 2 3 dX7_ofWord_26 rfl rfl ?_
      refine jj_iconst (v := 1) C dX7_ofWord_27 (by decide) ?_
      refine jj_icmp_ne (tgt := 36) C dX7_ofWord_28 (by decide) (fun q28 => ?_) (fun q28 => ?_)
      · rw [if_neg q28] at hx
        refine jj_iload_n C 2 3 dX7_ofWord_36 rfl rfl ?_
        refine jj_iconst (v := 2) C dX7_ofWord_37 (by decide) ?_
        refine jj_icmp_ne (tgt := 46) C dX7_ofWord_38 (by decide) (fun q38 => ?_) (fun q38 => ?_)
        · rw [if_neg q38] at hx
          refine jj_iload_n C 2 3 dX7_ofWord_46 rfl rfl ?_
          refine jj_iconst (v := 3) C dX7_ofWord_47 (by decide) ?_
          refine jj_icmp_ne (tgt := 64) C dX7_ofWord_48 (by decide) (fun q48 => ?_) (fun q48 => ?_)
          · rw [if_neg q48] at hx
            refine jj_iload_n C 2 3 dX7_ofWord_64 rfl rfl ?_
            refine jj_bipush (v := 10) C dX7_ofWord_65 (by decide) ?_
            refine jj_icmp_lt (tgt := 76) C dX7_ofWord_67 (by decide) (fun q67 => ?_) (fun q67 => ?_)
            · rw [if_pos q67] at hx
              refine jj_bipush (v := (-2)) C dX7_ofWord_76 (by decide) ?_
              obtain rfl := Option.some.inj hx
              exact jj_iret C dX7_ofWord_78 rfl
            · rw [if_neg q67] at hx
              refine jj_iload_n C 2 3 dX7_ofWord_70 rfl rfl ?_
              refine jj_bipush (v := 14) C dX7_ofWord_71 (by decide) ?_
              refine jj_icmp_lt (tgt := 79) C dX7_ofWord_73 (by decide) (fun q73 => ?_) (fun q73 => ?_)
              · rw [if_pos q73] at hx
                refine jj_iload_n C 2 3 dX7_ofWord_79 rfl rfl ?_
                refine jj_bipush (v := 10) C dX7_ofWord_80 (by decide) ?_
                refine jj_isub C dX7_ofWord_82 ?_
                refine jj_istore C 4 dX7_ofWord_83 rfl (by decide) ?_
                refine jj_iload C 4 0 dX7_ofWord_85 rfl ?_
                refine jj_aload_n C 3 1 dX7_ofWord_87 rfl rfl ?_
                obtain ⟨v4, ev4, hx⟩ := ob hx
                refine jj_getI C fd_X7_118 dX7_ofWord_88 ev4 ?_
                refine jj_icmp_ge (tgt := 104) C dX7_ofWord_91 (by decide) (fun q91 => ?_) (fun q91 => ?_)
                · rw [if_pos q91] at hx
                  refine jj_bipush (v := (-9)) C dX7_ofWord_104 (by decide) ?_
                  obtain rfl := Option.some.inj hx
                  exact jj_iret C dX7_ofWord_106 rfl
                · rw [if_neg q91] at hx
                  refine jj_aload_n C 3 1 dX7_ofWord_94 rfl rfl ?_
                  obtain ⟨v5, ev5, hx⟩ := ob hx
                  refine jj_getR C fd_X7_132 dX7_ofWord_95 ev5 ?_
                  refine jj_iload C 4 0 dX7_ofWord_98 rfl ?_
                  obtain ⟨v6, ev6, hx⟩ := ob hx
                  refine jj_iald C dX7_ofWord_100 ev6 ?_
                  refine jj_goto (tgt := 106) C dX7_ofWord_101 (by decide) ?_
                  obtain rfl := Option.some.inj hx
                  exact jj_iret C dX7_ofWord_106 rfl
              · rw [if_neg q73] at hx
                refine jj_bipush (v := (-2)) C dX7_ofWord_76 (by decide) ?_
                obtain rfl := Option.some.inj hx
                exact jj_iret C dX7_ofWord_78 rfl
          · rw [if_pos q48] at hx
            refine jj_aload_n C 3 0 dX7_ofWord_51 rfl rfl ?_
            refine jj_aload_n C 0 1 dX7_ofWord_52 rfl rfl ?_
            obtain ⟨v7, ev7, hx⟩ := ob hx
            refine jj_getR C fd_X7_32 dX7_ofWord_53 ev7 ?_
            refine jj_aload_n C 0 1 dX7_ofWord_56 rfl rfl ?_
            obtain ⟨v8, ev8, hx⟩ := ob hx
            refine jj_getI C fd_X7_125 dX7_ofWord_57 ev8 ?_
            obtain ⟨v9, ev9, hx⟩ := ob hx
            refine jj_callV C [.ref v7, .int v8] lk_X7_128 (mc_X6_timesIn X.2.1 G F n ev9) (o_X6_timesIn ev9) rfl rfl (Nat.le_of_ble_eq_true rfl) ⟨Nat.le_of_ble_eq_true rfl, Nat.le_of_ble_eq_true rfl⟩ ⟨Nat.zero_le _, Nat.zero_le _⟩ rfl dX7_ofWord_60 rfl rfl ?_
            obtain rfl := Option.some.inj hx
            exact jj_iret C dX7_ofWord_63 rfl
        · rw [if_pos q38] at hx
          refine jj_aload_n C 3 0 dX7_ofWord_41 rfl rfl ?_
          obtain ⟨v10, ev10, hx⟩ := ob hx
          refine jj_callV C [] lk_X7_121 (mc_X6_unlikeForms X.2.1 G F n ev10) (o_X6_unlikeForms ev10) rfl rfl (Nat.le_of_ble_eq_true rfl) ⟨Nat.le_of_ble_eq_true rfl, Nat.le_of_ble_eq_true rfl⟩ ⟨Nat.zero_le _, Nat.zero_le _⟩ rfl dX7_ofWord_42 rfl rfl ?_
          obtain rfl := Option.some.inj hx
          exact jj_iret C dX7_ofWord_45 rfl
      · rw [if_pos q28] at hx
        refine jj_aload_n C 3 0 dX7_ofWord_31 rfl rfl ?_
        obtain ⟨v11, ev11, hx⟩ := ob hx
        refine jj_getI C fd_X7_118 dX7_ofWord_32 ev11 ?_
        obtain rfl := Option.some.inj hx
        exact jj_iret C dX7_ofWord_35 rfl
    · rw [if_pos q18] at hx
      refine jj_aload_n C 3 0 dX7_ofWord_21 rfl rfl ?_
      obtain ⟨v12, ev12, hx⟩ := ob hx
      refine jj_getI C fd_X7_115 dX7_ofWord_22 ev12 ?_
      obtain rfl := Option.some.inj hx
      exact jj_iret C dX7_ofWord_25 rfl
  · rw [if_pos q5] at hx
    refine jj_iconst (v := (-1)) C dX7_ofWord_8 (by decide) ?_
    obtain rfl := Option.some.inj hx
    exact jj_iret C dX7_ofWord_9 rfl
def x_X7_over (F : Nat) (h : pH) (l0 : Nat) (l1 : Int32) (l2 : Int32) : Option Int32 :=
  (chk 7 h l0).bind fun _ =>
  (x_X7_isWord F h l0 l1).bind fun v1 =>
  if v1 = 0 then
    some (-1 : Int32)
  else
    (x_X7_isWord F h l0 l2).bind fun v2 =>
    if v2 = 0 then
      some (-1 : Int32)
    else
      (getR 7 h l0 2).bind fun v3 =>
      (aldR 4 h v3 l1).bind fun v4 =>
      (getR 7 h l0 2).bind fun v5 =>
      (aldR 4 h v5 l2).bind fun v6 =>
      (x_X6_lettersOver F h v4 v6).bind fun v7 =>
      some v7
theorem o_X7_over {F : Nat} {h : pH} {l0 : Nat} {l1 : Int32} {l2 : Int32} {res : Int32} (hx : x_X7_over F h l0 l1 l2 = some res) : chk 7 h l0 = some () := by
  unfold x_X7_over at hx
  obtain ⟨_, e, _⟩ := ob hx
  exact e
theorem mc_X7_over (l : Launch) (G : pG) (F n : Nat) {h : pH} {l0 : Nat} {l1 : Int32} {l2 : Int32} {res : Int32} (hx : x_X7_over F h l0 l1 l2 = some res) : MC l yX7_over cX7_over 3 (some (FieldType.int)) (rmD 2 0 0) G [.ref l0, .int l1, .int l2] n h (some (.int res)) n h := by
  unfold x_X7_over at hx
  obtain ⟨_, _, hx⟩ := ob hx
  refine jj_entry RX7 rfl (by decide) (Nat.le_of_ble_eq_true rfl) (fun X _ _ C => ?_)
  show J X G (0, 0, some (.int res), n, h) (0, 0, n) h 0 [(0, .ref l0), (1, .int l1), (2, .int l2)] []
  refine jj_aload_n C 0 0 dX7_over_0 rfl rfl ?_
  refine jj_iload_n C 1 1 dX7_over_1 rfl rfl ?_
  obtain ⟨v1, ev1, hx⟩ := ob hx
  refine jj_callV C [.int l1] lk_X7_112 (mc_X7_isWord X.2.1 G F n ev1) (o_X7_isWord ev1) rfl rfl (Nat.le_of_ble_eq_true rfl) ⟨Nat.le_of_ble_eq_true rfl, Nat.le_of_ble_eq_true rfl⟩ ⟨Nat.zero_le _, Nat.zero_le _⟩ rfl dX7_over_2 rfl rfl ?_
  refine jj_if_eq (tgt := 16) C dX7_over_5 (by decide) (fun q5 => ?_) (fun q5 => ?_)
  · rw [if_pos q5] at hx
    refine jj_iconst (v := (-1)) C dX7_over_16 (by decide) ?_
    obtain rfl := Option.some.inj hx
    exact jj_iret C dX7_over_17 rfl
  · rw [if_neg q5] at hx
    refine jj_aload_n C 0 0 dX7_over_8 rfl rfl ?_
    refine jj_iload_n C 2 2 dX7_over_9 rfl rfl ?_
    obtain ⟨v2, ev2, hx⟩ := ob hx
    refine jj_callV C [.int l2] lk_X7_112 (mc_X7_isWord X.2.1 G F n ev2) (o_X7_isWord ev2) rfl rfl (Nat.le_of_ble_eq_true rfl) ⟨Nat.le_of_ble_eq_true rfl, Nat.le_of_ble_eq_true rfl⟩ ⟨Nat.zero_le _, Nat.zero_le _⟩ rfl dX7_over_10 rfl rfl ?_
    refine jj_if_ne (tgt := 18) C dX7_over_13 (by decide) (fun q13 => ?_) (fun q13 => ?_)
    · rw [if_neg q13] at hx
      refine jj_aload_n C 0 0 dX7_over_18 rfl rfl ?_
      obtain ⟨v3, ev3, hx⟩ := ob hx
      refine jj_getR C fd_X7_28 dX7_over_19 ev3 ?_
      refine jj_iload_n C 1 1 dX7_over_22 rfl rfl ?_
      obtain ⟨v4, ev4, hx⟩ := ob hx
      refine jj_aald C 4 rfl dX7_over_23 ev4 ?_
      refine jj_aload_n C 0 0 dX7_over_24 rfl rfl ?_
      obtain ⟨v5, ev5, hx⟩ := ob hx
      refine jj_getR C fd_X7_28 dX7_over_25 ev5 ?_
      refine jj_iload_n C 2 2 dX7_over_28 rfl rfl ?_
      obtain ⟨v6, ev6, hx⟩ := ob hx
      refine jj_aald C 4 rfl dX7_over_29 ev6 ?_
      obtain ⟨v7, ev7, hx⟩ := ob hx
      refine jj_callV C [.ref v6] lk_X7_150 (mc_X6_lettersOver X.2.1 G F n ev7) (o_X6_lettersOver ev7) rfl rfl (Nat.le_of_ble_eq_true rfl) ⟨Nat.le_of_ble_eq_true rfl, Nat.le_of_ble_eq_true rfl⟩ ⟨Nat.zero_le _, Nat.zero_le _⟩ rfl dX7_over_30 rfl rfl ?_
      obtain rfl := Option.some.inj hx
      exact jj_iret C dX7_over_33 rfl
    · rw [if_pos q13] at hx
      refine jj_iconst (v := (-1)) C dX7_over_16 (by decide) ?_
      obtain rfl := Option.some.inj hx
      exact jj_iret C dX7_over_17 rfl
def x_X7_put (F : Nat) (h : pH) (l0 : Nat) (l1 : Int32) (l2 : Int32) (l3 : Int32) : Option (Int32 × pH) :=
  (chk 7 h l0).bind fun _ =>
  (putV 7 h l0 16 (.int 0)).bind fun v1 =>
  (x_X7_isSheet F v1 l1).bind fun v2 =>
  if v2 = 0 then
    some ((-1 : Int32), v1)
  else
    (getR 7 v1 l0 0).bind fun v3 =>
    (aldR 3 v1 v3 l1).bind fun v4 =>
    (getI 4 v1 v4 1).bind fun v5 =>
    if v5 = 0 then
      (x_X7_failWith F v1 l0 1).bind fun v14 =>
      some (v14.1, v14.2)
    else
      (getR 7 v1 l0 0).bind fun v6 =>
      (aldR 3 v1 v6 l1).bind fun v7 =>
      (getI 4 v1 v7 3).bind fun v8 =>
      (x_X7_isBelow F v1 l2 v8).bind fun v9 =>
      if v9 = 0 then
        (x_X7_failWith F v1 l0 3).bind fun v13 =>
        some (v13.1, v13.2)
      else
        (getR 7 v1 l0 0).bind fun v10 =>
        (aldR 3 v1 v10 l1).bind fun v11 =>
        (x_X4_write F v1 v11 l2 l3).bind fun v12 =>
        some ((1 : Int32), v12)
theorem o_X7_put {F : Nat} {h : pH} {l0 : Nat} {l1 : Int32} {l2 : Int32} {l3 : Int32} {res : (Int32 × pH)} (hx : x_X7_put F h l0 l1 l2 l3 = some res) : chk 7 h l0 = some () := by
  unfold x_X7_put at hx
  obtain ⟨_, e, _⟩ := ob hx
  exact e
theorem mc_X7_put (l : Launch) (G : pG) (F n : Nat) {h : pH} {l0 : Nat} {l1 : Int32} {l2 : Int32} {l3 : Int32} {res : (Int32 × pH)} (hx : x_X7_put F h l0 l1 l2 l3 = some res) : MC l yX7_put cX7_put 4 (some (FieldType.int)) (rmD 2 0 0) G [.ref l0, .int l1, .int l2, .int l3] n h (some (.int res.1)) n res.2 := by
  unfold x_X7_put at hx
  obtain ⟨_, _, hx⟩ := ob hx
  refine jj_entry RX7 rfl (by decide) (Nat.le_of_ble_eq_true rfl) (fun X _ _ C => ?_)
  show J X G (0, 0, some (.int res.1), n, res.2) (0, 0, n) h 0 [(0, .ref l0), (1, .int l1), (2, .int l2), (3, .int l3)] []
  refine jj_aload_n C 0 0 dX7_put_0 rfl rfl ?_
  refine jj_iconst (v := 0) C dX7_put_1 (by decide) ?_
  obtain ⟨v1, ev1, hx⟩ := ob hx
  refine jj_put C fd_X7_82 rfl rfl dX7_put_2 ev1 ?_
  refine jj_iload_n C 1 1 dX7_put_5 rfl rfl ?_
  obtain ⟨v2, ev2, hx⟩ := ob hx
  refine jj_callS C [.int l1] lk_X7_86 (mc_X7_isSheet X.2.1 G F n ev2) rfl rfl (Nat.le_of_ble_eq_true rfl) ⟨Nat.le_of_ble_eq_true rfl, Nat.le_of_ble_eq_true rfl⟩ ⟨Nat.zero_le _, Nat.zero_le _⟩ rfl dX7_put_6 rfl rfl ?_
  refine jj_if_ne (tgt := 14) C dX7_put_9 (by decide) (fun q9 => ?_) (fun q9 => ?_)
  · rw [if_neg q9] at hx
    refine jj_aload_n C 0 0 dX7_put_14 rfl rfl ?_
    obtain ⟨v3, ev3, hx⟩ := ob hx
    refine jj_getR C fd_X7_13 dX7_put_15 ev3 ?_
    refine jj_iload_n C 1 1 dX7_put_18 rfl rfl ?_
    obtain ⟨v4, ev4, hx⟩ := ob hx
    refine jj_aald C 3 rfl dX7_put_19 ev4 ?_
    obtain ⟨v5, ev5, hx⟩ := ob hx
    refine jj_getI C fd_X7_206 dX7_put_20 ev5 ?_
    refine jj_if_ne (tgt := 32) C dX7_put_23 (by decide) (fun q23 => ?_) (fun q23 => ?_)
    · rw [if_neg q23] at hx
      refine jj_iload_n C 2 2 dX7_put_32 rfl rfl ?_
      refine jj_aload_n C 0 0 dX7_put_33 rfl rfl ?_
      obtain ⟨v6, ev6, hx⟩ := ob hx
      refine jj_getR C fd_X7_13 dX7_put_34 ev6 ?_
      refine jj_iload_n C 1 1 dX7_put_37 rfl rfl ?_
      obtain ⟨v7, ev7, hx⟩ := ob hx
      refine jj_aald C 3 rfl dX7_put_38 ev7 ?_
      obtain ⟨v8, ev8, hx⟩ := ob hx
      refine jj_getI C fd_X7_209 dX7_put_39 ev8 ?_
      obtain ⟨v9, ev9, hx⟩ := ob hx
      refine jj_callS C [.int l2, .int v8] lk_X7_90 (mc_X7_isBelow X.2.1 G F n ev9) rfl rfl (Nat.le_of_ble_eq_true rfl) ⟨Nat.le_of_ble_eq_true rfl, Nat.le_of_ble_eq_true rfl⟩ ⟨Nat.zero_le _, Nat.zero_le _⟩ rfl dX7_put_42 rfl rfl ?_
      refine jj_if_ne (tgt := 54) C dX7_put_45 (by decide) (fun q45 => ?_) (fun q45 => ?_)
      · rw [if_neg q45] at hx
        refine jj_aload_n C 0 0 dX7_put_54 rfl rfl ?_
        obtain ⟨v10, ev10, hx⟩ := ob hx
        refine jj_getR C fd_X7_13 dX7_put_55 ev10 ?_
        refine jj_iload_n C 1 1 dX7_put_58 rfl rfl ?_
        obtain ⟨v11, ev11, hx⟩ := ob hx
        refine jj_aald C 3 rfl dX7_put_59 ev11 ?_
        refine jj_iload_n C 2 2 dX7_put_60 rfl rfl ?_
        refine jj_iload_n C 3 3 dX7_put_61 rfl rfl ?_
        obtain ⟨v12, ev12, hx⟩ := ob hx
        refine jj_callV C [.int l2, .int l3] lk_X7_210 (mc_X4_write X.2.1 G F n ev12) (o_X4_write ev12) rfl rfl (Nat.le_of_ble_eq_true rfl) ⟨Nat.le_of_ble_eq_true rfl, Nat.le_of_ble_eq_true rfl⟩ ⟨Nat.zero_le _, Nat.zero_le _⟩ rfl dX7_put_62 rfl rfl ?_
        refine jj_iconst (v := 1) C dX7_put_65 (by decide) ?_
        obtain rfl := Option.some.inj hx
        exact jj_iret C dX7_put_66 rfl
      · rw [if_pos q45] at hx
        refine jj_aload_n C 0 0 dX7_put_48 rfl rfl ?_
        refine jj_iconst (v := 3) C dX7_put_49 (by decide) ?_
        obtain ⟨v13, ev13, hx⟩ := ob hx
        refine jj_callV C [.int 3] lk_X7_98 (mc_X7_failWith X.2.1 G F n ev13) (o_X7_failWith ev13) rfl rfl (Nat.le_of_ble_eq_true rfl) ⟨Nat.le_of_ble_eq_true rfl, Nat.le_of_ble_eq_true rfl⟩ ⟨Nat.zero_le _, Nat.zero_le _⟩ rfl dX7_put_50 rfl rfl ?_
        obtain rfl := Option.some.inj hx
        exact jj_iret C dX7_put_53 rfl
    · rw [if_pos q23] at hx
      refine jj_aload_n C 0 0 dX7_put_26 rfl rfl ?_
      refine jj_iconst (v := 1) C dX7_put_27 (by decide) ?_
      obtain ⟨v14, ev14, hx⟩ := ob hx
      refine jj_callV C [.int 1] lk_X7_98 (mc_X7_failWith X.2.1 G F n ev14) (o_X7_failWith ev14) rfl rfl (Nat.le_of_ble_eq_true rfl) ⟨Nat.le_of_ble_eq_true rfl, Nat.le_of_ble_eq_true rfl⟩ ⟨Nat.zero_le _, Nat.zero_le _⟩ rfl dX7_put_28 rfl rfl ?_
      obtain rfl := Option.some.inj hx
      exact jj_iret C dX7_put_31 rfl
  · rw [if_pos q9] at hx
    refine jj_iconst (v := (-1)) C dX7_put_12 (by decide) ?_
    obtain rfl := Option.some.inj hx
    exact jj_iret C dX7_put_13 rfl
def x_X7_reading_144 (F : Nat)  (h : pH) (l0 : Nat) (s0 : Int32) (s1 : Int32) (s2 : Nat) (s3 : Int32) (s4 : Nat) : Option (Int32 × pH) :=
  (x_X3_keep F h s4 s3 s2 s1 s0).bind fun v1 =>
  (getI 7 v1 l0 8).bind fun v2 =>
  (putV 7 v1 l0 8 (.int (v2 + (1 : Int32)))).bind fun v3 =>
  (getI 7 v3 l0 8).bind fun v4 =>
  some ((v4 - (1 : Int32)), v3)
theorem t_X7_reading_144 {X : pX} {G : pG} {n : Nat} {res : (Int32 × pH)} (C : Cx X G RX7 cX7_reading 8 (rmD 2 0 0) n (some (FieldType.int))) (F : Nat) {h : pH} {l0 : Nat} {s0 : Int32} {s1 : Int32} {s2 : Nat} {s3 : Int32} {s4 : Nat} (hx : x_X7_reading_144 F h l0 s0 s1 s2 s3 s4 = some res) : J X G (0, 0, some (.int res.1), n, res.2) (0, 0, n) h 144 [(0, .ref l0)] [.int s0, .int s1, .ref s2, .int s3, .ref s4] := by
  unfold x_X7_reading_144 at hx
  obtain ⟨v1, ev1, hx⟩ := ob hx
  refine jj_callV C [.int s3, .ref s2, .int s1, .int s0] lk_X7_185 (mc_X3_keep X.2.1 G F n ev1) (o_X3_keep ev1) rfl rfl (Nat.le_of_ble_eq_true rfl) ⟨Nat.le_of_ble_eq_true rfl, Nat.le_of_ble_eq_true rfl⟩ ⟨Nat.zero_le _, Nat.zero_le _⟩ rfl dX7_reading_144 rfl rfl ?_
  refine jj_aload_n C 0 0 dX7_reading_147 rfl rfl ?_
  refine jj_dup C dX7_reading_148 rfl ?_
  obtain ⟨v2, ev2, hx⟩ := ob hx
  refine jj_getI C fd_X7_182 dX7_reading_149 ev2 ?_
  refine jj_iconst (v := 1) C dX7_reading_152 (by decide) ?_
  refine jj_iadd C dX7_reading_153 ?_
  obtain ⟨v3, ev3, hx⟩ := ob hx
  refine jj_put C fd_X7_182 rfl rfl dX7_reading_154 ev3 ?_
  refine jj_aload_n C 0 0 dX7_reading_157 rfl rfl ?_
  obtain ⟨v4, ev4, hx⟩ := ob hx
  refine jj_getI C fd_X7_182 dX7_reading_158 ev4 ?_
  refine jj_iconst (v := 1) C dX7_reading_161 (by decide) ?_
  refine jj_isub C dX7_reading_162 ?_
  obtain rfl := Option.some.inj hx
  exact jj_iret C dX7_reading_163 rfl
def x_X7_reading (F : Nat) (h : pH) (l0 : Nat) (l1 : Int32) (l2 : Int32) (l3 : Int32) (l4 : Int32) (l5 : Int32) (l6 : Int32) : Option (Int32 × pH) :=
  (chk 7 h l0).bind fun _ =>
  (putV 7 h l0 16 (.int 0)).bind fun v1 =>
  (x_X7_isWord F v1 l0 l1).bind fun v2 =>
  if v2 = 0 then
    some ((-1 : Int32), v1)
  else
    (x_X7_isSheet F v1 l2).bind fun v3 =>
    if v3 = 0 then
      some ((-1 : Int32), v1)
    else
      (x_X7_isBelow F v1 l3 3).bind fun v4 =>
      if v4 = 0 then
        some ((-2 : Int32), v1)
      else
        if l5 < 0 then
          some ((-2 : Int32), v1)
        else
          if 8 < l5 then
            some ((-2 : Int32), v1)
          else
            (x_X7_isBelow F v1 l6 2).bind fun v5 =>
            if v5 = 0 then
              some ((-2 : Int32), v1)
            else
              (getR 7 v1 l0 0).bind fun v6 =>
              (aldR 3 v1 v6 l2).bind fun v7 =>
              (x_X4_faultOfCells F v1 v7 l3 l4 l5).bind fun v8 =>
              if v8 = 0 then
                (getR 7 v1 l0 0).bind fun v9 =>
                (aldR 3 v1 v9 l2).bind fun v10 =>
                (getR 7 v1 l0 6).bind fun v11 =>
                (x_X4_lettersTo F v1 v10 v11 l4 l5).bind fun v12 =>
                if v12.1 = 0 then
                  some ((-2 : Int32), v12.2)
                else
                  (getI 7 v12.2 l0 8).bind fun v13 =>
                  if v13 < 8 then
                    (getR 7 v12.2 l0 7).bind fun v14 =>
                    (getI 7 v12.2 l0 8).bind fun v15 =>
                    (aldR 5 v12.2 v14 v15).bind fun v16 =>
                    (getR 7 v12.2 l0 6).bind fun v17 =>
                    if l6 = 1 then
                      x_X7_reading_144 F v12.2 l0 1 l5 v17 l1 v16
                    else
                      x_X7_reading_144 F v12.2 l0 0 l5 v17 l1 v16
                  else
                    some ((-4 : Int32), v12.2)
              else
                (x_X7_failWith F v1 l0 v8).bind fun v18 =>
                some (v18.1, v18.2)
theorem o_X7_reading {F : Nat} {h : pH} {l0 : Nat} {l1 : Int32} {l2 : Int32} {l3 : Int32} {l4 : Int32} {l5 : Int32} {l6 : Int32} {res : (Int32 × pH)} (hx : x_X7_reading F h l0 l1 l2 l3 l4 l5 l6 = some res) : chk 7 h l0 = some () := by
  unfold x_X7_reading at hx
  obtain ⟨_, e, _⟩ := ob hx
  exact e
theorem mc_X7_reading (l : Launch) (G : pG) (F n : Nat) {h : pH} {l0 : Nat} {l1 : Int32} {l2 : Int32} {l3 : Int32} {l4 : Int32} {l5 : Int32} {l6 : Int32} {res : (Int32 × pH)} (hx : x_X7_reading F h l0 l1 l2 l3 l4 l5 l6 = some res) : MC l yX7_reading cX7_reading 8 (some (FieldType.int)) (rmD 2 0 0) G [.ref l0, .int l1, .int l2, .int l3, .int l4, .int l5, .int l6] n h (some (.int res.1)) n res.2 := by
  unfold x_X7_reading at hx
  obtain ⟨_, _, hx⟩ := ob hx
  refine jj_entry RX7 rfl (by decide) (Nat.le_of_ble_eq_true rfl) (fun X _ _ C => ?_)
  show J X G (0, 0, some (.int res.1), n, res.2) (0, 0, n) h 0 [(0, .ref l0), (1, .int l1), (2, .int l2), (3, .int l3), (4, .int l4), (5, .int l5), (6, .int l6)] []
  refine jj_aload_n C 0 0 dX7_reading_0 rfl rfl ?_
  refine jj_iconst (v := 0) C dX7_reading_1 (by decide) ?_
  obtain ⟨v1, ev1, hx⟩ := ob hx
  refine jj_put C fd_X7_82 rfl rfl dX7_reading_2 ev1 ?_
  refine jj_aload_n C 0 0 dX7_reading_5 rfl rfl ?_
  refine jj_iload_n C 1 1 dX7_reading_6 rfl rfl ?_
  obtain ⟨v2, ev2, hx⟩ := ob hx
  refine jj_callV C [.int l1] lk_X7_112 (mc_X7_isWord X.2.1 G F n ev2) (o_X7_isWord ev2) rfl rfl (Nat.le_of_ble_eq_true rfl) ⟨Nat.le_of_ble_eq_true rfl, Nat.le_of_ble_eq_true rfl⟩ ⟨Nat.zero_le _, Nat.zero_le _⟩ rfl dX7_reading_7 rfl rfl ?_
  refine jj_if_eq (tgt := 20) C dX7_reading_10 (by decide) (fun q10 => ?_) (fun q10 => ?_)
  · rw [if_pos q10] at hx
    refine jj_iconst (v := (-1)) C dX7_reading_20 (by decide) ?_
    obtain rfl := Option.some.inj hx
    exact jj_iret C dX7_reading_21 rfl
  · rw [if_neg q10] at hx
    refine jj_iload_n C 2 2 dX7_reading_13 rfl rfl ?_
    obtain ⟨v3, ev3, hx⟩ := ob hx
    refine jj_callS C [.int l2] lk_X7_86 (mc_X7_isSheet X.2.1 G F n ev3) rfl rfl (Nat.le_of_ble_eq_true rfl) ⟨Nat.le_of_ble_eq_true rfl, Nat.le_of_ble_eq_true rfl⟩ ⟨Nat.zero_le _, Nat.zero_le _⟩ rfl dX7_reading_14 rfl rfl ?_
    refine jj_if_ne (tgt := 22) C dX7_reading_17 (by decide) (fun q17 => ?_) (fun q17 => ?_)
    · rw [if_neg q17] at hx
      refine jj_iload_n C 3 3 dX7_reading_22 rfl rfl ?_
      refine jj_iconst (v := 3) C dX7_reading_23 (by decide) ?_
      obtain ⟨v4, ev4, hx⟩ := ob hx
      refine jj_callS C [.int l3, .int 3] lk_X7_90 (mc_X7_isBelow X.2.1 G F n ev4) rfl rfl (Nat.le_of_ble_eq_true rfl) ⟨Nat.le_of_ble_eq_true rfl, Nat.le_of_ble_eq_true rfl⟩ ⟨Nat.zero_le _, Nat.zero_le _⟩ rfl dX7_reading_24 rfl rfl ?_
      refine jj_if_eq (tgt := 51) C dX7_reading_27 (by decide) (fun q27 => ?_) (fun q27 => ?_)
      · rw [if_pos q27] at hx
        refine jj_bipush (v := (-2)) C dX7_reading_51 (by decide) ?_
        obtain rfl := Option.some.inj hx
        exact jj_iret C dX7_reading_53 rfl
      · rw [if_neg q27] at hx
        refine jj_iload C 5 5 dX7_reading_30 rfl ?_
        refine jj_if_lt (tgt := 51) C dX7_reading_32 (by decide) (fun q32 => ?_) (fun q32 => ?_)
        · rw [if_pos q32] at hx
          refine jj_bipush (v := (-2)) C dX7_reading_51 (by decide) ?_
          obtain rfl := Option.some.inj hx
          exact jj_iret C dX7_reading_53 rfl
        · rw [if_neg q32] at hx
          refine jj_iload C 5 5 dX7_reading_35 rfl ?_
          refine jj_bipush (v := 8) C dX7_reading_37 (by decide) ?_
          refine jj_icmp_gt (tgt := 51) C dX7_reading_39 (by decide) (fun q39 => ?_) (fun q39 => ?_)
          · rw [if_pos q39] at hx
            refine jj_bipush (v := (-2)) C dX7_reading_51 (by decide) ?_
            obtain rfl := Option.some.inj hx
            exact jj_iret C dX7_reading_53 rfl
          · rw [if_neg q39] at hx
            refine jj_iload C 6 6 dX7_reading_42 rfl ?_
            refine jj_iconst (v := 2) C dX7_reading_44 (by decide) ?_
            obtain ⟨v5, ev5, hx⟩ := ob hx
            refine jj_callS C [.int l6, .int 2] lk_X7_90 (mc_X7_isBelow X.2.1 G F n ev5) rfl rfl (Nat.le_of_ble_eq_true rfl) ⟨Nat.le_of_ble_eq_true rfl, Nat.le_of_ble_eq_true rfl⟩ ⟨Nat.zero_le _, Nat.zero_le _⟩ rfl dX7_reading_45 rfl rfl ?_
            refine jj_if_ne (tgt := 54) C dX7_reading_48 (by decide) (fun q48 => ?_) (fun q48 => ?_)
            · rw [if_neg q48] at hx
              refine jj_aload_n C 0 0 dX7_reading_54 rfl rfl ?_
              obtain ⟨v6, ev6, hx⟩ := ob hx
              refine jj_getR C fd_X7_13 dX7_reading_55 ev6 ?_
              refine jj_iload_n C 2 2 dX7_reading_58 rfl rfl ?_
              obtain ⟨v7, ev7, hx⟩ := ob hx
              refine jj_aald C 3 rfl dX7_reading_59 ev7 ?_
              refine jj_iload_n C 3 3 dX7_reading_60 rfl rfl ?_
              refine jj_iload C 4 4 dX7_reading_61 rfl ?_
              refine jj_iload C 5 5 dX7_reading_63 rfl ?_
              obtain ⟨v8, ev8, hx⟩ := ob hx
              refine jj_callV C [.int l3, .int l4, .int l5] lk_X7_94 (mc_X4_faultOfCells X.2.1 G F n ev8) (o_X4_faultOfCells ev8) rfl rfl (Nat.le_of_ble_eq_true rfl) ⟨Nat.le_of_ble_eq_true rfl, Nat.le_of_ble_eq_true rfl⟩ ⟨Nat.zero_le _, Nat.zero_le _⟩ rfl dX7_reading_65 rfl rfl ?_
              refine jj_istore C 7 dX7_reading_68 rfl (by decide) ?_
              refine jj_iload C 7 0 dX7_reading_70 rfl ?_
              refine jj_if_eq (tgt := 82) C dX7_reading_72 (by decide) (fun q72 => ?_) (fun q72 => ?_)
              · rw [if_pos q72] at hx
                refine jj_aload_n C 0 1 dX7_reading_82 rfl rfl ?_
                obtain ⟨v9, ev9, hx⟩ := ob hx
                refine jj_getR C fd_X7_13 dX7_reading_83 ev9 ?_
                refine jj_iload_n C 2 3 dX7_reading_86 rfl rfl ?_
                obtain ⟨v10, ev10, hx⟩ := ob hx
                refine jj_aald C 3 rfl dX7_reading_87 ev10 ?_
                refine jj_aload_n C 0 1 dX7_reading_88 rfl rfl ?_
                obtain ⟨v11, ev11, hx⟩ := ob hx
                refine jj_getR C fd_X7_36 dX7_reading_89 ev11 ?_
                refine jj_iload C 4 5 dX7_reading_92 rfl ?_
                refine jj_iload C 5 6 dX7_reading_94 rfl ?_
                obtain ⟨v12, ev12, hx⟩ := ob hx
                refine jj_callV C [.ref v11, .int l4, .int l5] lk_X7_142 (mc_X4_lettersTo X.2.1 G F n ev12) (o_X4_lettersTo ev12) rfl rfl (Nat.le_of_ble_eq_true rfl) ⟨Nat.le_of_ble_eq_true rfl, Nat.le_of_ble_eq_true rfl⟩ ⟨Nat.zero_le _, Nat.zero_le _⟩ rfl dX7_reading_96 rfl rfl ?_
                refine jj_if_ne (tgt := 105) C dX7_reading_99 (by decide) (fun q99 => ?_) (fun q99 => ?_)
                · rw [if_neg q99] at hx
                  refine jj_aload_n C 0 1 dX7_reading_105 rfl rfl ?_
                  obtain ⟨v13, ev13, hx⟩ := ob hx
                  refine jj_getI C fd_X7_182 dX7_reading_106 ev13 ?_
                  refine jj_bipush (v := 8) C dX7_reading_109 (by decide) ?_
                  refine jj_icmp_lt (tgt := 117) C dX7_reading_111 (by decide) (fun q111 => ?_) (fun q111 => ?_)
                  · rw [if_pos q111] at hx
                    refine jj_aload_n C 0 1 dX7_reading_117 rfl rfl ?_
                    obtain ⟨v14, ev14, hx⟩ := ob hx
                    refine jj_getR C fd_X7_41 dX7_reading_118 ev14 ?_
                    refine jj_aload_n C 0 1 dX7_reading_121 rfl rfl ?_
                    obtain ⟨v15, ev15, hx⟩ := ob hx
                    refine jj_getI C fd_X7_182 dX7_reading_122 ev15 ?_
                    obtain ⟨v16, ev16, hx⟩ := ob hx
                    refine jj_aald C 5 rfl dX7_reading_125 ev16 ?_
                    refine jj_iload_n C 1 2 dX7_reading_126 rfl rfl ?_
                    refine jj_aload_n C 0 1 dX7_reading_127 rfl rfl ?_
                    obtain ⟨v17, ev17, hx⟩ := ob hx
                    refine jj_getR C fd_X7_36 dX7_reading_128 ev17 ?_
                    refine jj_iload C 5 6 dX7_reading_131 rfl ?_
                    refine jj_iload C 6 7 dX7_reading_133 rfl ?_
                    refine jj_iconst (v := 1) C dX7_reading_135 (by decide) ?_
                    refine jj_icmp_ne (tgt := 143) C dX7_reading_136 (by decide) (fun q136 => ?_) (fun q136 => ?_)
                    · rw [if_neg q136] at hx
                      refine jj_iconst (v := 0) C dX7_reading_143 (by decide) ?_
                      refine jj_sub [1] rfl ?_
                      exact t_X7_reading_144 C F hx
                    · rw [if_pos q136] at hx
                      refine jj_iconst (v := 1) C dX7_reading_139 (by decide) ?_
                      refine jj_goto (tgt := 144) C dX7_reading_140 (by decide) ?_
                      refine jj_sub [1] rfl ?_
                      exact t_X7_reading_144 C F hx
                  · rw [if_neg q111] at hx
                    refine jj_bipush (v := (-4)) C dX7_reading_114 (by decide) ?_
                    obtain rfl := Option.some.inj hx
                    exact jj_iret C dX7_reading_116 rfl
                · rw [if_pos q99] at hx
                  refine jj_bipush (v := (-2)) C dX7_reading_102 (by decide) ?_
                  obtain rfl := Option.some.inj hx
                  exact jj_iret C dX7_reading_104 rfl
              · rw [if_neg q72] at hx
                refine jj_aload_n C 0 1 dX7_reading_75 rfl rfl ?_
                refine jj_iload C 7 0 dX7_reading_76 rfl ?_
                obtain ⟨v18, ev18, hx⟩ := ob hx
                refine jj_callV C [.int v8] lk_X7_98 (mc_X7_failWith X.2.1 G F n ev18) (o_X7_failWith ev18) rfl rfl (Nat.le_of_ble_eq_true rfl) ⟨Nat.le_of_ble_eq_true rfl, Nat.le_of_ble_eq_true rfl⟩ ⟨Nat.zero_le _, Nat.zero_le _⟩ rfl dX7_reading_78 rfl rfl ?_
                obtain rfl := Option.some.inj hx
                exact jj_iret C dX7_reading_81 rfl
            · rw [if_pos q48] at hx
              refine jj_bipush (v := (-2)) C dX7_reading_51 (by decide) ?_
              obtain rfl := Option.some.inj hx
              exact jj_iret C dX7_reading_53 rfl
    · rw [if_pos q17] at hx
      refine jj_iconst (v := (-1)) C dX7_reading_20 (by decide) ?_
      obtain rfl := Option.some.inj hx
      exact jj_iret C dX7_reading_21 rfl
def x_X7_row (F : Nat) (h : pH) (l0 : Nat) (l1 : Int32) (l2 : Int32) (l3 : Int32) (l4 : Int32) (l5 : Int32) : Option (Int32 × pH) :=
  (chk 7 h l0).bind fun _ =>
  (putV 7 h l0 16 (.int 0)).bind fun v1 =>
  (x_X7_isSheet F v1 l1).bind fun v2 =>
  if v2 = 0 then
    some ((-1 : Int32), v1)
  else
    (x_X7_isBelow F v1 l2 3).bind fun v3 =>
    if v3 = 0 then
      some ((-2 : Int32), v1)
    else
      if l4 < 0 then
        some ((-2 : Int32), v1)
      else
        if 40 < l4 then
          some ((-2 : Int32), v1)
        else
          (x_X7_isOfRow F v1 l5).bind fun v4 =>
          if v4 = 0 then
            some ((-2 : Int32), v1)
          else
            (getR 7 v1 l0 0).bind fun v5 =>
            (aldR 3 v1 v5 l1).bind fun v6 =>
            (x_X4_faultOfCells F v1 v6 l2 l3 l4).bind fun v7 =>
            if v7 = 0 then
              (getI 7 v1 l0 3).bind fun v8 =>
              if v8 = 0 then
                some ((-3 : Int32), v1)
              else
                (getR 7 v1 l0 0).bind fun v9 =>
                (aldR 3 v1 v9 l1).bind fun v10 =>
                (getR 7 v1 l0 6).bind fun v11 =>
                (x_X4_lettersTo F v1 v10 v11 l3 l4).bind fun v12 =>
                if v12.1 = 0 then
                  some ((-2 : Int32), v12.2)
                else
                  if 10 ≤ l5 then
                    (x_X7_isWord F v12.2 l0 (l5 - (10 : Int32))).bind fun v13 =>
                    if v13 = 0 then
                      some ((-9 : Int32), v12.2)
                    else
                      (getR 7 v12.2 l0 2).bind fun v14 =>
                      (aldR 4 v12.2 v14 (l5 - (10 : Int32))).bind fun v15 =>
                      (getR 7 v12.2 l0 6).bind fun v16 =>
                      (x_X6_timesIn F v12.2 v15 v16 l4).bind fun v17 =>
                      some (v17, v12.2)
                  else
                    (x_X7_heardInTold F v12.2 l0 l4 l5).bind fun v18 =>
                    some (v18, v12.2)
            else
              (x_X7_failWith F v1 l0 v7).bind fun v19 =>
              some (v19.1, v19.2)
theorem o_X7_row {F : Nat} {h : pH} {l0 : Nat} {l1 : Int32} {l2 : Int32} {l3 : Int32} {l4 : Int32} {l5 : Int32} {res : (Int32 × pH)} (hx : x_X7_row F h l0 l1 l2 l3 l4 l5 = some res) : chk 7 h l0 = some () := by
  unfold x_X7_row at hx
  obtain ⟨_, e, _⟩ := ob hx
  exact e
theorem mc_X7_row (l : Launch) (G : pG) (F n : Nat) {h : pH} {l0 : Nat} {l1 : Int32} {l2 : Int32} {l3 : Int32} {l4 : Int32} {l5 : Int32} {res : (Int32 × pH)} (hx : x_X7_row F h l0 l1 l2 l3 l4 l5 = some res) : MC l yX7_row cX7_row 8 (some (FieldType.int)) (rmD 5 0 0) G [.ref l0, .int l1, .int l2, .int l3, .int l4, .int l5] n h (some (.int res.1)) n res.2 := by
  unfold x_X7_row at hx
  obtain ⟨_, _, hx⟩ := ob hx
  refine jj_entry RX7 rfl (by decide) (Nat.le_of_ble_eq_true rfl) (fun X _ _ C => ?_)
  show J X G (0, 0, some (.int res.1), n, res.2) (0, 0, n) h 0 [(0, .ref l0), (1, .int l1), (2, .int l2), (3, .int l3), (4, .int l4), (5, .int l5)] []
  refine jj_aload_n C 0 0 dX7_row_0 rfl rfl ?_
  refine jj_iconst (v := 0) C dX7_row_1 (by decide) ?_
  obtain ⟨v1, ev1, hx⟩ := ob hx
  refine jj_put C fd_X7_82 rfl rfl dX7_row_2 ev1 ?_
  refine jj_iload_n C 1 1 dX7_row_5 rfl rfl ?_
  obtain ⟨v2, ev2, hx⟩ := ob hx
  refine jj_callS C [.int l1] lk_X7_86 (mc_X7_isSheet X.2.1 G F n ev2) rfl rfl (Nat.le_of_ble_eq_true rfl) ⟨Nat.le_of_ble_eq_true rfl, Nat.le_of_ble_eq_true rfl⟩ ⟨Nat.zero_le _, Nat.zero_le _⟩ rfl dX7_row_6 rfl rfl ?_
  refine jj_if_ne (tgt := 14) C dX7_row_9 (by decide) (fun q9 => ?_) (fun q9 => ?_)
  · rw [if_neg q9] at hx
    refine jj_iload_n C 2 2 dX7_row_14 rfl rfl ?_
    refine jj_iconst (v := 3) C dX7_row_15 (by decide) ?_
    obtain ⟨v3, ev3, hx⟩ := ob hx
    refine jj_callS C [.int l2, .int 3] lk_X7_90 (mc_X7_isBelow X.2.1 G F n ev3) rfl rfl (Nat.le_of_ble_eq_true rfl) ⟨Nat.le_of_ble_eq_true rfl, Nat.le_of_ble_eq_true rfl⟩ ⟨Nat.zero_le _, Nat.zero_le _⟩ rfl dX7_row_16 rfl rfl ?_
    refine jj_if_eq (tgt := 42) C dX7_row_19 (by decide) (fun q19 => ?_) (fun q19 => ?_)
    · rw [if_pos q19] at hx
      refine jj_bipush (v := (-2)) C dX7_row_42 (by decide) ?_
      obtain rfl := Option.some.inj hx
      exact jj_iret C dX7_row_44 rfl
    · rw [if_neg q19] at hx
      refine jj_iload C 4 4 dX7_row_22 rfl ?_
      refine jj_if_lt (tgt := 42) C dX7_row_24 (by decide) (fun q24 => ?_) (fun q24 => ?_)
      · rw [if_pos q24] at hx
        refine jj_bipush (v := (-2)) C dX7_row_42 (by decide) ?_
        obtain rfl := Option.some.inj hx
        exact jj_iret C dX7_row_44 rfl
      · rw [if_neg q24] at hx
        refine jj_iload C 4 4 dX7_row_27 rfl ?_
        refine jj_bipush (v := 40) C dX7_row_29 (by decide) ?_
        refine jj_icmp_gt (tgt := 42) C dX7_row_31 (by decide) (fun q31 => ?_) (fun q31 => ?_)
        · rw [if_pos q31] at hx
          refine jj_bipush (v := (-2)) C dX7_row_42 (by decide) ?_
          obtain rfl := Option.some.inj hx
          exact jj_iret C dX7_row_44 rfl
        · rw [if_neg q31] at hx
          refine jj_iload C 5 5 dX7_row_34 rfl ?_
          obtain ⟨v4, ev4, hx⟩ := ob hx
          refine jj_callS C [.int l5] lk_X7_139 (mc_X7_isOfRow X.2.1 G F n ev4) rfl rfl (Nat.le_of_ble_eq_true rfl) ⟨Nat.le_of_ble_eq_true rfl, Nat.le_of_ble_eq_true rfl⟩ ⟨Nat.zero_le _, Nat.zero_le _⟩ rfl dX7_row_36 rfl rfl ?_
          refine jj_if_ne (tgt := 45) C dX7_row_39 (by decide) (fun q39 => ?_) (fun q39 => ?_)
          · rw [if_neg q39] at hx
            refine jj_aload_n C 0 0 dX7_row_45 rfl rfl ?_
            obtain ⟨v5, ev5, hx⟩ := ob hx
            refine jj_getR C fd_X7_13 dX7_row_46 ev5 ?_
            refine jj_iload_n C 1 1 dX7_row_49 rfl rfl ?_
            obtain ⟨v6, ev6, hx⟩ := ob hx
            refine jj_aald C 3 rfl dX7_row_50 ev6 ?_
            refine jj_iload_n C 2 2 dX7_row_51 rfl rfl ?_
            refine jj_iload_n C 3 3 dX7_row_52 rfl rfl ?_
            refine jj_iload C 4 4 dX7_row_53 rfl ?_
            obtain ⟨v7, ev7, hx⟩ := ob hx
            refine jj_callV C [.int l2, .int l3, .int l4] lk_X7_94 (mc_X4_faultOfCells X.2.1 G F n ev7) (o_X4_faultOfCells ev7) rfl rfl (Nat.le_of_ble_eq_true rfl) ⟨Nat.le_of_ble_eq_true rfl, Nat.le_of_ble_eq_true rfl⟩ ⟨Nat.zero_le _, Nat.zero_le _⟩ rfl dX7_row_55 rfl rfl ?_
            refine jj_istore C 6 dX7_row_58 rfl (by decide) ?_
            refine jj_iload C 6 0 dX7_row_60 rfl ?_
            refine jj_if_eq (tgt := 72) C dX7_row_62 (by decide) (fun q62 => ?_) (fun q62 => ?_)
            · rw [if_pos q62] at hx
              refine jj_aload_n C 0 1 dX7_row_72 rfl rfl ?_
              obtain ⟨v8, ev8, hx⟩ := ob hx
              refine jj_getI C fd_X7_109 dX7_row_73 ev8 ?_
              refine jj_if_ne (tgt := 82) C dX7_row_76 (by decide) (fun q76 => ?_) (fun q76 => ?_)
              · rw [if_neg q76] at hx
                refine jj_aload_n C 0 1 dX7_row_82 rfl rfl ?_
                obtain ⟨v9, ev9, hx⟩ := ob hx
                refine jj_getR C fd_X7_13 dX7_row_83 ev9 ?_
                refine jj_iload_n C 1 2 dX7_row_86 rfl rfl ?_
                obtain ⟨v10, ev10, hx⟩ := ob hx
                refine jj_aald C 3 rfl dX7_row_87 ev10 ?_
                refine jj_aload_n C 0 1 dX7_row_88 rfl rfl ?_
                obtain ⟨v11, ev11, hx⟩ := ob hx
                refine jj_getR C fd_X7_36 dX7_row_89 ev11 ?_
                refine jj_iload_n C 3 4 dX7_row_92 rfl rfl ?_
                refine jj_iload C 4 5 dX7_row_93 rfl ?_
                obtain ⟨v12, ev12, hx⟩ := ob hx
                refine jj_callV C [.ref v11, .int l3, .int l4] lk_X7_142 (mc_X4_lettersTo X.2.1 G F n ev12) (o_X4_lettersTo ev12) rfl rfl (Nat.le_of_ble_eq_true rfl) ⟨Nat.le_of_ble_eq_true rfl, Nat.le_of_ble_eq_true rfl⟩ ⟨Nat.zero_le _, Nat.zero_le _⟩ rfl dX7_row_95 rfl rfl ?_
                refine jj_if_ne (tgt := 104) C dX7_row_98 (by decide) (fun q98 => ?_) (fun q98 => ?_)
                · rw [if_neg q98] at hx
                  refine jj_iload C 5 6 dX7_row_104 rfl ?_
                  refine jj_bipush (v := 10) C dX7_row_106 (by decide) ?_
                  refine jj_icmp_ge (tgt := 120) C dX7_row_108 (by decide) (fun q108 => ?_) (fun q108 => ?_)
                  · rw [if_pos q108] at hx
                    refine jj_iload C 5 6 dX7_row_120 rfl ?_
                    refine jj_bipush (v := 10) C dX7_row_122 (by decide) ?_
                    refine jj_isub C dX7_row_124 ?_
                    refine jj_istore C 7 dX7_row_125 rfl (by decide) ?_
                    refine jj_aload_n C 0 2 dX7_row_127 rfl rfl ?_
                    refine jj_iload C 7 0 dX7_row_128 rfl ?_
                    obtain ⟨v13, ev13, hx⟩ := ob hx
                    refine jj_callV C [.int (l5 - (10 : Int32))] lk_X7_112 (mc_X7_isWord X.2.1 G F n ev13) (o_X7_isWord ev13) rfl rfl (Nat.le_of_ble_eq_true rfl) ⟨Nat.le_of_ble_eq_true rfl, Nat.le_of_ble_eq_true rfl⟩ ⟨Nat.zero_le _, Nat.zero_le _⟩ rfl dX7_row_130 rfl rfl ?_
                    refine jj_if_eq (tgt := 155) C dX7_row_133 (by decide) (fun q133 => ?_) (fun q133 => ?_)
                    · rw [if_pos q133] at hx
                      refine jj_bipush (v := (-9)) C dX7_row_155 (by decide) ?_
                      obtain rfl := Option.some.inj hx
                      exact jj_iret C dX7_row_157 rfl
                    · rw [if_neg q133] at hx
                      refine jj_aload_n C 0 2 dX7_row_136 rfl rfl ?_
                      obtain ⟨v14, ev14, hx⟩ := ob hx
                      refine jj_getR C fd_X7_28 dX7_row_137 ev14 ?_
                      refine jj_iload C 7 0 dX7_row_140 rfl ?_
                      obtain ⟨v15, ev15, hx⟩ := ob hx
                      refine jj_aald C 4 rfl dX7_row_142 ev15 ?_
                      refine jj_aload_n C 0 2 dX7_row_143 rfl rfl ?_
                      obtain ⟨v16, ev16, hx⟩ := ob hx
                      refine jj_getR C fd_X7_36 dX7_row_144 ev16 ?_
                      refine jj_iload C 4 6 dX7_row_147 rfl ?_
                      obtain ⟨v17, ev17, hx⟩ := ob hx
                      refine jj_callV C [.ref v16, .int l4] lk_X7_128 (mc_X6_timesIn X.2.1 G F n ev17) (o_X6_timesIn ev17) rfl rfl (Nat.le_of_ble_eq_true rfl) ⟨Nat.le_of_ble_eq_true rfl, Nat.le_of_ble_eq_true rfl⟩ ⟨Nat.zero_le _, Nat.zero_le _⟩ rfl dX7_row_149 rfl rfl ?_
                      refine jj_goto (tgt := 157) C dX7_row_152 (by decide) ?_
                      obtain rfl := Option.some.inj hx
                      exact jj_iret C dX7_row_157 rfl
                  · rw [if_neg q108] at hx
                    refine jj_aload_n C 0 1 dX7_row_111 rfl rfl ?_
                    refine jj_iload C 4 5 dX7_row_112 rfl ?_
                    refine jj_iload C 5 6 dX7_row_114 rfl ?_
                    obtain ⟨v18, ev18, hx⟩ := ob hx
                    refine jj_callV C [.int l4, .int l5] lk_X7_146 (mc_X7_heardInTold X.2.1 G F n ev18) (o_X7_heardInTold ev18) rfl rfl (Nat.le_of_ble_eq_true rfl) ⟨Nat.le_of_ble_eq_true rfl, Nat.le_of_ble_eq_true rfl⟩ ⟨Nat.zero_le _, Nat.zero_le _⟩ rfl dX7_row_116 rfl rfl ?_
                    obtain rfl := Option.some.inj hx
                    exact jj_iret C dX7_row_119 rfl
                · rw [if_pos q98] at hx
                  refine jj_bipush (v := (-2)) C dX7_row_101 (by decide) ?_
                  obtain rfl := Option.some.inj hx
                  exact jj_iret C dX7_row_103 rfl
              · rw [if_pos q76] at hx
                refine jj_bipush (v := (-3)) C dX7_row_79 (by decide) ?_
                obtain rfl := Option.some.inj hx
                exact jj_iret C dX7_row_81 rfl
            · rw [if_neg q62] at hx
              refine jj_aload_n C 0 1 dX7_row_65 rfl rfl ?_
              refine jj_iload C 6 0 dX7_row_66 rfl ?_
              obtain ⟨v19, ev19, hx⟩ := ob hx
              refine jj_callV C [.int v7] lk_X7_98 (mc_X7_failWith X.2.1 G F n ev19) (o_X7_failWith ev19) rfl rfl (Nat.le_of_ble_eq_true rfl) ⟨Nat.le_of_ble_eq_true rfl, Nat.le_of_ble_eq_true rfl⟩ ⟨Nat.zero_le _, Nat.zero_le _⟩ rfl dX7_row_68 rfl rfl ?_
              obtain rfl := Option.some.inj hx
              exact jj_iret C dX7_row_71 rfl
          · rw [if_pos q39] at hx
            refine jj_bipush (v := (-2)) C dX7_row_42 (by decide) ?_
            obtain rfl := Option.some.inj hx
            exact jj_iret C dX7_row_44 rfl
  · rw [if_pos q9] at hx
    refine jj_iconst (v := (-1)) C dX7_row_12 (by decide) ?_
    obtain rfl := Option.some.inj hx
    exact jj_iret C dX7_row_13 rfl
def x_X7_say (F : Nat) (h : pH) (l0 : Nat) (l1 : Int32) : Option (Int32 × pH) :=
  (chk 7 h l0).bind fun _ =>
  (x_X7_isBelow F h l1 3).bind fun v1 =>
  if v1 = 0 then
    some ((-2 : Int32), h)
  else
    (getI 7 h l0 3).bind fun v2 =>
    if v2 = 0 then
      some ((-3 : Int32), h)
    else
      (getI 7 h l0 5).bind fun v3 =>
      if v3 < 60 then
        (getR 7 h l0 4).bind fun v4 =>
        (getI 7 h l0 5).bind fun v5 =>
        (astI 0 h v4 v5 l1).bind fun v6 =>
        (getI 7 v6 l0 5).bind fun v7 =>
        (putV 7 v6 l0 5 (.int (v7 + (1 : Int32)))).bind fun v8 =>
        (getR 7 v8 l0 2).bind fun v9 =>
        (getI 7 v8 l0 3).bind fun v10 =>
        (getR 7 v8 l0 4).bind fun v11 =>
        (getI 7 v8 l0 5).bind fun v12 =>
        (x_X7_heardBy F v8 v9 v10 v11 v12).bind fun v13 =>
        some (v13, v8)
      else
        some ((-4 : Int32), h)
theorem o_X7_say {F : Nat} {h : pH} {l0 : Nat} {l1 : Int32} {res : (Int32 × pH)} (hx : x_X7_say F h l0 l1 = some res) : chk 7 h l0 = some () := by
  unfold x_X7_say at hx
  obtain ⟨_, e, _⟩ := ob hx
  exact e
theorem mc_X7_say (l : Launch) (G : pG) (F n : Nat) {h : pH} {l0 : Nat} {l1 : Int32} {res : (Int32 × pH)} (hx : x_X7_say F h l0 l1 = some res) : MC l yX7_say cX7_say 2 (some (FieldType.int)) (rmD 4 0 0) G [.ref l0, .int l1] n h (some (.int res.1)) n res.2 := by
  unfold x_X7_say at hx
  obtain ⟨_, _, hx⟩ := ob hx
  refine jj_entry RX7 rfl (by decide) (Nat.le_of_ble_eq_true rfl) (fun X _ _ C => ?_)
  show J X G (0, 0, some (.int res.1), n, res.2) (0, 0, n) h 0 [(0, .ref l0), (1, .int l1)] []
  refine jj_iload_n C 1 1 dX7_say_0 rfl rfl ?_
  refine jj_iconst (v := 3) C dX7_say_1 (by decide) ?_
  obtain ⟨v1, ev1, hx⟩ := ob hx
  refine jj_callS C [.int l1, .int 3] lk_X7_90 (mc_X7_isBelow X.2.1 G F n ev1) rfl rfl (Nat.le_of_ble_eq_true rfl) ⟨Nat.le_of_ble_eq_true rfl, Nat.le_of_ble_eq_true rfl⟩ ⟨Nat.zero_le _, Nat.zero_le _⟩ rfl dX7_say_2 rfl rfl ?_
  refine jj_if_ne (tgt := 11) C dX7_say_5 (by decide) (fun q5 => ?_) (fun q5 => ?_)
  · rw [if_neg q5] at hx
    refine jj_aload_n C 0 0 dX7_say_11 rfl rfl ?_
    obtain ⟨v2, ev2, hx⟩ := ob hx
    refine jj_getI C fd_X7_109 dX7_say_12 ev2 ?_
    refine jj_if_ne (tgt := 21) C dX7_say_15 (by decide) (fun q15 => ?_) (fun q15 => ?_)
    · rw [if_neg q15] at hx
      refine jj_aload_n C 0 0 dX7_say_21 rfl rfl ?_
      obtain ⟨v3, ev3, hx⟩ := ob hx
      refine jj_getI C fd_X7_125 dX7_say_22 ev3 ?_
      refine jj_bipush (v := 60) C dX7_say_25 (by decide) ?_
      refine jj_icmp_lt (tgt := 33) C dX7_say_27 (by decide) (fun q27 => ?_) (fun q27 => ?_)
      · rw [if_pos q27] at hx
        refine jj_aload_n C 0 0 dX7_say_33 rfl rfl ?_
        obtain ⟨v4, ev4, hx⟩ := ob hx
        refine jj_getR C fd_X7_32 dX7_say_34 ev4 ?_
        refine jj_aload_n C 0 0 dX7_say_37 rfl rfl ?_
        obtain ⟨v5, ev5, hx⟩ := ob hx
        refine jj_getI C fd_X7_125 dX7_say_38 ev5 ?_
        refine jj_iload_n C 1 1 dX7_say_41 rfl rfl ?_
        obtain ⟨v6, ev6, hx⟩ := ob hx
        refine jj_iast C dX7_say_42 ev6 ?_
        refine jj_aload_n C 0 0 dX7_say_43 rfl rfl ?_
        refine jj_dup C dX7_say_44 rfl ?_
        obtain ⟨v7, ev7, hx⟩ := ob hx
        refine jj_getI C fd_X7_125 dX7_say_45 ev7 ?_
        refine jj_iconst (v := 1) C dX7_say_48 (by decide) ?_
        refine jj_iadd C dX7_say_49 ?_
        obtain ⟨v8, ev8, hx⟩ := ob hx
        refine jj_put C fd_X7_125 rfl rfl dX7_say_50 ev8 ?_
        refine jj_aload_n C 0 0 dX7_say_53 rfl rfl ?_
        obtain ⟨v9, ev9, hx⟩ := ob hx
        refine jj_getR C fd_X7_28 dX7_say_54 ev9 ?_
        refine jj_aload_n C 0 0 dX7_say_57 rfl rfl ?_
        obtain ⟨v10, ev10, hx⟩ := ob hx
        refine jj_getI C fd_X7_109 dX7_say_58 ev10 ?_
        refine jj_aload_n C 0 0 dX7_say_61 rfl rfl ?_
        obtain ⟨v11, ev11, hx⟩ := ob hx
        refine jj_getR C fd_X7_32 dX7_say_62 ev11 ?_
        refine jj_aload_n C 0 0 dX7_say_65 rfl rfl ?_
        obtain ⟨v12, ev12, hx⟩ := ob hx
        refine jj_getI C fd_X7_125 dX7_say_66 ev12 ?_
        obtain ⟨v13, ev13, hx⟩ := ob hx
        refine jj_callS C [.ref v9, .int v10, .ref v11, .int v12] lk_X7_135 (mc_X7_heardBy X.2.1 G F n ev13) rfl rfl (Nat.le_of_ble_eq_true rfl) ⟨Nat.le_of_ble_eq_true rfl, Nat.le_of_ble_eq_true rfl⟩ ⟨Nat.zero_le _, Nat.zero_le _⟩ rfl dX7_say_69 rfl rfl ?_
        obtain rfl := Option.some.inj hx
        exact jj_iret C dX7_say_72 rfl
      · rw [if_neg q27] at hx
        refine jj_bipush (v := (-4)) C dX7_say_30 (by decide) ?_
        obtain rfl := Option.some.inj hx
        exact jj_iret C dX7_say_32 rfl
    · rw [if_pos q15] at hx
      refine jj_bipush (v := (-3)) C dX7_say_18 (by decide) ?_
      obtain rfl := Option.some.inj hx
      exact jj_iret C dX7_say_20 rfl
  · rw [if_pos q5] at hx
    refine jj_bipush (v := (-2)) C dX7_say_8 (by decide) ?_
    obtain rfl := Option.some.inj hx
    exact jj_iret C dX7_say_10 rfl
def x_X7_sheet (F : Nat) (h : pH) (l0 : Nat) (l1 : Int32) (l2 : Int32) (l3 : Int32) : Option (Int32 × pH) :=
  (chk 7 h l0).bind fun _ =>
  (putV 7 h l0 16 (.int 0)).bind fun v1 =>
  (x_X7_isSheet F v1 l1).bind fun v2 =>
  if v2 = 0 then
    some ((-1 : Int32), v1)
  else
    (x_X7_isBelow F v1 l2 3).bind fun v3 =>
    if v3 = 0 then
      some ((-2 : Int32), v1)
    else
      if l3 ≤ 60 then
        if 0 ≤ l3 then
          (getR 7 v1 l0 0).bind fun v4 =>
          (aldR 3 v1 v4 l1).bind fun v5 =>
          (x_X4_begin F v1 v5 l2 l3).bind fun v6 =>
          some ((1 : Int32), v6)
        else
          (x_X7_failWith F v1 l0 4).bind fun v7 =>
          some (v7.1, v7.2)
      else
        some ((-2 : Int32), v1)
theorem o_X7_sheet {F : Nat} {h : pH} {l0 : Nat} {l1 : Int32} {l2 : Int32} {l3 : Int32} {res : (Int32 × pH)} (hx : x_X7_sheet F h l0 l1 l2 l3 = some res) : chk 7 h l0 = some () := by
  unfold x_X7_sheet at hx
  obtain ⟨_, e, _⟩ := ob hx
  exact e
theorem mc_X7_sheet (l : Launch) (G : pG) (F n : Nat) {h : pH} {l0 : Nat} {l1 : Int32} {l2 : Int32} {l3 : Int32} {res : (Int32 × pH)} (hx : x_X7_sheet F h l0 l1 l2 l3 = some res) : MC l yX7_sheet cX7_sheet 4 (some (FieldType.int)) (rmD 2 0 0) G [.ref l0, .int l1, .int l2, .int l3] n h (some (.int res.1)) n res.2 := by
  unfold x_X7_sheet at hx
  obtain ⟨_, _, hx⟩ := ob hx
  refine jj_entry RX7 rfl (by decide) (Nat.le_of_ble_eq_true rfl) (fun X _ _ C => ?_)
  show J X G (0, 0, some (.int res.1), n, res.2) (0, 0, n) h 0 [(0, .ref l0), (1, .int l1), (2, .int l2), (3, .int l3)] []
  refine jj_aload_n C 0 0 dX7_sheet_0 rfl rfl ?_
  refine jj_iconst (v := 0) C dX7_sheet_1 (by decide) ?_
  obtain ⟨v1, ev1, hx⟩ := ob hx
  refine jj_put C fd_X7_82 rfl rfl dX7_sheet_2 ev1 ?_
  refine jj_iload_n C 1 1 dX7_sheet_5 rfl rfl ?_
  obtain ⟨v2, ev2, hx⟩ := ob hx
  refine jj_callS C [.int l1] lk_X7_86 (mc_X7_isSheet X.2.1 G F n ev2) rfl rfl (Nat.le_of_ble_eq_true rfl) ⟨Nat.le_of_ble_eq_true rfl, Nat.le_of_ble_eq_true rfl⟩ ⟨Nat.zero_le _, Nat.zero_le _⟩ rfl dX7_sheet_6 rfl rfl ?_
  refine jj_if_ne (tgt := 14) C dX7_sheet_9 (by decide) (fun q9 => ?_) (fun q9 => ?_)
  · rw [if_neg q9] at hx
    refine jj_iload_n C 2 2 dX7_sheet_14 rfl rfl ?_
    refine jj_iconst (v := 3) C dX7_sheet_15 (by decide) ?_
    obtain ⟨v3, ev3, hx⟩ := ob hx
    refine jj_callS C [.int l2, .int 3] lk_X7_90 (mc_X7_isBelow X.2.1 G F n ev3) rfl rfl (Nat.le_of_ble_eq_true rfl) ⟨Nat.le_of_ble_eq_true rfl, Nat.le_of_ble_eq_true rfl⟩ ⟨Nat.zero_le _, Nat.zero_le _⟩ rfl dX7_sheet_16 rfl rfl ?_
    refine jj_if_eq (tgt := 28) C dX7_sheet_19 (by decide) (fun q19 => ?_) (fun q19 => ?_)
    · rw [if_pos q19] at hx
      refine jj_bipush (v := (-2)) C dX7_sheet_28 (by decide) ?_
      obtain rfl := Option.some.inj hx
      exact jj_iret C dX7_sheet_30 rfl
    · rw [if_neg q19] at hx
      refine jj_iload_n C 3 3 dX7_sheet_22 rfl rfl ?_
      refine jj_bipush (v := 60) C dX7_sheet_23 (by decide) ?_
      refine jj_icmp_le (tgt := 31) C dX7_sheet_25 (by decide) (fun q25 => ?_) (fun q25 => ?_)
      · rw [if_pos q25] at hx
        refine jj_iload_n C 3 3 dX7_sheet_31 rfl rfl ?_
        refine jj_if_ge (tgt := 41) C dX7_sheet_32 (by decide) (fun q32 => ?_) (fun q32 => ?_)
        · rw [if_pos q32] at hx
          refine jj_aload_n C 0 0 dX7_sheet_41 rfl rfl ?_
          obtain ⟨v4, ev4, hx⟩ := ob hx
          refine jj_getR C fd_X7_13 dX7_sheet_42 ev4 ?_
          refine jj_iload_n C 1 1 dX7_sheet_45 rfl rfl ?_
          obtain ⟨v5, ev5, hx⟩ := ob hx
          refine jj_aald C 3 rfl dX7_sheet_46 ev5 ?_
          refine jj_iload_n C 2 2 dX7_sheet_47 rfl rfl ?_
          refine jj_iload_n C 3 3 dX7_sheet_48 rfl rfl ?_
          obtain ⟨v6, ev6, hx⟩ := ob hx
          refine jj_callV C [.int l2, .int l3] lk_X7_202 (mc_X4_begin X.2.1 G F n ev6) (o_X4_begin ev6) rfl rfl (Nat.le_of_ble_eq_true rfl) ⟨Nat.le_of_ble_eq_true rfl, Nat.le_of_ble_eq_true rfl⟩ ⟨Nat.zero_le _, Nat.zero_le _⟩ rfl dX7_sheet_49 rfl rfl ?_
          refine jj_iconst (v := 1) C dX7_sheet_52 (by decide) ?_
          obtain rfl := Option.some.inj hx
          exact jj_iret C dX7_sheet_53 rfl
        · rw [if_neg q32] at hx
          refine jj_aload_n C 0 0 dX7_sheet_35 rfl rfl ?_
          refine jj_iconst (v := 4) C dX7_sheet_36 (by decide) ?_
          obtain ⟨v7, ev7, hx⟩ := ob hx
          refine jj_callV C [.int 4] lk_X7_98 (mc_X7_failWith X.2.1 G F n ev7) (o_X7_failWith ev7) rfl rfl (Nat.le_of_ble_eq_true rfl) ⟨Nat.le_of_ble_eq_true rfl, Nat.le_of_ble_eq_true rfl⟩ ⟨Nat.zero_le _, Nat.zero_le _⟩ rfl dX7_sheet_37 rfl rfl ?_
          obtain rfl := Option.some.inj hx
          exact jj_iret C dX7_sheet_40 rfl
      · rw [if_neg q25] at hx
        refine jj_bipush (v := (-2)) C dX7_sheet_28 (by decide) ?_
        obtain rfl := Option.some.inj hx
        exact jj_iret C dX7_sheet_30 rfl
  · rw [if_pos q9] at hx
    refine jj_iconst (v := (-1)) C dX7_sheet_12 (by decide) ?_
    obtain rfl := Option.some.inj hx
    exact jj_iret C dX7_sheet_13 rfl
def s_X7_standsInEachForm_10 (F : Nat) (k2 : pH → Int32 → Option (Int32 × pH)) (l0 : Nat) (l1 : Nat) (l2 : Nat) (l3 : Int32) (k10 : pH → Int32 → Option (Int32 × pH)) (h : pH) (l4 : Int32) : Option (Int32 × pH) :=
  (getI 6 h l2 1).bind fun v1 =>
  if v1 ≤ l4 then
    (getR 7 h l0 10).bind fun v2 =>
    (getI 6 h l2 1).bind fun v3 =>
    (x_X6_standsIn F h l1 v2 v3).bind fun v4 =>
    if v4 = 0 then
      some ((0 : Int32), h)
    else
      k2 h (l3 + 1)
  else
    (getR 7 h l0 10).bind fun v5 =>
    (x_X6_letterOf F h l2 l3 l4).bind fun v6 =>
    (astI 0 h v5 l4 v6).bind fun v7 =>
    k10 v7 (l4 + 1)
def x_X7_standsInEachForm_10 (F : Nat) (k2 : pH → Int32 → Option (Int32 × pH)) (l0 : Nat) (l1 : Nat) (l2 : Nat) (l3 : Int32) : Nat → pH → Int32 → Option (Int32 × pH)
  | 0, _, _ => none
  | m + 1, h, l4 => s_X7_standsInEachForm_10 F k2 l0 l1 l2 l3 (x_X7_standsInEachForm_10 F k2 l0 l1 l2 l3 m) h l4
theorem ts_X7_standsInEachForm_10 {X : pX} {G : pG} {n : Nat} {res : (Int32 × pH)} (C : Cx X G RX7 cX7_standsInEachForm 5 (rmD 4 0 0) n (some (FieldType.boolean))) (F : Nat) {l0 : Nat} {l1 : Nat} {l2 : Nat} {l3 : Int32} {k2 : pH → Int32 → Option (Int32 × pH)} (hk2 : ∀ (h : pH) (l3 : Int32), k2 h l3 = some res → J X G (0, 0, some (.int res.1), n, res.2) (0, 0, n) h 2 [(0, .ref l0), (1, .ref l1), (2, .ref l2), (3, .int l3)] []) {k10 : pH → Int32 → Option (Int32 × pH)} (hk10 : ∀ (h : pH) (l4 : Int32), k10 h l4 = some res → J X G (0, 0, some (.int res.1), n, res.2) (0, 0, n) h 10 [(0, .ref l0), (1, .ref l1), (2, .ref l2), (3, .int l3), (4, .int l4)] []) {h : pH} {l4 : Int32} (hx : s_X7_standsInEachForm_10 F k2 l0 l1 l2 l3 k10 h l4 = some res) : J X G (0, 0, some (.int res.1), n, res.2) (0, 0, n) h 10 [(0, .ref l0), (1, .ref l1), (2, .ref l2), (3, .int l3), (4, .int l4)] [] := by
  unfold s_X7_standsInEachForm_10 at hx
  refine jj_iload C 4 4 dX7_standsInEachForm_10 rfl ?_
  refine jj_aload_n C 2 2 dX7_standsInEachForm_12 rfl rfl ?_
  obtain ⟨v1, ev1, hx⟩ := ob hx
  refine jj_getI C fd_X7_118 dX7_standsInEachForm_13 ev1 ?_
  refine jj_icmp_ge (tgt := 39) C dX7_standsInEachForm_16 (by decide) (fun q16 => ?_) (fun q16 => ?_)
  · rw [if_pos q16] at hx
    refine jj_aload_n C 1 1 dX7_standsInEachForm_39 rfl rfl ?_
    refine jj_aload_n C 0 0 dX7_standsInEachForm_40 rfl rfl ?_
    obtain ⟨v2, ev2, hx⟩ := ob hx
    refine jj_getR C fd_X7_52 dX7_standsInEachForm_41 ev2 ?_
    refine jj_aload_n C 2 2 dX7_standsInEachForm_44 rfl rfl ?_
    obtain ⟨v3, ev3, hx⟩ := ob hx
    refine jj_getI C fd_X7_118 dX7_standsInEachForm_45 ev3 ?_
    obtain ⟨v4, ev4, hx⟩ := ob hx
    refine jj_callV C [.ref v2, .int v3] lk_X7_278 (mc_X6_standsIn X.2.1 G F n ev4) (o_X6_standsIn ev4) rfl rfl (Nat.le_of_ble_eq_true rfl) ⟨Nat.le_of_ble_eq_true rfl, Nat.le_of_ble_eq_true rfl⟩ ⟨Nat.zero_le _, Nat.zero_le _⟩ rfl dX7_standsInEachForm_48 rfl rfl ?_
    refine jj_if_ne (tgt := 56) C dX7_standsInEachForm_51 (by decide) (fun q51 => ?_) (fun q51 => ?_)
    · rw [if_neg q51] at hx
      refine jj_iinc (v := l3 + 1) C 3 3 dX7_standsInEachForm_56 rfl rfl rfl (by decide) ?_
      refine jj_goto (tgt := 2) C dX7_standsInEachForm_59 (by decide) ?_
      refine jj_sub [1, 2, 3, 0] rfl ?_
      exact hk2 _ _ hx
    · rw [if_pos q51] at hx
      refine jj_iconst (v := 0) C dX7_standsInEachForm_54 (by decide) ?_
      obtain rfl := Option.some.inj hx
      exact jj_zret C (Or.inl rfl) dX7_standsInEachForm_55 rfl
  · rw [if_neg q16] at hx
    refine jj_aload_n C 0 0 dX7_standsInEachForm_19 rfl rfl ?_
    obtain ⟨v5, ev5, hx⟩ := ob hx
    refine jj_getR C fd_X7_52 dX7_standsInEachForm_20 ev5 ?_
    refine jj_iload C 4 4 dX7_standsInEachForm_23 rfl ?_
    refine jj_aload_n C 2 2 dX7_standsInEachForm_25 rfl rfl ?_
    refine jj_iload_n C 3 3 dX7_standsInEachForm_26 rfl rfl ?_
    refine jj_iload C 4 4 dX7_standsInEachForm_27 rfl ?_
    obtain ⟨v6, ev6, hx⟩ := ob hx
    refine jj_callV C [.int l3, .int l4] lk_X7_275 (mc_X6_letterOf X.2.1 G F n ev6) (o_X6_letterOf ev6) rfl rfl (Nat.le_of_ble_eq_true rfl) ⟨Nat.le_of_ble_eq_true rfl, Nat.le_of_ble_eq_true rfl⟩ ⟨Nat.zero_le _, Nat.zero_le _⟩ rfl dX7_standsInEachForm_29 rfl rfl ?_
    obtain ⟨v7, ev7, hx⟩ := ob hx
    refine jj_iast C dX7_standsInEachForm_32 ev7 ?_
    refine jj_iinc (v := l4 + 1) C 4 4 dX7_standsInEachForm_33 rfl rfl rfl (by decide) ?_
    refine jj_goto (tgt := 10) C dX7_standsInEachForm_36 (by decide) ?_
    refine jj_sub [1, 2, 3, 4, 0] rfl ?_
    exact hk10 _ _ hx
theorem t_X7_standsInEachForm_10 {X : pX} {G : pG} {n : Nat} {res : (Int32 × pH)} (C : Cx X G RX7 cX7_standsInEachForm 5 (rmD 4 0 0) n (some (FieldType.boolean))) (F : Nat) {l0 : Nat} {l1 : Nat} {l2 : Nat} {l3 : Int32} {k2 : pH → Int32 → Option (Int32 × pH)} (hk2 : ∀ (h : pH) (l3 : Int32), k2 h l3 = some res → J X G (0, 0, some (.int res.1), n, res.2) (0, 0, n) h 2 [(0, .ref l0), (1, .ref l1), (2, .ref l2), (3, .int l3)] []) : ∀ (m : Nat) (h : pH) (l4 : Int32), x_X7_standsInEachForm_10 F k2 l0 l1 l2 l3 m h l4 = some res → J X G (0, 0, some (.int res.1), n, res.2) (0, 0, n) h 10 [(0, .ref l0), (1, .ref l1), (2, .ref l2), (3, .int l3), (4, .int l4)] [] := by
  intro m
  induction m with
  | zero => intro h l4 hx; exact nomatch (show (none : Option (Int32 × pH)) = some res from hx)
  | succ m ih => intro h l4 hx; exact ts_X7_standsInEachForm_10 C F hk2 ih hx
def s_X7_standsInEachForm_2 (F : Nat)  (l0 : Nat) (l1 : Nat) (l2 : Nat) (k2 : pH → Int32 → Option (Int32 × pH)) (h : pH) (l3 : Int32) : Option (Int32 × pH) :=
  if 2 ≤ l3 then
    some ((1 : Int32), h)
  else
    x_X7_standsInEachForm_10 F k2 l0 l1 l2 l3 F h 0
def x_X7_standsInEachForm_2 (F : Nat)  (l0 : Nat) (l1 : Nat) (l2 : Nat) : Nat → pH → Int32 → Option (Int32 × pH)
  | 0, _, _ => none
  | m + 1, h, l3 => s_X7_standsInEachForm_2 F l0 l1 l2 (x_X7_standsInEachForm_2 F l0 l1 l2 m) h l3
theorem ts_X7_standsInEachForm_2 {X : pX} {G : pG} {n : Nat} {res : (Int32 × pH)} (C : Cx X G RX7 cX7_standsInEachForm 5 (rmD 4 0 0) n (some (FieldType.boolean))) (F : Nat) {l0 : Nat} {l1 : Nat} {l2 : Nat} {k2 : pH → Int32 → Option (Int32 × pH)} (hk2 : ∀ (h : pH) (l3 : Int32), k2 h l3 = some res → J X G (0, 0, some (.int res.1), n, res.2) (0, 0, n) h 2 [(0, .ref l0), (1, .ref l1), (2, .ref l2), (3, .int l3)] []) {h : pH} {l3 : Int32} (hx : s_X7_standsInEachForm_2 F l0 l1 l2 k2 h l3 = some res) : J X G (0, 0, some (.int res.1), n, res.2) (0, 0, n) h 2 [(0, .ref l0), (1, .ref l1), (2, .ref l2), (3, .int l3)] [] := by
  unfold s_X7_standsInEachForm_2 at hx
  refine jj_iload_n C 3 3 dX7_standsInEachForm_2 rfl rfl ?_
  refine jj_iconst (v := 2) C dX7_standsInEachForm_3 (by decide) ?_
  refine jj_icmp_ge (tgt := 62) C dX7_standsInEachForm_4 (by decide) (fun q4 => ?_) (fun q4 => ?_)
  · rw [if_pos q4] at hx
    refine jj_iconst (v := 1) C dX7_standsInEachForm_62 (by decide) ?_
    obtain rfl := Option.some.inj hx
    exact jj_zret C (Or.inr rfl) dX7_standsInEachForm_63 rfl
  · rw [if_neg q4] at hx
    refine jj_iconst (v := 0) C dX7_standsInEachForm_7 (by decide) ?_
    refine jj_istore C 4 dX7_standsInEachForm_8 rfl (by decide) ?_
    refine jj_sub [1, 2, 3, 4, 0] rfl ?_
    exact t_X7_standsInEachForm_10 C F hk2 F _ _ hx
theorem t_X7_standsInEachForm_2 {X : pX} {G : pG} {n : Nat} {res : (Int32 × pH)} (C : Cx X G RX7 cX7_standsInEachForm 5 (rmD 4 0 0) n (some (FieldType.boolean))) (F : Nat) {l0 : Nat} {l1 : Nat} {l2 : Nat} : ∀ (m : Nat) (h : pH) (l3 : Int32), x_X7_standsInEachForm_2 F l0 l1 l2 m h l3 = some res → J X G (0, 0, some (.int res.1), n, res.2) (0, 0, n) h 2 [(0, .ref l0), (1, .ref l1), (2, .ref l2), (3, .int l3)] [] := by
  intro m
  induction m with
  | zero => intro h l3 hx; exact nomatch (show (none : Option (Int32 × pH)) = some res from hx)
  | succ m ih => intro h l3 hx; exact ts_X7_standsInEachForm_2 C F  ih hx
def x_X7_standsInEachForm (F : Nat) (h : pH) (l0 : Nat) (l1 : Nat) (l2 : Nat) : Option (Int32 × pH) :=
  (chk 7 h l0).bind fun _ =>
  x_X7_standsInEachForm_2 F l0 l1 l2 F h 0
theorem o_X7_standsInEachForm {F : Nat} {h : pH} {l0 : Nat} {l1 : Nat} {l2 : Nat} {res : (Int32 × pH)} (hx : x_X7_standsInEachForm F h l0 l1 l2 = some res) : chk 7 h l0 = some () := by
  unfold x_X7_standsInEachForm at hx
  obtain ⟨_, e, _⟩ := ob hx
  exact e
theorem mc_X7_standsInEachForm (l : Launch) (G : pG) (F n : Nat) {h : pH} {l0 : Nat} {l1 : Nat} {l2 : Nat} {res : (Int32 × pH)} (hx : x_X7_standsInEachForm F h l0 l1 l2 = some res) : MC l yX7_standsInEachForm cX7_standsInEachForm 5 (some (FieldType.boolean)) (rmD 4 0 0) G [.ref l0, .ref l1, .ref l2] n h (some (.int res.1)) n res.2 := by
  unfold x_X7_standsInEachForm at hx
  obtain ⟨_, _, hx⟩ := ob hx
  refine jj_entry RX7 rfl (by decide) (Nat.le_of_ble_eq_true rfl) (fun X _ _ C => ?_)
  show J X G (0, 0, some (.int res.1), n, res.2) (0, 0, n) h 0 [(0, .ref l0), (1, .ref l1), (2, .ref l2)] []
  refine jj_iconst (v := 0) C dX7_standsInEachForm_0 (by decide) ?_
  refine jj_istore_n C 3 dX7_standsInEachForm_1 rfl rfl (by decide) ?_
  refine jj_sub [1, 2, 3, 0] rfl ?_
  exact t_X7_standsInEachForm_2 C F F _ _ hx
def x_X7_spare_62 (F : Nat) (k14 : pH → Int32 → Int32 → Option (Int32 × pH)) (k24 : pH → Int32 → Int32 → Option (Int32 × pH)) (h : pH) (l0 : Nat) (l1 : Int32) (l2 : Int32) (l3 : Int32) : Option (Int32 × pH) :=
  k24 h l1 (l3 + 1)
theorem t_X7_spare_62 {X : pX} {G : pG} {n : Nat} {res : (Int32 × pH)} (C : Cx X G RX7 cX7_spare 4 (rmD 5 0 0) n (some (FieldType.int))) (F : Nat) {h : pH} {l0 : Nat} {l1 : Int32} {l2 : Int32} {l3 : Int32} {k14 : pH → Int32 → Int32 → Option (Int32 × pH)} (hk14 : ∀ (h : pH) (l1 : Int32) (l2 : Int32), k14 h l1 l2 = some res → J X G (0, 0, some (.int res.1), n, res.2) (0, 0, n) h 14 [(0, .ref l0), (1, .int l1), (2, .int l2)] []) {k24 : pH → Int32 → Int32 → Option (Int32 × pH)} (hk24 : ∀ (h : pH) (l1 : Int32) (l3 : Int32), k24 h l1 l3 = some res → J X G (0, 0, some (.int res.1), n, res.2) (0, 0, n) h 24 [(0, .ref l0), (1, .int l1), (2, .int l2), (3, .int l3)] []) (hx : x_X7_spare_62 F k14 k24 h l0 l1 l2 l3 = some res) : J X G (0, 0, some (.int res.1), n, res.2) (0, 0, n) h 62 [(0, .ref l0), (1, .int l1), (2, .int l2), (3, .int l3)] [] := by
  unfold x_X7_spare_62 at hx
  refine jj_iinc (v := l3 + 1) C 3 3 dX7_spare_62 rfl rfl rfl (by decide) ?_
  refine jj_goto (tgt := 24) C dX7_spare_65 (by decide) ?_
  refine jj_sub [1, 2, 3, 0] rfl ?_
  exact hk24 _ _ _ hx
def s_X7_spare_24 (F : Nat) (k14 : pH → Int32 → Int32 → Option (Int32 × pH)) (l0 : Nat) (l2 : Int32) (k24 : pH → Int32 → Int32 → Option (Int32 × pH)) (h : pH) (l1 : Int32) (l3 : Int32) : Option (Int32 × pH) :=
  (getI 7 h l0 3).bind fun v1 =>
  if v1 ≤ l3 then
    k14 h l1 (l2 + 1)
  else
    if l3 = l2 then
      x_X7_spare_62 F k14 k24 h l0 l1 l2 l3
    else
      (getR 7 h l0 2).bind fun v2 =>
      (aldR 4 h v2 l2).bind fun v3 =>
      (getR 7 h l0 2).bind fun v4 =>
      (aldR 4 h v4 l3).bind fun v5 =>
      (x_X7_standsInEachForm F h l0 v3 v5).bind fun v6 =>
      if v6.1 = 0 then
        x_X7_spare_62 F k14 k24 v6.2 l0 l1 l2 l3
      else
        x_X7_spare_62 F k14 k24 v6.2 l0 (l1 ||| ((1 : Int32) <<< (l2 &&& 31))) l2 l3
def x_X7_spare_24 (F : Nat) (k14 : pH → Int32 → Int32 → Option (Int32 × pH)) (l0 : Nat) (l2 : Int32) : Nat → pH → Int32 → Int32 → Option (Int32 × pH)
  | 0, _, _, _ => none
  | m + 1, h, l1, l3 => s_X7_spare_24 F k14 l0 l2 (x_X7_spare_24 F k14 l0 l2 m) h l1 l3
theorem ts_X7_spare_24 {X : pX} {G : pG} {n : Nat} {res : (Int32 × pH)} (C : Cx X G RX7 cX7_spare 4 (rmD 5 0 0) n (some (FieldType.int))) (F : Nat) {l0 : Nat} {l2 : Int32} {k14 : pH → Int32 → Int32 → Option (Int32 × pH)} (hk14 : ∀ (h : pH) (l1 : Int32) (l2 : Int32), k14 h l1 l2 = some res → J X G (0, 0, some (.int res.1), n, res.2) (0, 0, n) h 14 [(0, .ref l0), (1, .int l1), (2, .int l2)] []) {k24 : pH → Int32 → Int32 → Option (Int32 × pH)} (hk24 : ∀ (h : pH) (l1 : Int32) (l3 : Int32), k24 h l1 l3 = some res → J X G (0, 0, some (.int res.1), n, res.2) (0, 0, n) h 24 [(0, .ref l0), (1, .int l1), (2, .int l2), (3, .int l3)] []) {h : pH} {l1 : Int32} {l3 : Int32} (hx : s_X7_spare_24 F k14 l0 l2 k24 h l1 l3 = some res) : J X G (0, 0, some (.int res.1), n, res.2) (0, 0, n) h 24 [(0, .ref l0), (1, .int l1), (2, .int l2), (3, .int l3)] [] := by
  unfold s_X7_spare_24 at hx
  refine jj_iload_n C 3 3 dX7_spare_24 rfl rfl ?_
  refine jj_aload_n C 0 0 dX7_spare_25 rfl rfl ?_
  obtain ⟨v1, ev1, hx⟩ := ob hx
  refine jj_getI C fd_X7_109 dX7_spare_26 ev1 ?_
  refine jj_icmp_ge (tgt := 68) C dX7_spare_29 (by decide) (fun q29 => ?_) (fun q29 => ?_)
  · rw [if_pos q29] at hx
    refine jj_iinc (v := l2 + 1) C 2 2 dX7_spare_68 rfl rfl rfl (by decide) ?_
    refine jj_goto (tgt := 14) C dX7_spare_71 (by decide) ?_
    refine jj_sub [1, 2, 0] rfl ?_
    exact hk14 _ _ _ hx
  · rw [if_neg q29] at hx
    refine jj_iload_n C 3 3 dX7_spare_32 rfl rfl ?_
    refine jj_iload_n C 2 2 dX7_spare_33 rfl rfl ?_
    refine jj_icmp_eq (tgt := 62) C dX7_spare_34 (by decide) (fun q34 => ?_) (fun q34 => ?_)
    · rw [if_pos q34] at hx
      exact t_X7_spare_62 C F hk14 hk24 hx
    · rw [if_neg q34] at hx
      refine jj_aload_n C 0 0 dX7_spare_37 rfl rfl ?_
      refine jj_aload_n C 0 0 dX7_spare_38 rfl rfl ?_
      obtain ⟨v2, ev2, hx⟩ := ob hx
      refine jj_getR C fd_X7_28 dX7_spare_39 ev2 ?_
      refine jj_iload_n C 2 2 dX7_spare_42 rfl rfl ?_
      obtain ⟨v3, ev3, hx⟩ := ob hx
      refine jj_aald C 4 rfl dX7_spare_43 ev3 ?_
      refine jj_aload_n C 0 0 dX7_spare_44 rfl rfl ?_
      obtain ⟨v4, ev4, hx⟩ := ob hx
      refine jj_getR C fd_X7_28 dX7_spare_45 ev4 ?_
      refine jj_iload_n C 3 3 dX7_spare_48 rfl rfl ?_
      obtain ⟨v5, ev5, hx⟩ := ob hx
      refine jj_aald C 4 rfl dX7_spare_49 ev5 ?_
      obtain ⟨v6, ev6, hx⟩ := ob hx
      refine jj_callV C [.ref v3, .ref v5] lk_X7_178 (mc_X7_standsInEachForm X.2.1 G F n ev6) (o_X7_standsInEachForm ev6) rfl rfl (Nat.le_of_ble_eq_true rfl) ⟨Nat.le_of_ble_eq_true rfl, Nat.le_of_ble_eq_true rfl⟩ ⟨Nat.zero_le _, Nat.zero_le _⟩ rfl dX7_spare_50 rfl rfl ?_
      refine jj_if_eq (tgt := 62) C dX7_spare_53 (by decide) (fun q53 => ?_) (fun q53 => ?_)
      · rw [if_pos q53] at hx
        exact t_X7_spare_62 C F hk14 hk24 hx
      · rw [if_neg q53] at hx
        refine jj_iload_n C 1 1 dX7_spare_56 rfl rfl ?_
        refine jj_iconst (v := 1) C dX7_spare_57 (by decide) ?_
        refine jj_iload_n C 2 2 dX7_spare_58 rfl rfl ?_
        refine jj_ishl C dX7_spare_59 ?_
        refine jj_ior C dX7_spare_60 ?_
        refine jj_istore_n C 1 dX7_spare_61 rfl rfl (by decide) ?_
        refine jj_sub [1, 0, 2, 3] rfl ?_
        exact t_X7_spare_62 C F hk14 hk24 hx
theorem t_X7_spare_24 {X : pX} {G : pG} {n : Nat} {res : (Int32 × pH)} (C : Cx X G RX7 cX7_spare 4 (rmD 5 0 0) n (some (FieldType.int))) (F : Nat) {l0 : Nat} {l2 : Int32} {k14 : pH → Int32 → Int32 → Option (Int32 × pH)} (hk14 : ∀ (h : pH) (l1 : Int32) (l2 : Int32), k14 h l1 l2 = some res → J X G (0, 0, some (.int res.1), n, res.2) (0, 0, n) h 14 [(0, .ref l0), (1, .int l1), (2, .int l2)] []) : ∀ (m : Nat) (h : pH) (l1 : Int32) (l3 : Int32), x_X7_spare_24 F k14 l0 l2 m h l1 l3 = some res → J X G (0, 0, some (.int res.1), n, res.2) (0, 0, n) h 24 [(0, .ref l0), (1, .int l1), (2, .int l2), (3, .int l3)] [] := by
  intro m
  induction m with
  | zero => intro h l1 l3 hx; exact nomatch (show (none : Option (Int32 × pH)) = some res from hx)
  | succ m ih => intro h l1 l3 hx; exact ts_X7_spare_24 C F hk14 ih hx
def s_X7_spare_14 (F : Nat)  (l0 : Nat) (k14 : pH → Int32 → Int32 → Option (Int32 × pH)) (h : pH) (l1 : Int32) (l2 : Int32) : Option (Int32 × pH) :=
  (getI 7 h l0 3).bind fun v1 =>
  if v1 ≤ l2 then
    some (l1, h)
  else
    x_X7_spare_24 F k14 l0 l2 F h l1 0
def x_X7_spare_14 (F : Nat)  (l0 : Nat) : Nat → pH → Int32 → Int32 → Option (Int32 × pH)
  | 0, _, _, _ => none
  | m + 1, h, l1, l2 => s_X7_spare_14 F l0 (x_X7_spare_14 F l0 m) h l1 l2
theorem ts_X7_spare_14 {X : pX} {G : pG} {n : Nat} {res : (Int32 × pH)} (C : Cx X G RX7 cX7_spare 4 (rmD 5 0 0) n (some (FieldType.int))) (F : Nat) {l0 : Nat} {k14 : pH → Int32 → Int32 → Option (Int32 × pH)} (hk14 : ∀ (h : pH) (l1 : Int32) (l2 : Int32), k14 h l1 l2 = some res → J X G (0, 0, some (.int res.1), n, res.2) (0, 0, n) h 14 [(0, .ref l0), (1, .int l1), (2, .int l2)] []) {h : pH} {l1 : Int32} {l2 : Int32} (hx : s_X7_spare_14 F l0 k14 h l1 l2 = some res) : J X G (0, 0, some (.int res.1), n, res.2) (0, 0, n) h 14 [(0, .ref l0), (1, .int l1), (2, .int l2)] [] := by
  unfold s_X7_spare_14 at hx
  refine jj_iload_n C 2 2 dX7_spare_14 rfl rfl ?_
  refine jj_aload_n C 0 0 dX7_spare_15 rfl rfl ?_
  obtain ⟨v1, ev1, hx⟩ := ob hx
  refine jj_getI C fd_X7_109 dX7_spare_16 ev1 ?_
  refine jj_icmp_ge (tgt := 74) C dX7_spare_19 (by decide) (fun q19 => ?_) (fun q19 => ?_)
  · rw [if_pos q19] at hx
    refine jj_iload_n C 1 1 dX7_spare_74 rfl rfl ?_
    obtain rfl := Option.some.inj hx
    exact jj_iret C dX7_spare_75 rfl
  · rw [if_neg q19] at hx
    refine jj_iconst (v := 0) C dX7_spare_22 (by decide) ?_
    refine jj_istore_n C 3 dX7_spare_23 rfl rfl (by decide) ?_
    refine jj_sub [1, 2, 3, 0] rfl ?_
    exact t_X7_spare_24 C F hk14 F _ _ _ hx
theorem t_X7_spare_14 {X : pX} {G : pG} {n : Nat} {res : (Int32 × pH)} (C : Cx X G RX7 cX7_spare 4 (rmD 5 0 0) n (some (FieldType.int))) (F : Nat) {l0 : Nat} : ∀ (m : Nat) (h : pH) (l1 : Int32) (l2 : Int32), x_X7_spare_14 F l0 m h l1 l2 = some res → J X G (0, 0, some (.int res.1), n, res.2) (0, 0, n) h 14 [(0, .ref l0), (1, .int l1), (2, .int l2)] [] := by
  intro m
  induction m with
  | zero => intro h l1 l2 hx; exact nomatch (show (none : Option (Int32 × pH)) = some res from hx)
  | succ m ih => intro h l1 l2 hx; exact ts_X7_spare_14 C F  ih hx
def x_X7_spare (F : Nat) (h : pH) (l0 : Nat) : Option (Int32 × pH) :=
  (chk 7 h l0).bind fun _ =>
  (getI 7 h l0 3).bind fun v1 =>
  if v1 = 0 then
    some ((-3 : Int32), h)
  else
    x_X7_spare_14 F l0 F h 0 0
theorem o_X7_spare {F : Nat} {h : pH} {l0 : Nat} {res : (Int32 × pH)} (hx : x_X7_spare F h l0 = some res) : chk 7 h l0 = some () := by
  unfold x_X7_spare at hx
  obtain ⟨_, e, _⟩ := ob hx
  exact e
theorem mc_X7_spare (l : Launch) (G : pG) (F n : Nat) {h : pH} {l0 : Nat} {res : (Int32 × pH)} (hx : x_X7_spare F h l0 = some res) : MC l yX7_spare cX7_spare 4 (some (FieldType.int)) (rmD 5 0 0) G [.ref l0] n h (some (.int res.1)) n res.2 := by
  unfold x_X7_spare at hx
  obtain ⟨_, _, hx⟩ := ob hx
  refine jj_entry RX7 rfl (by decide) (Nat.le_of_ble_eq_true rfl) (fun X _ _ C => ?_)
  show J X G (0, 0, some (.int res.1), n, res.2) (0, 0, n) h 0 [(0, .ref l0)] []
  refine jj_aload_n C 0 0 dX7_spare_0 rfl rfl ?_
  obtain ⟨v1, ev1, hx⟩ := ob hx
  refine jj_getI C fd_X7_109 dX7_spare_1 ev1 ?_
  refine jj_if_ne (tgt := 10) C dX7_spare_4 (by decide) (fun q4 => ?_) (fun q4 => ?_)
  · rw [if_neg q4] at hx
    refine jj_iconst (v := 0) C dX7_spare_10 (by decide) ?_
    refine jj_istore_n C 1 dX7_spare_11 rfl rfl (by decide) ?_
    refine jj_iconst (v := 0) C dX7_spare_12 (by decide) ?_
    refine jj_istore_n C 2 dX7_spare_13 rfl rfl (by decide) ?_
    refine jj_sub [2, 1, 0] rfl ?_
    exact t_X7_spare_14 C F F _ _ _ hx
  · rw [if_pos q4] at hx
    refine jj_bipush (v := (-3)) C dX7_spare_7 (by decide) ?_
    obtain rfl := Option.some.inj hx
    exact jj_iret C dX7_spare_9 rfl
def x_X7_spell (F : Nat) (h : pH) (l0 : Nat) (l1 : Int32) (l2 : Int32) (l3 : Int32) : Option (Int32 × pH) :=
  (chk 7 h l0).bind fun _ =>
  (x_X7_isWord F h l0 l1).bind fun v1 =>
  if v1 = 0 then
    some ((-1 : Int32), h)
  else
    (getR 7 h l0 2).bind fun v2 =>
    (aldR 4 h v2 l1).bind fun v3 =>
    (getI 6 h v3 1).bind fun v4 =>
    (x_X7_isBelow F h l2 v4).bind fun v5 =>
    if v5 = 0 then
      some ((-1 : Int32), h)
    else
      (x_X7_isBelow F h l3 3).bind fun v6 =>
      if v6 = 0 then
        some ((-2 : Int32), h)
      else
        (getR 7 h l0 2).bind fun v7 =>
        (aldR 4 h v7 l1).bind fun v8 =>
        (getR 6 h v8 0).bind fun v9 =>
        (aldI 0 h v9 l2).bind fun v10 =>
        (getR 7 h l0 2).bind fun v11 =>
        (aldR 4 h v11 l1).bind fun v12 =>
        (getR 6 h v12 0).bind fun v13 =>
        (astI 0 h v13 l2 l3).bind fun v14 =>
        (putZ 7 v14 l0 14 (1 : Int32)).bind fun v15 =>
        some (v10, v15)
theorem o_X7_spell {F : Nat} {h : pH} {l0 : Nat} {l1 : Int32} {l2 : Int32} {l3 : Int32} {res : (Int32 × pH)} (hx : x_X7_spell F h l0 l1 l2 l3 = some res) : chk 7 h l0 = some () := by
  unfold x_X7_spell at hx
  obtain ⟨_, e, _⟩ := ob hx
  exact e
theorem mc_X7_spell (l : Launch) (G : pG) (F n : Nat) {h : pH} {l0 : Nat} {l1 : Int32} {l2 : Int32} {l3 : Int32} {res : (Int32 × pH)} (hx : x_X7_spell F h l0 l1 l2 l3 = some res) : MC l yX7_spell cX7_spell 5 (some (FieldType.int)) (rmD 2 0 0) G [.ref l0, .int l1, .int l2, .int l3] n h (some (.int res.1)) n res.2 := by
  unfold x_X7_spell at hx
  obtain ⟨_, _, hx⟩ := ob hx
  refine jj_entry RX7 rfl (by decide) (Nat.le_of_ble_eq_true rfl) (fun X _ _ C => ?_)
  show J X G (0, 0, some (.int res.1), n, res.2) (0, 0, n) h 0 [(0, .ref l0), (1, .int l1), (2, .int l2), (3, .int l3)] []
  refine jj_aload_n C 0 0 dX7_spell_0 rfl rfl ?_
  refine jj_iload_n C 1 1 dX7_spell_1 rfl rfl ?_
  obtain ⟨v1, ev1, hx⟩ := ob hx
  refine jj_callV C [.int l1] lk_X7_112 (mc_X7_isWord X.2.1 G F n ev1) (o_X7_isWord ev1) rfl rfl (Nat.le_of_ble_eq_true rfl) ⟨Nat.le_of_ble_eq_true rfl, Nat.le_of_ble_eq_true rfl⟩ ⟨Nat.zero_le _, Nat.zero_le _⟩ rfl dX7_spell_2 rfl rfl ?_
  refine jj_if_eq (tgt := 24) C dX7_spell_5 (by decide) (fun q5 => ?_) (fun q5 => ?_)
  · rw [if_pos q5] at hx
    refine jj_iconst (v := (-1)) C dX7_spell_24 (by decide) ?_
    obtain rfl := Option.some.inj hx
    exact jj_iret C dX7_spell_25 rfl
  · rw [if_neg q5] at hx
    refine jj_iload_n C 2 2 dX7_spell_8 rfl rfl ?_
    refine jj_aload_n C 0 0 dX7_spell_9 rfl rfl ?_
    obtain ⟨v2, ev2, hx⟩ := ob hx
    refine jj_getR C fd_X7_28 dX7_spell_10 ev2 ?_
    refine jj_iload_n C 1 1 dX7_spell_13 rfl rfl ?_
    obtain ⟨v3, ev3, hx⟩ := ob hx
    refine jj_aald C 4 rfl dX7_spell_14 ev3 ?_
    obtain ⟨v4, ev4, hx⟩ := ob hx
    refine jj_getI C fd_X7_118 dX7_spell_15 ev4 ?_
    obtain ⟨v5, ev5, hx⟩ := ob hx
    refine jj_callS C [.int l2, .int v4] lk_X7_90 (mc_X7_isBelow X.2.1 G F n ev5) rfl rfl (Nat.le_of_ble_eq_true rfl) ⟨Nat.le_of_ble_eq_true rfl, Nat.le_of_ble_eq_true rfl⟩ ⟨Nat.zero_le _, Nat.zero_le _⟩ rfl dX7_spell_18 rfl rfl ?_
    refine jj_if_ne (tgt := 26) C dX7_spell_21 (by decide) (fun q21 => ?_) (fun q21 => ?_)
    · rw [if_neg q21] at hx
      refine jj_iload_n C 3 3 dX7_spell_26 rfl rfl ?_
      refine jj_iconst (v := 3) C dX7_spell_27 (by decide) ?_
      obtain ⟨v6, ev6, hx⟩ := ob hx
      refine jj_callS C [.int l3, .int 3] lk_X7_90 (mc_X7_isBelow X.2.1 G F n ev6) rfl rfl (Nat.le_of_ble_eq_true rfl) ⟨Nat.le_of_ble_eq_true rfl, Nat.le_of_ble_eq_true rfl⟩ ⟨Nat.zero_le _, Nat.zero_le _⟩ rfl dX7_spell_28 rfl rfl ?_
      refine jj_if_ne (tgt := 37) C dX7_spell_31 (by decide) (fun q31 => ?_) (fun q31 => ?_)
      · rw [if_neg q31] at hx
        refine jj_aload_n C 0 0 dX7_spell_37 rfl rfl ?_
        obtain ⟨v7, ev7, hx⟩ := ob hx
        refine jj_getR C fd_X7_28 dX7_spell_38 ev7 ?_
        refine jj_iload_n C 1 1 dX7_spell_41 rfl rfl ?_
        obtain ⟨v8, ev8, hx⟩ := ob hx
        refine jj_aald C 4 rfl dX7_spell_42 ev8 ?_
        obtain ⟨v9, ev9, hx⟩ := ob hx
        refine jj_getR C fd_X7_132 dX7_spell_43 ev9 ?_
        refine jj_iload_n C 2 2 dX7_spell_46 rfl rfl ?_
        obtain ⟨v10, ev10, hx⟩ := ob hx
        refine jj_iald C dX7_spell_47 ev10 ?_
        refine jj_istore C 4 dX7_spell_48 rfl (by decide) ?_
        refine jj_aload_n C 0 1 dX7_spell_50 rfl rfl ?_
        obtain ⟨v11, ev11, hx⟩ := ob hx
        refine jj_getR C fd_X7_28 dX7_spell_51 ev11 ?_
        refine jj_iload_n C 1 2 dX7_spell_54 rfl rfl ?_
        obtain ⟨v12, ev12, hx⟩ := ob hx
        refine jj_aald C 4 rfl dX7_spell_55 ev12 ?_
        obtain ⟨v13, ev13, hx⟩ := ob hx
        refine jj_getR C fd_X7_132 dX7_spell_56 ev13 ?_
        refine jj_iload_n C 2 3 dX7_spell_59 rfl rfl ?_
        refine jj_iload_n C 3 4 dX7_spell_60 rfl rfl ?_
        obtain ⟨v14, ev14, hx⟩ := ob hx
        refine jj_iast C dX7_spell_61 ev14 ?_
        refine jj_aload_n C 0 1 dX7_spell_62 rfl rfl ?_
        refine jj_iconst (v := 1) C dX7_spell_63 (by decide) ?_
        obtain ⟨v15, ev15, hx⟩ := ob hx
        obtain ⟨zv15, ev15⟩ := putZ_inv ev15
        refine jj_put C fd_X7_76 (nz zv15) (fz zv15) dX7_spell_64 ev15 ?_
        refine jj_iload C 4 0 dX7_spell_67 rfl ?_
        obtain rfl := Option.some.inj hx
        exact jj_iret C dX7_spell_69 rfl
      · rw [if_pos q31] at hx
        refine jj_bipush (v := (-2)) C dX7_spell_34 (by decide) ?_
        obtain rfl := Option.some.inj hx
        exact jj_iret C dX7_spell_36 rfl
    · rw [if_pos q21] at hx
      refine jj_iconst (v := (-1)) C dX7_spell_24 (by decide) ?_
      obtain rfl := Option.some.inj hx
      exact jj_iret C dX7_spell_25 rfl
def x_X7_spelt (F : Nat) (h : pH) (l0 : Nat) (l1 : Int32) : Option (Int32 × pH) :=
  (chk 7 h l0).bind fun _ =>
  (x_X7_isWord F h l0 l1).bind fun v1 =>
  if v1 = 0 then
    some ((-1 : Int32), h)
  else
    (getR 7 h l0 2).bind fun v2 =>
    (aldR 4 h v2 l1).bind fun v3 =>
    (getI 6 h v3 2).bind fun v4 =>
    if v4 = 2 then
      (x_X7_leaveTrace F h l0 5).bind fun v10 =>
      some ((30 : Int32), v10)
    else
      (x_X7_leaveTrace F h l0 4).bind fun v5 =>
      (getR 7 v5 l0 2).bind fun v6 =>
      (aldR 4 v5 v6 l1).bind fun v7 =>
      (getR 6 v5 v7 0).bind fun v8 =>
      (aldI 0 v5 v8 0).bind fun v9 =>
      some (v9, v5)
theorem o_X7_spelt {F : Nat} {h : pH} {l0 : Nat} {l1 : Int32} {res : (Int32 × pH)} (hx : x_X7_spelt F h l0 l1 = some res) : chk 7 h l0 = some () := by
  unfold x_X7_spelt at hx
  obtain ⟨_, e, _⟩ := ob hx
  exact e
theorem mc_X7_spelt (l : Launch) (G : pG) (F n : Nat) {h : pH} {l0 : Nat} {l1 : Int32} {res : (Int32 × pH)} (hx : x_X7_spelt F h l0 l1 = some res) : MC l yX7_spelt cX7_spelt 2 (some (FieldType.int)) (rmD 2 0 0) G [.ref l0, .int l1] n h (some (.int res.1)) n res.2 := by
  unfold x_X7_spelt at hx
  obtain ⟨_, _, hx⟩ := ob hx
  refine jj_entry RX7 rfl (by decide) (Nat.le_of_ble_eq_true rfl) (fun X _ _ C => ?_)
  show J X G (0, 0, some (.int res.1), n, res.2) (0, 0, n) h 0 [(0, .ref l0), (1, .int l1)] []
  refine jj_aload_n C 0 0 dX7_spelt_0 rfl rfl ?_
  refine jj_iload_n C 1 1 dX7_spelt_1 rfl rfl ?_
  obtain ⟨v1, ev1, hx⟩ := ob hx
  refine jj_callV C [.int l1] lk_X7_112 (mc_X7_isWord X.2.1 G F n ev1) (o_X7_isWord ev1) rfl rfl (Nat.le_of_ble_eq_true rfl) ⟨Nat.le_of_ble_eq_true rfl, Nat.le_of_ble_eq_true rfl⟩ ⟨Nat.zero_le _, Nat.zero_le _⟩ rfl dX7_spelt_2 rfl rfl ?_
  refine jj_if_ne (tgt := 10) C dX7_spelt_5 (by decide) (fun q5 => ?_) (fun q5 => ?_)
  · rw [if_neg q5] at hx
    refine jj_aload_n C 0 0 dX7_spelt_10 rfl rfl ?_
    obtain ⟨v2, ev2, hx⟩ := ob hx
    refine jj_getR C fd_X7_28 dX7_spelt_11 ev2 ?_
    refine jj_iload_n C 1 1 dX7_spelt_14 rfl rfl ?_
    obtain ⟨v3, ev3, hx⟩ := ob hx
    refine jj_aald C 4 rfl dX7_spelt_15 ev3 ?_
    obtain ⟨v4, ev4, hx⟩ := ob hx
    refine jj_getI C fd_X7_115 dX7_spelt_16 ev4 ?_
    refine jj_iconst (v := 2) C dX7_spelt_19 (by decide) ?_
    refine jj_icmp_ne (tgt := 31) C dX7_spelt_20 (by decide) (fun q20 => ?_) (fun q20 => ?_)
    · rw [if_neg q20] at hx
      refine jj_aload_n C 0 0 dX7_spelt_31 rfl rfl ?_
      refine jj_iconst (v := 4) C dX7_spelt_32 (by decide) ?_
      obtain ⟨v5, ev5, hx⟩ := ob hx
      refine jj_callV C [.int 4] lk_X7_240 (mc_X7_leaveTrace X.2.1 G F n ev5) (o_X7_leaveTrace ev5) rfl rfl (Nat.le_of_ble_eq_true rfl) ⟨Nat.le_of_ble_eq_true rfl, Nat.le_of_ble_eq_true rfl⟩ ⟨Nat.zero_le _, Nat.zero_le _⟩ rfl dX7_spelt_33 rfl rfl ?_
      refine jj_aload_n C 0 0 dX7_spelt_36 rfl rfl ?_
      obtain ⟨v6, ev6, hx⟩ := ob hx
      refine jj_getR C fd_X7_28 dX7_spelt_37 ev6 ?_
      refine jj_iload_n C 1 1 dX7_spelt_40 rfl rfl ?_
      obtain ⟨v7, ev7, hx⟩ := ob hx
      refine jj_aald C 4 rfl dX7_spelt_41 ev7 ?_
      obtain ⟨v8, ev8, hx⟩ := ob hx
      refine jj_getR C fd_X7_132 dX7_spelt_42 ev8 ?_
      refine jj_iconst (v := 0) C dX7_spelt_45 (by decide) ?_
      obtain ⟨v9, ev9, hx⟩ := ob hx
      refine jj_iald C dX7_spelt_46 ev9 ?_
      obtain rfl := Option.some.inj hx
      exact jj_iret C dX7_spelt_47 rfl
    · rw [if_pos q20] at hx
      refine jj_aload_n C 0 0 dX7_spelt_23 rfl rfl ?_
      refine jj_iconst (v := 5) C dX7_spelt_24 (by decide) ?_
      obtain ⟨v10, ev10, hx⟩ := ob hx
      refine jj_callV C [.int 5] lk_X7_240 (mc_X7_leaveTrace X.2.1 G F n ev10) (o_X7_leaveTrace ev10) rfl rfl (Nat.le_of_ble_eq_true rfl) ⟨Nat.le_of_ble_eq_true rfl, Nat.le_of_ble_eq_true rfl⟩ ⟨Nat.zero_le _, Nat.zero_le _⟩ rfl dX7_spelt_25 rfl rfl ?_
      refine jj_bipush (v := 30) C dX7_spelt_28 (by decide) ?_
      obtain rfl := Option.some.inj hx
      exact jj_iret C dX7_spelt_30 rfl
  · rw [if_pos q5] at hx
    refine jj_iconst (v := (-1)) C dX7_spelt_8 (by decide) ?_
    obtain rfl := Option.some.inj hx
    exact jj_iret C dX7_spelt_9 rfl
def x_X7_takeText (F : Nat) (h : pH) (l0 : Nat) : Option pH :=
  (chk 7 h l0).bind fun _ =>
  (getR 7 h l0 2).bind fun v1 =>
  (getR 7 h l0 1).bind fun v2 =>
  (getR 5 h v2 0).bind fun v3 =>
  (putV 7 h l0 2 (.ref v3)).bind fun v4 =>
  (getR 7 v4 l0 1).bind fun v5 =>
  (putV 5 v4 v5 0 (.ref v1)).bind fun v6 =>
  (getR 7 v6 l0 1).bind fun v7 =>
  (getI 5 v6 v7 1).bind fun v8 =>
  (putV 7 v6 l0 3 (.int v8)).bind fun v9 =>
  (putV 7 v9 l0 5 (.int 0)).bind fun v10 =>
  (putV 7 v10 l0 8 (.int 0)).bind fun v11 =>
  (putZ 7 v11 l0 14 (1 : Int32)).bind fun v12 =>
  some v12
theorem o_X7_takeText {F : Nat} {h : pH} {l0 : Nat} {res : pH} (hx : x_X7_takeText F h l0 = some res) : chk 7 h l0 = some () := by
  unfold x_X7_takeText at hx
  obtain ⟨_, e, _⟩ := ob hx
  exact e
theorem mc_X7_takeText (l : Launch) (G : pG) (F n : Nat) {h : pH} {l0 : Nat} {res : pH} (hx : x_X7_takeText F h l0 = some res) : MC l yX7_takeText cX7_takeText 2 none (rmD 0 0 0) G [.ref l0] n h (none) n res := by
  unfold x_X7_takeText at hx
  obtain ⟨_, _, hx⟩ := ob hx
  refine jj_entry RX7 rfl (by decide) (Nat.le_of_ble_eq_true rfl) (fun X _ _ C => ?_)
  show J X G (0, 0, none, n, res) (0, 0, n) h 0 [(0, .ref l0)] []
  refine jj_aload_n C 0 0 dX7_takeText_0 rfl rfl ?_
  obtain ⟨v1, ev1, hx⟩ := ob hx
  refine jj_getR C fd_X7_28 dX7_takeText_1 ev1 ?_
  refine jj_astore_n C 1 dX7_takeText_4 rfl rfl (by decide) ?_
  refine jj_aload_n C 0 1 dX7_takeText_5 rfl rfl ?_
  refine jj_aload_n C 0 1 dX7_takeText_6 rfl rfl ?_
  obtain ⟨v2, ev2, hx⟩ := ob hx
  refine jj_getR C fd_X7_20 dX7_takeText_7 ev2 ?_
  obtain ⟨v3, ev3, hx⟩ := ob hx
  refine jj_getR C fd_X7_249 dX7_takeText_10 ev3 ?_
  obtain ⟨v4, ev4, hx⟩ := ob hx
  refine jj_put C fd_X7_28 rfl rfl dX7_takeText_13 ev4 ?_
  refine jj_aload_n C 0 1 dX7_takeText_16 rfl rfl ?_
  obtain ⟨v5, ev5, hx⟩ := ob hx
  refine jj_getR C fd_X7_20 dX7_takeText_17 ev5 ?_
  refine jj_aload_n C 1 0 dX7_takeText_20 rfl rfl ?_
  obtain ⟨v6, ev6, hx⟩ := ob hx
  refine jj_put C fd_X7_249 rfl rfl dX7_takeText_21 ev6 ?_
  refine jj_aload_n C 0 1 dX7_takeText_24 rfl rfl ?_
  refine jj_aload_n C 0 1 dX7_takeText_25 rfl rfl ?_
  obtain ⟨v7, ev7, hx⟩ := ob hx
  refine jj_getR C fd_X7_20 dX7_takeText_26 ev7 ?_
  obtain ⟨v8, ev8, hx⟩ := ob hx
  refine jj_getI C fd_X7_252 dX7_takeText_29 ev8 ?_
  obtain ⟨v9, ev9, hx⟩ := ob hx
  refine jj_put C fd_X7_109 rfl rfl dX7_takeText_32 ev9 ?_
  refine jj_aload_n C 0 1 dX7_takeText_35 rfl rfl ?_
  refine jj_iconst (v := 0) C dX7_takeText_36 (by decide) ?_
  obtain ⟨v10, ev10, hx⟩ := ob hx
  refine jj_put C fd_X7_125 rfl rfl dX7_takeText_37 ev10 ?_
  refine jj_aload_n C 0 1 dX7_takeText_40 rfl rfl ?_
  refine jj_iconst (v := 0) C dX7_takeText_41 (by decide) ?_
  obtain ⟨v11, ev11, hx⟩ := ob hx
  refine jj_put C fd_X7_182 rfl rfl dX7_takeText_42 ev11 ?_
  refine jj_aload_n C 0 1 dX7_takeText_45 rfl rfl ?_
  refine jj_iconst (v := 1) C dX7_takeText_46 (by decide) ?_
  obtain ⟨v12, ev12, hx⟩ := ob hx
  obtain ⟨zv12, ev12⟩ := putZ_inv ev12
  refine jj_put C fd_X7_76 (nz zv12) (fz zv12) dX7_takeText_47 ev12 ?_
  obtain rfl := Option.some.inj hx
  exact jj_vret C dX7_takeText_50 rfl
def x_X7_tellPlain (F : Nat) (h : pH) (l0 : Nat) (l1 : Nat) : Option (Int32 × pH) :=
  (chk 7 h l0).bind fun _ =>
  (x_X7_leaveTrace F h l0 1).bind fun v1 =>
  (getI 6 v1 l1 1).bind fun v2 =>
  some (v2, v1)
theorem o_X7_tellPlain {F : Nat} {h : pH} {l0 : Nat} {l1 : Nat} {res : (Int32 × pH)} (hx : x_X7_tellPlain F h l0 l1 = some res) : chk 7 h l0 = some () := by
  unfold x_X7_tellPlain at hx
  obtain ⟨_, e, _⟩ := ob hx
  exact e
theorem mc_X7_tellPlain (l : Launch) (G : pG) (F n : Nat) {h : pH} {l0 : Nat} {l1 : Nat} {res : (Int32 × pH)} (hx : x_X7_tellPlain F h l0 l1 = some res) : MC l yX7_tellPlain cX7_tellPlain 2 (some (FieldType.int)) (rmD 1 0 0) G [.ref l0, .ref l1] n h (some (.int res.1)) n res.2 := by
  unfold x_X7_tellPlain at hx
  obtain ⟨_, _, hx⟩ := ob hx
  refine jj_entry RX7 rfl (by decide) (Nat.le_of_ble_eq_true rfl) (fun X _ _ C => ?_)
  show J X G (0, 0, some (.int res.1), n, res.2) (0, 0, n) h 0 [(0, .ref l0), (1, .ref l1)] []
  refine jj_aload_n C 0 0 dX7_tellPlain_0 rfl rfl ?_
  refine jj_iconst (v := 1) C dX7_tellPlain_1 (by decide) ?_
  obtain ⟨v1, ev1, hx⟩ := ob hx
  refine jj_callV C [.int 1] lk_X7_240 (mc_X7_leaveTrace X.2.1 G F n ev1) (o_X7_leaveTrace ev1) rfl rfl (Nat.le_of_ble_eq_true rfl) ⟨Nat.le_of_ble_eq_true rfl, Nat.le_of_ble_eq_true rfl⟩ ⟨Nat.zero_le _, Nat.zero_le _⟩ rfl dX7_tellPlain_2 rfl rfl ?_
  refine jj_aload_n C 1 1 dX7_tellPlain_5 rfl rfl ?_
  obtain ⟨v2, ev2, hx⟩ := ob hx
  refine jj_getI C fd_X7_118 dX7_tellPlain_6 ev2 ?_
  obtain rfl := Option.some.inj hx
  exact jj_iret C dX7_tellPlain_9 rfl
def x_X7_tellBoth (F : Nat) (h : pH) (l0 : Nat) (l1 : Nat) : Option (Int32 × pH) :=
  (chk 7 h l0).bind fun _ =>
  (x_X7_leaveTrace F h l0 2).bind fun v1 =>
  (x_X7_tellPlain F v1 l0 l1).bind fun v2 =>
  some ((v2.1 + (100 : Int32)), v2.2)
theorem o_X7_tellBoth {F : Nat} {h : pH} {l0 : Nat} {l1 : Nat} {res : (Int32 × pH)} (hx : x_X7_tellBoth F h l0 l1 = some res) : chk 7 h l0 = some () := by
  unfold x_X7_tellBoth at hx
  obtain ⟨_, e, _⟩ := ob hx
  exact e
theorem mc_X7_tellBoth (l : Launch) (G : pG) (F n : Nat) {h : pH} {l0 : Nat} {l1 : Nat} {res : (Int32 × pH)} (hx : x_X7_tellBoth F h l0 l1 = some res) : MC l yX7_tellBoth cX7_tellBoth 2 (some (FieldType.int)) (rmD 2 0 0) G [.ref l0, .ref l1] n h (some (.int res.1)) n res.2 := by
  unfold x_X7_tellBoth at hx
  obtain ⟨_, _, hx⟩ := ob hx
  refine jj_entry RX7 rfl (by decide) (Nat.le_of_ble_eq_true rfl) (fun X _ _ C => ?_)
  show J X G (0, 0, some (.int res.1), n, res.2) (0, 0, n) h 0 [(0, .ref l0), (1, .ref l1)] []
  refine jj_aload_n C 0 0 dX7_tellBoth_0 rfl rfl ?_
  refine jj_iconst (v := 2) C dX7_tellBoth_1 (by decide) ?_
  obtain ⟨v1, ev1, hx⟩ := ob hx
  refine jj_callV C [.int 2] lk_X7_240 (mc_X7_leaveTrace X.2.1 G F n ev1) (o_X7_leaveTrace ev1) rfl rfl (Nat.le_of_ble_eq_true rfl) ⟨Nat.le_of_ble_eq_true rfl, Nat.le_of_ble_eq_true rfl⟩ ⟨Nat.zero_le _, Nat.zero_le _⟩ rfl dX7_tellBoth_2 rfl rfl ?_
  refine jj_aload_n C 0 0 dX7_tellBoth_5 rfl rfl ?_
  refine jj_aload_n C 1 1 dX7_tellBoth_6 rfl rfl ?_
  obtain ⟨v2, ev2, hx⟩ := ob hx
  refine jj_callV C [.ref l1] lk_X7_237 (mc_X7_tellPlain X.2.1 G F n ev2) (o_X7_tellPlain ev2) rfl rfl (Nat.le_of_ble_eq_true rfl) ⟨Nat.le_of_ble_eq_true rfl, Nat.le_of_ble_eq_true rfl⟩ ⟨Nat.zero_le _, Nat.zero_le _⟩ rfl dX7_tellBoth_7 rfl rfl ?_
  refine jj_bipush (v := 100) C dX7_tellBoth_10 (by decide) ?_
  refine jj_iadd C dX7_tellBoth_12 ?_
  obtain rfl := Option.some.inj hx
  exact jj_iret C dX7_tellBoth_13 rfl
def x_X7_tellTurned (F : Nat) (h : pH) (l0 : Nat) (l1 : Nat) : Option (Int32 × pH) :=
  (chk 7 h l0).bind fun _ =>
  (x_X7_leaveTrace F h l0 3).bind fun v1 =>
  (x_X7_tellBoth F v1 l0 l1).bind fun v2 =>
  (x_X7_tellPlain F v2.2 l0 l1).bind fun v3 =>
  some ((v2.1 + v3.1), v3.2)
theorem o_X7_tellTurned {F : Nat} {h : pH} {l0 : Nat} {l1 : Nat} {res : (Int32 × pH)} (hx : x_X7_tellTurned F h l0 l1 = some res) : chk 7 h l0 = some () := by
  unfold x_X7_tellTurned at hx
  obtain ⟨_, e, _⟩ := ob hx
  exact e
theorem mc_X7_tellTurned (l : Launch) (G : pG) (F n : Nat) {h : pH} {l0 : Nat} {l1 : Nat} {res : (Int32 × pH)} (hx : x_X7_tellTurned F h l0 l1 = some res) : MC l yX7_tellTurned cX7_tellTurned 3 (some (FieldType.int)) (rmD 3 0 0) G [.ref l0, .ref l1] n h (some (.int res.1)) n res.2 := by
  unfold x_X7_tellTurned at hx
  obtain ⟨_, _, hx⟩ := ob hx
  refine jj_entry RX7 rfl (by decide) (Nat.le_of_ble_eq_true rfl) (fun X _ _ C => ?_)
  show J X G (0, 0, some (.int res.1), n, res.2) (0, 0, n) h 0 [(0, .ref l0), (1, .ref l1)] []
  refine jj_aload_n C 0 0 dX7_tellTurned_0 rfl rfl ?_
  refine jj_iconst (v := 3) C dX7_tellTurned_1 (by decide) ?_
  obtain ⟨v1, ev1, hx⟩ := ob hx
  refine jj_callV C [.int 3] lk_X7_240 (mc_X7_leaveTrace X.2.1 G F n ev1) (o_X7_leaveTrace ev1) rfl rfl (Nat.le_of_ble_eq_true rfl) ⟨Nat.le_of_ble_eq_true rfl, Nat.le_of_ble_eq_true rfl⟩ ⟨Nat.zero_le _, Nat.zero_le _⟩ rfl dX7_tellTurned_2 rfl rfl ?_
  refine jj_aload_n C 0 0 dX7_tellTurned_5 rfl rfl ?_
  refine jj_aload_n C 1 1 dX7_tellTurned_6 rfl rfl ?_
  obtain ⟨v2, ev2, hx⟩ := ob hx
  refine jj_callV C [.ref l1] lk_X7_234 (mc_X7_tellBoth X.2.1 G F n ev2) (o_X7_tellBoth ev2) rfl rfl (Nat.le_of_ble_eq_true rfl) ⟨Nat.le_of_ble_eq_true rfl, Nat.le_of_ble_eq_true rfl⟩ ⟨Nat.zero_le _, Nat.zero_le _⟩ rfl dX7_tellTurned_7 rfl rfl ?_
  refine jj_istore_n C 2 dX7_tellTurned_10 rfl rfl (by decide) ?_
  refine jj_iload_n C 2 0 dX7_tellTurned_11 rfl rfl ?_
  refine jj_aload_n C 0 1 dX7_tellTurned_12 rfl rfl ?_
  refine jj_aload_n C 1 2 dX7_tellTurned_13 rfl rfl ?_
  obtain ⟨v3, ev3, hx⟩ := ob hx
  refine jj_callV C [.ref l1] lk_X7_237 (mc_X7_tellPlain X.2.1 G F n ev3) (o_X7_tellPlain ev3) rfl rfl (Nat.le_of_ble_eq_true rfl) ⟨Nat.le_of_ble_eq_true rfl, Nat.le_of_ble_eq_true rfl⟩ ⟨Nat.zero_le _, Nat.zero_le _⟩ rfl dX7_tellTurned_14 rfl rfl ?_
  refine jj_iadd C dX7_tellTurned_17 ?_
  obtain rfl := Option.some.inj hx
  exact jj_iret C dX7_tellTurned_18 rfl
def x_X7_tell (F : Nat) (h : pH) (l0 : Nat) (l1 : Int32) : Option (Int32 × pH) :=
  (chk 7 h l0).bind fun _ =>
  (x_X7_isWord F h l0 l1).bind fun v1 =>
  if v1 = 0 then
    some ((-1 : Int32), h)
  else
    (getR 7 h l0 2).bind fun v2 =>
    (aldR 4 h v2 l1).bind fun v3 =>
    (getI 6 h v3 2).bind fun v4 =>
    if v4 = 2 then
      (x_X7_tellTurned F h l0 v3).bind fun v8 =>
      some (v8.1, v8.2)
    else
      (getI 6 h v3 2).bind fun v5 =>
      if v5 = 1 then
        (x_X7_tellBoth F h l0 v3).bind fun v7 =>
        some (v7.1, v7.2)
      else
        (x_X7_tellPlain F h l0 v3).bind fun v6 =>
        some (v6.1, v6.2)
theorem o_X7_tell {F : Nat} {h : pH} {l0 : Nat} {l1 : Int32} {res : (Int32 × pH)} (hx : x_X7_tell F h l0 l1 = some res) : chk 7 h l0 = some () := by
  unfold x_X7_tell at hx
  obtain ⟨_, e, _⟩ := ob hx
  exact e
theorem mc_X7_tell (l : Launch) (G : pG) (F n : Nat) {h : pH} {l0 : Nat} {l1 : Int32} {res : (Int32 × pH)} (hx : x_X7_tell F h l0 l1 = some res) : MC l yX7_tell cX7_tell 3 (some (FieldType.int)) (rmD 4 0 0) G [.ref l0, .int l1] n h (some (.int res.1)) n res.2 := by
  unfold x_X7_tell at hx
  obtain ⟨_, _, hx⟩ := ob hx
  refine jj_entry RX7 rfl (by decide) (Nat.le_of_ble_eq_true rfl) (fun X _ _ C => ?_)
  show J X G (0, 0, some (.int res.1), n, res.2) (0, 0, n) h 0 [(0, .ref l0), (1, .int l1)] []
  refine jj_aload_n C 0 0 dX7_tell_0 rfl rfl ?_
  refine jj_iload_n C 1 1 dX7_tell_1 rfl rfl ?_
  obtain ⟨v1, ev1, hx⟩ := ob hx
  refine jj_callV C [.int l1] lk_X7_112 (mc_X7_isWord X.2.1 G F n ev1) (o_X7_isWord ev1) rfl rfl (Nat.le_of_ble_eq_true rfl) ⟨Nat.le_of_ble_eq_true rfl, Nat.le_of_ble_eq_true rfl⟩ ⟨Nat.zero_le _, Nat.zero_le _⟩ rfl dX7_tell_2 rfl rfl ?_
  refine jj_if_ne (tgt := 10) C dX7_tell_5 (by decide) (fun q5 => ?_) (fun q5 => ?_)
  · rw [if_neg q5] at hx
    refine jj_aload_n C 0 0 dX7_tell_10 rfl rfl ?_
    obtain ⟨v2, ev2, hx⟩ := ob hx
    refine jj_getR C fd_X7_28 dX7_tell_11 ev2 ?_
    refine jj_iload_n C 1 1 dX7_tell_14 rfl rfl ?_
    obtain ⟨v3, ev3, hx⟩ := ob hx
    refine jj_aald C 4 rfl dX7_tell_15 ev3 ?_
    refine jj_astore_n C 2 dX7_tell_16 rfl rfl (by decide) ?_
    refine jj_aload_n C 2 0 dX7_tell_17 rfl rfl ?_
    obtain ⟨v4, ev4, hx⟩ := ob hx
    refine jj_getI C fd_X7_115 dX7_tell_18 ev4 ?_
    refine jj_iconst (v := 2) C dX7_tell_21 (by decide) ?_
    refine jj_icmp_ne (tgt := 31) C dX7_tell_22 (by decide) (fun q22 => ?_) (fun q22 => ?_)
    · rw [if_neg q22] at hx
      refine jj_aload_n C 2 0 dX7_tell_31 rfl rfl ?_
      obtain ⟨v5, ev5, hx⟩ := ob hx
      refine jj_getI C fd_X7_115 dX7_tell_32 ev5 ?_
      refine jj_iconst (v := 1) C dX7_tell_35 (by decide) ?_
      refine jj_icmp_ne (tgt := 47) C dX7_tell_36 (by decide) (fun q36 => ?_) (fun q36 => ?_)
      · rw [if_neg q36] at hx
        refine jj_aload_n C 0 1 dX7_tell_47 rfl rfl ?_
        refine jj_aload_n C 2 0 dX7_tell_48 rfl rfl ?_
        obtain ⟨v6, ev6, hx⟩ := ob hx
        refine jj_callV C [.ref v3] lk_X7_237 (mc_X7_tellPlain X.2.1 G F n ev6) (o_X7_tellPlain ev6) rfl rfl (Nat.le_of_ble_eq_true rfl) ⟨Nat.le_of_ble_eq_true rfl, Nat.le_of_ble_eq_true rfl⟩ ⟨Nat.zero_le _, Nat.zero_le _⟩ rfl dX7_tell_49 rfl rfl ?_
        obtain rfl := Option.some.inj hx
        exact jj_iret C dX7_tell_52 rfl
      · rw [if_pos q36] at hx
        refine jj_aload_n C 0 1 dX7_tell_39 rfl rfl ?_
        refine jj_aload_n C 2 0 dX7_tell_40 rfl rfl ?_
        obtain ⟨v7, ev7, hx⟩ := ob hx
        refine jj_callV C [.ref v3] lk_X7_234 (mc_X7_tellBoth X.2.1 G F n ev7) (o_X7_tellBoth ev7) rfl rfl (Nat.le_of_ble_eq_true rfl) ⟨Nat.le_of_ble_eq_true rfl, Nat.le_of_ble_eq_true rfl⟩ ⟨Nat.zero_le _, Nat.zero_le _⟩ rfl dX7_tell_41 rfl rfl ?_
        refine jj_goto (tgt := 52) C dX7_tell_44 (by decide) ?_
        obtain rfl := Option.some.inj hx
        exact jj_iret C dX7_tell_52 rfl
    · rw [if_pos q22] at hx
      refine jj_aload_n C 0 1 dX7_tell_25 rfl rfl ?_
      refine jj_aload_n C 2 0 dX7_tell_26 rfl rfl ?_
      obtain ⟨v8, ev8, hx⟩ := ob hx
      refine jj_callV C [.ref v3] lk_X7_231 (mc_X7_tellTurned X.2.1 G F n ev8) (o_X7_tellTurned ev8) rfl rfl (Nat.le_of_ble_eq_true rfl) ⟨Nat.le_of_ble_eq_true rfl, Nat.le_of_ble_eq_true rfl⟩ ⟨Nat.zero_le _, Nat.zero_le _⟩ rfl dX7_tell_27 rfl rfl ?_
      obtain rfl := Option.some.inj hx
      exact jj_iret C dX7_tell_30 rfl
  · rw [if_pos q5] at hx
    refine jj_iconst (v := (-1)) C dX7_tell_8 (by decide) ?_
    obtain rfl := Option.some.inj hx
    exact jj_iret C dX7_tell_9 rfl
def x_X7_trace (F : Nat) (h : pH) (l0 : Nat) : Option Int32 :=
  (chk 7 h l0).bind fun _ =>
  (getI 7 h l0 15).bind fun v1 =>
  some v1
theorem o_X7_trace {F : Nat} {h : pH} {l0 : Nat} {res : Int32} (hx : x_X7_trace F h l0 = some res) : chk 7 h l0 = some () := by
  unfold x_X7_trace at hx
  obtain ⟨_, e, _⟩ := ob hx
  exact e
theorem mc_X7_trace (l : Launch) (G : pG) (F n : Nat) {h : pH} {l0 : Nat} {res : Int32} (hx : x_X7_trace F h l0 = some res) : MC l yX7_trace cX7_trace 1 (some (FieldType.int)) (rmD 0 0 0) G [.ref l0] n h (some (.int res)) n h := by
  unfold x_X7_trace at hx
  obtain ⟨_, _, hx⟩ := ob hx
  refine jj_entry RX7 rfl (by decide) (Nat.le_of_ble_eq_true rfl) (fun X _ _ C => ?_)
  show J X G (0, 0, some (.int res), n, h) (0, 0, n) h 0 [(0, .ref l0)] []
  refine jj_aload_n C 0 0 dX7_trace_0 rfl rfl ?_
  obtain ⟨v1, ev1, hx⟩ := ob hx
  refine jj_getI C fd_X7_243 dX7_trace_1 ev1 ?_
  obtain rfl := Option.some.inj hx
  exact jj_iret C dX7_trace_4 rfl
def x_X7_words (F : Nat) (h : pH) (l0 : Nat) (l1 : Int32) (l2 : Int32) (l3 : Int32) (l4 : Int32) : Option (Int32 × pH) :=
  (chk 7 h l0).bind fun _ =>
  (putV 7 h l0 16 (.int 0)).bind fun v1 =>
  (x_X7_isSheet F v1 l1).bind fun v2 =>
  if v2 = 0 then
    some ((-1 : Int32), v1)
  else
    (x_X7_isBelow F v1 l2 3).bind fun v3 =>
    if v3 = 0 then
      some ((-2 : Int32), v1)
    else
      (getR 7 v1 l0 0).bind fun v4 =>
      (aldR 3 v1 v4 l1).bind fun v5 =>
      (x_X4_faultOfCells F v1 v5 l2 l3 l4).bind fun v6 =>
      if v6 = 0 then
        (getR 7 v1 l0 1).bind fun v7 =>
        (getR 7 v1 l0 0).bind fun v8 =>
        (aldR 3 v1 v8 l1).bind fun v9 =>
        (x_X5_firstFault F v1 v7 v9 l3 l4).bind fun v10 =>
        if v10.1 = ((-9)) then
          (x_X7_takeText F v10.2 l0).bind fun v11 =>
          (getI 7 v11 l0 3).bind fun v12 =>
          some (v12, v11)
        else
          some (((-100 : Int32) - v10.1), v10.2)
      else
        (x_X7_failWith F v1 l0 v6).bind fun v13 =>
        some (v13.1, v13.2)
theorem o_X7_words {F : Nat} {h : pH} {l0 : Nat} {l1 : Int32} {l2 : Int32} {l3 : Int32} {l4 : Int32} {res : (Int32 × pH)} (hx : x_X7_words F h l0 l1 l2 l3 l4 = some res) : chk 7 h l0 = some () := by
  unfold x_X7_words at hx
  obtain ⟨_, e, _⟩ := ob hx
  exact e
theorem mc_X7_words (l : Launch) (G : pG) (F n : Nat) {h : pH} {l0 : Nat} {l1 : Int32} {l2 : Int32} {l3 : Int32} {l4 : Int32} {res : (Int32 × pH)} (hx : x_X7_words F h l0 l1 l2 l3 l4 = some res) : MC l yX7_words cX7_words 7 (some (FieldType.int)) (rmD 3 0 0) G [.ref l0, .int l1, .int l2, .int l3, .int l4] n h (some (.int res.1)) n res.2 := by
  unfold x_X7_words at hx
  obtain ⟨_, _, hx⟩ := ob hx
  refine jj_entry RX7 rfl (by decide) (Nat.le_of_ble_eq_true rfl) (fun X _ _ C => ?_)
  show J X G (0, 0, some (.int res.1), n, res.2) (0, 0, n) h 0 [(0, .ref l0), (1, .int l1), (2, .int l2), (3, .int l3), (4, .int l4)] []
  refine jj_aload_n C 0 0 dX7_words_0 rfl rfl ?_
  refine jj_iconst (v := 0) C dX7_words_1 (by decide) ?_
  obtain ⟨v1, ev1, hx⟩ := ob hx
  refine jj_put C fd_X7_82 rfl rfl dX7_words_2 ev1 ?_
  refine jj_iload_n C 1 1 dX7_words_5 rfl rfl ?_
  obtain ⟨v2, ev2, hx⟩ := ob hx
  refine jj_callS C [.int l1] lk_X7_86 (mc_X7_isSheet X.2.1 G F n ev2) rfl rfl (Nat.le_of_ble_eq_true rfl) ⟨Nat.le_of_ble_eq_true rfl, Nat.le_of_ble_eq_true rfl⟩ ⟨Nat.zero_le _, Nat.zero_le _⟩ rfl dX7_words_6 rfl rfl ?_
  refine jj_if_ne (tgt := 14) C dX7_words_9 (by decide) (fun q9 => ?_) (fun q9 => ?_)
  · rw [if_neg q9] at hx
    refine jj_iload_n C 2 2 dX7_words_14 rfl rfl ?_
    refine jj_iconst (v := 3) C dX7_words_15 (by decide) ?_
    obtain ⟨v3, ev3, hx⟩ := ob hx
    refine jj_callS C [.int l2, .int 3] lk_X7_90 (mc_X7_isBelow X.2.1 G F n ev3) rfl rfl (Nat.le_of_ble_eq_true rfl) ⟨Nat.le_of_ble_eq_true rfl, Nat.le_of_ble_eq_true rfl⟩ ⟨Nat.zero_le _, Nat.zero_le _⟩ rfl dX7_words_16 rfl rfl ?_
    refine jj_if_ne (tgt := 25) C dX7_words_19 (by decide) (fun q19 => ?_) (fun q19 => ?_)
    · rw [if_neg q19] at hx
      refine jj_aload_n C 0 0 dX7_words_25 rfl rfl ?_
      obtain ⟨v4, ev4, hx⟩ := ob hx
      refine jj_getR C fd_X7_13 dX7_words_26 ev4 ?_
      refine jj_iload_n C 1 1 dX7_words_29 rfl rfl ?_
      obtain ⟨v5, ev5, hx⟩ := ob hx
      refine jj_aald C 3 rfl dX7_words_30 ev5 ?_
      refine jj_iload_n C 2 2 dX7_words_31 rfl rfl ?_
      refine jj_iload_n C 3 3 dX7_words_32 rfl rfl ?_
      refine jj_iload C 4 4 dX7_words_33 rfl ?_
      obtain ⟨v6, ev6, hx⟩ := ob hx
      refine jj_callV C [.int l2, .int l3, .int l4] lk_X7_94 (mc_X4_faultOfCells X.2.1 G F n ev6) (o_X4_faultOfCells ev6) rfl rfl (Nat.le_of_ble_eq_true rfl) ⟨Nat.le_of_ble_eq_true rfl, Nat.le_of_ble_eq_true rfl⟩ ⟨Nat.zero_le _, Nat.zero_le _⟩ rfl dX7_words_35 rfl rfl ?_
      refine jj_istore C 5 dX7_words_38 rfl (by decide) ?_
      refine jj_iload C 5 0 dX7_words_40 rfl ?_
      refine jj_if_eq (tgt := 52) C dX7_words_42 (by decide) (fun q42 => ?_) (fun q42 => ?_)
      · rw [if_pos q42] at hx
        refine jj_aload_n C 0 1 dX7_words_52 rfl rfl ?_
        obtain ⟨v7, ev7, hx⟩ := ob hx
        refine jj_getR C fd_X7_20 dX7_words_53 ev7 ?_
        refine jj_aload_n C 0 1 dX7_words_56 rfl rfl ?_
        obtain ⟨v8, ev8, hx⟩ := ob hx
        refine jj_getR C fd_X7_13 dX7_words_57 ev8 ?_
        refine jj_iload_n C 1 2 dX7_words_60 rfl rfl ?_
        obtain ⟨v9, ev9, hx⟩ := ob hx
        refine jj_aald C 3 rfl dX7_words_61 ev9 ?_
        refine jj_iload_n C 3 4 dX7_words_62 rfl rfl ?_
        refine jj_iload C 4 5 dX7_words_63 rfl ?_
        obtain ⟨v10, ev10, hx⟩ := ob hx
        refine jj_callV C [.ref v9, .int l3, .int l4] lk_X7_102 (mc_X5_firstFault X.2.1 G F n ev10) (o_X5_firstFault ev10) rfl rfl (Nat.le_of_ble_eq_true rfl) ⟨Nat.le_of_ble_eq_true rfl, Nat.le_of_ble_eq_true rfl⟩ ⟨Nat.zero_le _, Nat.zero_le _⟩ rfl dX7_words_65 rfl rfl ?_
        refine jj_istore C 6 dX7_words_68 rfl (by decide) ?_
        refine jj_iload C 6 0 dX7_words_70 rfl ?_
        refine jj_bipush (v := (-9)) C dX7_words_72 (by decide) ?_
        refine jj_icmp_eq (tgt := 83) C dX7_words_74 (by decide) (fun q74 => ?_) (fun q74 => ?_)
        · rw [if_pos q74] at hx
          refine jj_aload_n C 0 2 dX7_words_83 rfl rfl ?_
          obtain ⟨v11, ev11, hx⟩ := ob hx
          refine jj_callV C [] lk_X7_106 (mc_X7_takeText X.2.1 G F n ev11) (o_X7_takeText ev11) rfl rfl (Nat.le_of_ble_eq_true rfl) ⟨Nat.le_of_ble_eq_true rfl, Nat.le_of_ble_eq_true rfl⟩ ⟨Nat.zero_le _, Nat.zero_le _⟩ rfl dX7_words_84 rfl rfl ?_
          refine jj_aload_n C 0 2 dX7_words_87 rfl rfl ?_
          obtain ⟨v12, ev12, hx⟩ := ob hx
          refine jj_getI C fd_X7_109 dX7_words_88 ev12 ?_
          obtain rfl := Option.some.inj hx
          exact jj_iret C dX7_words_91 rfl
        · rw [if_neg q74] at hx
          refine jj_bipush (v := (-100)) C dX7_words_77 (by decide) ?_
          refine jj_iload C 6 0 dX7_words_79 rfl ?_
          refine jj_isub C dX7_words_81 ?_
          obtain rfl := Option.some.inj hx
          exact jj_iret C dX7_words_82 rfl
      · rw [if_neg q42] at hx
        refine jj_aload_n C 0 1 dX7_words_45 rfl rfl ?_
        refine jj_iload C 5 0 dX7_words_46 rfl ?_
        obtain ⟨v13, ev13, hx⟩ := ob hx
        refine jj_callV C [.int v6] lk_X7_98 (mc_X7_failWith X.2.1 G F n ev13) (o_X7_failWith ev13) rfl rfl (Nat.le_of_ble_eq_true rfl) ⟨Nat.le_of_ble_eq_true rfl, Nat.le_of_ble_eq_true rfl⟩ ⟨Nat.zero_le _, Nat.zero_le _⟩ rfl dX7_words_48 rfl rfl ?_
        obtain rfl := Option.some.inj hx
        exact jj_iret C dX7_words_51 rfl
    · rw [if_pos q19] at hx
      refine jj_bipush (v := (-2)) C dX7_words_22 (by decide) ?_
      obtain rfl := Option.some.inj hx
      exact jj_iret C dX7_words_24 rfl
  · rw [if_pos q9] at hx
    refine jj_iconst (v := (-1)) C dX7_words_12 (by decide) ?_
    obtain rfl := Option.some.inj hx
    exact jj_iret C dX7_words_13 rfl
