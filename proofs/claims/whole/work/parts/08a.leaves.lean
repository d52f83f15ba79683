def x_J6_bitCount_0f7a4 (F : Nat) (h : pH) (l0 : Int32) : Option Int32 :=
  some ((((((((l0 - (((l0.toUInt32 >>> ((1 : Int32).toUInt32 &&& Int32.toUInt32 31)).toInt32) &&& (1431655765 : Int32))) &&& (858993459 : Int32)) + ((((l0 - (((l0.toUInt32 >>> ((1 : Int32).toUInt32 &&& Int32.toUInt32 31)).toInt32) &&& (1431655765 : Int32))).toUInt32 >>> ((2 : Int32).toUInt32 &&& Int32.toUInt32 31)).toInt32) &&& (858993459 : Int32))) + (((((l0 - (((l0.toUInt32 >>> ((1 : Int32).toUInt32 &&& Int32.toUInt32 31)).toInt32) &&& (1431655765 : Int32))) &&& (858993459 : Int32)) + ((((l0 - (((l0.toUInt32 >>> ((1 : Int32).toUInt32 &&& Int32.toUInt32 31)).toInt32) &&& (1431655765 : Int32))).toUInt32 >>> ((2 : Int32).toUInt32 &&& Int32.toUInt32 31)).toInt32) &&& (858993459 : Int32))).toUInt32 >>> ((4 : Int32).toUInt32 &&& Int32.toUInt32 31)).toInt32)) &&& (252645135 : Int32)) + (((((((l0 - (((l0.toUInt32 >>> ((1 : Int32).toUInt32 &&& Int32.toUInt32 31)).toInt32) &&& (1431655765 : Int32))) &&& (858993459 : Int32)) + ((((l0 - (((l0.toUInt32 >>> ((1 : Int32).toUInt32 &&& Int32.toUInt32 31)).toInt32) &&& (1431655765 : Int32))).toUInt32 >>> ((2 : Int32).toUInt32 &&& Int32.toUInt32 31)).toInt32) &&& (858993459 : Int32))) + (((((l0 - (((l0.toUInt32 >>> ((1 : Int32).toUInt32 &&& Int32.toUInt32 31)).toInt32) &&& (1431655765 : Int32))) &&& (858993459 : Int32)) + ((((l0 - (((l0.toUInt32 >>> ((1 : Int32).toUInt32 &&& Int32.toUInt32 31)).toInt32) &&& (1431655765 : Int32))).toUInt32 >>> ((2 : Int32).toUInt32 &&& Int32.toUInt32 31)).toInt32) &&& (858993459 : Int32))).toUInt32 >>> ((4 : Int32).toUInt32 &&& Int32.toUInt32 31)).toInt32)) &&& (252645135 : Int32)).toUInt32 >>> ((8 : Int32).toUInt32 &&& Int32.toUInt32 31)).toInt32)) + ((((((((l0 - (((l0.toUInt32 >>> ((1 : Int32).toUInt32 &&& Int32.toUInt32 31)).toInt32) &&& (1431655765 : Int32))) &&& (858993459 : Int32)) + ((((l0 - (((l0.toUInt32 >>> ((1 : Int32).toUInt32 &&& Int32.toUInt32 31)).toInt32) &&& (1431655765 : Int32))).toUInt32 >>> ((2 : Int32).toUInt32 &&& Int32.toUInt32 31)).toInt32) &&& (858993459 : Int32))) + (((((l0 - (((l0.toUInt32 >>> ((1 : Int32).toUInt32 &&& Int32.toUInt32 31)).toInt32) &&& (1431655765 : Int32))) &&& (858993459 : Int32)) + ((((l0 - (((l0.toUInt32 >>> ((1 : Int32).toUInt32 &&& Int32.toUInt32 31)).toInt32) &&& (1431655765 : Int32))).toUInt32 >>> ((2 : Int32).toUInt32 &&& Int32.toUInt32 31)).toInt32) &&& (858993459 : Int32))).toUInt32 >>> ((4 : Int32).toUInt32 &&& Int32.toUInt32 31)).toInt32)) &&& (252645135 : Int32)) + (((((((l0 - (((l0.toUInt32 >>> ((1 : Int32).toUInt32 &&& Int32.toUInt32 31)).toInt32) &&& (1431655765 : Int32))) &&& (858993459 : Int32)) + ((((l0 - (((l0.toUInt32 >>> ((1 : Int32).toUInt32 &&& Int32.toUInt32 31)).toInt32) &&& (1431655765 : Int32))).toUInt32 >>> ((2 : Int32).toUInt32 &&& Int32.toUInt32 31)).toInt32) &&& (858993459 : Int32))) + (((((l0 - (((l0.toUInt32 >>> ((1 : Int32).toUInt32 &&& Int32.toUInt32 31)).toInt32) &&& (1431655765 : Int32))) &&& (858993459 : Int32)) + ((((l0 - (((l0.toUInt32 >>> ((1 : Int32).toUInt32 &&& Int32.toUInt32 31)).toInt32) &&& (1431655765 : Int32))).toUInt32 >>> ((2 : Int32).toUInt32 &&& Int32.toUInt32 31)).toInt32) &&& (858993459 : Int32))).toUInt32 >>> ((4 : Int32).toUInt32 &&& Int32.toUInt32 31)).toInt32)) &&& (252645135 : Int32)).toUInt32 >>> ((8 : Int32).toUInt32 &&& Int32.toUInt32 31)).toInt32)).toUInt32 >>> ((16 : Int32).toUInt32 &&& Int32.toUInt32 31)).toInt32)) &&& (63 : Int32))
theorem mc_J6_bitCount_0f7a4 (l : Launch) (G : pG) (F n : Nat) {h : pH} {l0 : Int32} {res : Int32} (hx : x_J6_bitCount_0f7a4 F h l0 = some res) : MC l yJ6_bitCount_0f7a4 cJ6_bitCount_0f7a4 1 (some (FieldType.int)) (rmD 0 0 0) G [.int l0] n h (some (.int res)) n h := by
  unfold x_J6_bitCount_0f7a4 at hx
  refine jj_entry RJ6 rfl (by decide) (Nat.le_of_ble_eq_true rfl) (fun X _ _ C => ?_)
  show J X G (0, 0, some (.int res), n, h) (0, 0, n) h 0 [(0, .int l0)] []
  refine jj_iload_n C 0 0 dJ6_bitCount_0f7a4_0 rfl rfl ?_
  refine jj_iload_n C 0 0 dJ6_bitCount_0f7a4_1 rfl rfl ?_
  refine jj_iconst (v := 1) C dJ6_bitCount_0f7a4_2 (by decide) ?_
  refine jj_iushr C dJ6_bitCount_0f7a4_3 ?_
  refine jj_ldcw C dJ6_bitCount_0f7a4_4 ct_J6_265 ?_
  refine jj_iand C dJ6_bitCount_0f7a4_7 ?_
  refine jj_isub C dJ6_bitCount_0f7a4_8 ?_
  refine jj_istore_n C 0 dJ6_bitCount_0f7a4_9 rfl rfl (by decide) ?_
  refine jj_iload_n C 0 0 dJ6_bitCount_0f7a4_10 rfl rfl ?_
  refine jj_ldcw C dJ6_bitCount_0f7a4_11 ct_J6_266 ?_
  refine jj_iand C dJ6_bitCount_0f7a4_14 ?_
  refine jj_iload_n C 0 0 dJ6_bitCount_0f7a4_15 rfl rfl ?_
  refine jj_iconst (v := 2) C dJ6_bitCount_0f7a4_16 (by decide) ?_
  refine jj_iushr C dJ6_bitCount_0f7a4_17 ?_
  refine jj_ldcw C dJ6_bitCount_0f7a4_18 ct_J6_266 ?_
  refine jj_iand C dJ6_bitCount_0f7a4_21 ?_
  refine jj_iadd C dJ6_bitCount_0f7a4_22 ?_
  refine jj_istore_n C 0 dJ6_bitCount_0f7a4_23 rfl rfl (by decide) ?_
  refine jj_iload_n C 0 0 dJ6_bitCount_0f7a4_24 rfl rfl ?_
  refine jj_iload_n C 0 0 dJ6_bitCount_0f7a4_25 rfl rfl ?_
  refine jj_iconst (v := 4) C dJ6_bitCount_0f7a4_26 (by decide) ?_
  refine jj_iushr C dJ6_bitCount_0f7a4_27 ?_
  refine jj_iadd C dJ6_bitCount_0f7a4_28 ?_
  refine jj_ldcw C dJ6_bitCount_0f7a4_29 ct_J6_267 ?_
  refine jj_iand C dJ6_bitCount_0f7a4_32 ?_
  refine jj_istore_n C 0 dJ6_bitCount_0f7a4_33 rfl rfl (by decide) ?_
  refine jj_iload_n C 0 0 dJ6_bitCount_0f7a4_34 rfl rfl ?_
  refine jj_iload_n C 0 0 dJ6_bitCount_0f7a4_35 rfl rfl ?_
  refine jj_bipush (v := 8) C dJ6_bitCount_0f7a4_36 (by decide) ?_
  refine jj_iushr C dJ6_bitCount_0f7a4_38 ?_
  refine jj_iadd C dJ6_bitCount_0f7a4_39 ?_
  refine jj_istore_n C 0 dJ6_bitCount_0f7a4_40 rfl rfl (by decide) ?_
  refine jj_iload_n C 0 0 dJ6_bitCount_0f7a4_41 rfl rfl ?_
  refine jj_iload_n C 0 0 dJ6_bitCount_0f7a4_42 rfl rfl ?_
  refine jj_bipush (v := 16) C dJ6_bitCount_0f7a4_43 (by decide) ?_
  refine jj_iushr C dJ6_bitCount_0f7a4_45 ?_
  refine jj_iadd C dJ6_bitCount_0f7a4_46 ?_
  refine jj_istore_n C 0 dJ6_bitCount_0f7a4_47 rfl rfl (by decide) ?_
  refine jj_iload_n C 0 0 dJ6_bitCount_0f7a4_48 rfl rfl ?_
  refine jj_bipush (v := 63) C dJ6_bitCount_0f7a4_49 (by decide) ?_
  refine jj_iand C dJ6_bitCount_0f7a4_51 ?_
  obtain rfl := Option.some.inj hx
  exact jj_iret C dJ6_bitCount_0f7a4_52 rfl
def s_J7_fill_53178_5 (F : Nat)  (l0 : Nat) (l1 : Int32) (l3 : Int32) (k5 : pH → Int32 → Option pH) (h : pH) (l2 : Int32) : Option pH :=
  if l3 ≤ l2 then
    some h
  else
    (astI 0 h l0 l2 l1).bind fun v1 =>
    k5 v1 (l2 + 1)
def x_J7_fill_53178_5 (F : Nat)  (l0 : Nat) (l1 : Int32) (l3 : Int32) : Nat → pH → Int32 → Option pH
  | 0, _, _ => none
  | m + 1, h, l2 => s_J7_fill_53178_5 F l0 l1 l3 (x_J7_fill_53178_5 F l0 l1 l3 m) h l2
theorem ts_J7_fill_53178_5 {X : pX} {G : pG} {n : Nat} {res : pH} (C : Cx X G RJ7 cJ7_fill_53178 4 (rmD 0 0 0) n none) (F : Nat) {l0 : Nat} {l1 : Int32} {l3 : Int32} {k5 : pH → Int32 → Option pH} (hk5 : ∀ (h : pH) (l2 : Int32), k5 h l2 = some res → J X G (0, 0, none, n, res) (0, 0, n) h 5 [(0, .ref l0), (1, .int l1), (2, .int l2), (3, .int l3)] []) {h : pH} {l2 : Int32} (hx : s_J7_fill_53178_5 F l0 l1 l3 k5 h l2 = some res) : J X G (0, 0, none, n, res) (0, 0, n) h 5 [(0, .ref l0), (1, .int l1), (2, .int l2), (3, .int l3)] [] := by
  unfold s_J7_fill_53178_5 at hx
  refine jj_iload_n C 2 2 dJ7_fill_53178_5 rfl rfl ?_
  refine jj_iload_n C 3 3 dJ7_fill_53178_6 rfl rfl ?_
  refine jj_icmp_ge (tgt := 20) C dJ7_fill_53178_7 (by decide) (fun q7 => ?_) (fun q7 => ?_)
  · rw [if_pos q7] at hx
    obtain rfl := Option.some.inj hx
    exact jj_vret C dJ7_fill_53178_20 rfl
  · rw [if_neg q7] at hx
    refine jj_aload_n C 0 0 dJ7_fill_53178_10 rfl rfl ?_
    refine jj_iload_n C 2 2 dJ7_fill_53178_11 rfl rfl ?_
    refine jj_iload_n C 1 1 dJ7_fill_53178_12 rfl rfl ?_
    obtain ⟨v1, ev1, hx⟩ := ob hx
    refine jj_iast C dJ7_fill_53178_13 ev1 ?_
    refine jj_iinc (v := l2 + 1) C 2 2 dJ7_fill_53178_14 rfl rfl rfl (by decide) ?_
    refine jj_goto (tgt := 5) C dJ7_fill_53178_17 (by decide) ?_
    refine jj_sub [1, 2, 0, 3] rfl ?_
    exact hk5 _ _ hx
theorem t_J7_fill_53178_5 {X : pX} {G : pG} {n : Nat} {res : pH} (C : Cx X G RJ7 cJ7_fill_53178 4 (rmD 0 0 0) n none) (F : Nat) {l0 : Nat} {l1 : Int32} {l3 : Int32} : ∀ (m : Nat) (h : pH) (l2 : Int32), x_J7_fill_53178_5 F l0 l1 l3 m h l2 = some res → J X G (0, 0, none, n, res) (0, 0, n) h 5 [(0, .ref l0), (1, .int l1), (2, .int l2), (3, .int l3)] [] := by
  intro m
  induction m with
  | zero => intro h l2 hx; exact nomatch (show (none : Option pH) = some res from hx)
  | succ m ih => intro h l2 hx; exact ts_J7_fill_53178_5 C F  ih hx
def x_J7_fill_53178 (F : Nat) (h : pH) (l0 : Nat) (l1 : Int32) : Option pH :=
  (alen h l0).bind fun v1 =>
  x_J7_fill_53178_5 F l0 l1 v1 F h 0
theorem mc_J7_fill_53178 (l : Launch) (G : pG) (F n : Nat) {h : pH} {l0 : Nat} {l1 : Int32} {res : pH} (hx : x_J7_fill_53178 F h l0 l1 = some res) : MC l yJ7_fill_53178 cJ7_fill_53178 4 none (rmD 0 0 0) G [.ref l0, .int l1] n h (none) n res := by
  unfold x_J7_fill_53178 at hx
  refine jj_entry RJ7 rfl (by decide) (Nat.le_of_ble_eq_true rfl) (fun X _ _ C => ?_)
  show J X G (0, 0, none, n, res) (0, 0, n) h 0 [(0, .ref l0), (1, .int l1)] []
  refine jj_iconst (v := 0) C dJ7_fill_53178_0 (by decide) ?_
  refine jj_istore_n C 2 dJ7_fill_53178_1 rfl rfl (by decide) ?_
  refine jj_aload_n C 0 1 dJ7_fill_53178_2 rfl rfl ?_
  obtain ⟨v1, ev1, hx⟩ := ob hx
  refine jj_alen C dJ7_fill_53178_3 ev1 ?_
  refine jj_istore_n C 3 dJ7_fill_53178_4 rfl rfl (by decide) ?_
  refine jj_sub [2, 3, 1, 0] rfl ?_
  exact t_J7_fill_53178_5 C F F _ _ hx
def s_J7_fill_d0a16_6 (F : Nat)  (l0 : Nat) (l1 : Int64) (l4 : Int32) (k6 : pH → Int32 → Option pH) (h : pH) (l3 : Int32) : Option pH :=
  if l4 ≤ l3 then
    some h
  else
    (astL h l0 l3 l1).bind fun v1 =>
    k6 v1 (l3 + 1)
def x_J7_fill_d0a16_6 (F : Nat)  (l0 : Nat) (l1 : Int64) (l4 : Int32) : Nat → pH → Int32 → Option pH
  | 0, _, _ => none
  | m + 1, h, l3 => s_J7_fill_d0a16_6 F l0 l1 l4 (x_J7_fill_d0a16_6 F l0 l1 l4 m) h l3
theorem ts_J7_fill_d0a16_6 {X : pX} {G : pG} {n : Nat} {res : pH} (C : Cx X G RJ7 cJ7_fill_d0a16 5 (rmD 0 0 0) n none) (F : Nat) {l0 : Nat} {l1 : Int64} {l4 : Int32} {k6 : pH → Int32 → Option pH} (hk6 : ∀ (h : pH) (l3 : Int32), k6 h l3 = some res → J X G (0, 0, none, n, res) (0, 0, n) h 6 [(0, .ref l0), (1, .long l1), (3, .int l3), (4, .int l4)] []) {h : pH} {l3 : Int32} (hx : s_J7_fill_d0a16_6 F l0 l1 l4 k6 h l3 = some res) : J X G (0, 0, none, n, res) (0, 0, n) h 6 [(0, .ref l0), (1, .long l1), (3, .int l3), (4, .int l4)] [] := by
  unfold s_J7_fill_d0a16_6 at hx
  refine jj_iload_n C 3 2 dJ7_fill_d0a16_6 rfl rfl ?_
  refine jj_iload C 4 3 dJ7_fill_d0a16_7 rfl ?_
  refine jj_icmp_ge (tgt := 22) C dJ7_fill_d0a16_9 (by decide) (fun q9 => ?_) (fun q9 => ?_)
  · rw [if_pos q9] at hx
    obtain rfl := Option.some.inj hx
    exact jj_vret C dJ7_fill_d0a16_22 rfl
  · rw [if_neg q9] at hx
    refine jj_aload_n C 0 0 dJ7_fill_d0a16_12 rfl rfl ?_
    refine jj_iload_n C 3 2 dJ7_fill_d0a16_13 rfl rfl ?_
    refine jj_lload_n C 1 1 dJ7_fill_d0a16_14 rfl rfl ?_
    obtain ⟨v1, ev1, hx⟩ := ob hx
    refine jj_last C dJ7_fill_d0a16_15 ev1 ?_
    refine jj_iinc (v := l3 + 1) C 3 2 dJ7_fill_d0a16_16 rfl rfl rfl (by decide) ?_
    refine jj_goto (tgt := 6) C dJ7_fill_d0a16_19 (by decide) ?_
    refine jj_sub [1, 2, 0, 3] rfl ?_
    exact hk6 _ _ hx
theorem t_J7_fill_d0a16_6 {X : pX} {G : pG} {n : Nat} {res : pH} (C : Cx X G RJ7 cJ7_fill_d0a16 5 (rmD 0 0 0) n none) (F : Nat) {l0 : Nat} {l1 : Int64} {l4 : Int32} : ∀ (m : Nat) (h : pH) (l3 : Int32), x_J7_fill_d0a16_6 F l0 l1 l4 m h l3 = some res → J X G (0, 0, none, n, res) (0, 0, n) h 6 [(0, .ref l0), (1, .long l1), (3, .int l3), (4, .int l4)] [] := by
  intro m
  induction m with
  | zero => intro h l3 hx; exact nomatch (show (none : Option pH) = some res from hx)
  | succ m ih => intro h l3 hx; exact ts_J7_fill_d0a16_6 C F  ih hx
def x_J7_fill_d0a16 (F : Nat) (h : pH) (l0 : Nat) (l1 : Int64) : Option pH :=
  (alen h l0).bind fun v1 =>
  x_J7_fill_d0a16_6 F l0 l1 v1 F h 0
theorem mc_J7_fill_d0a16 (l : Launch) (G : pG) (F n : Nat) {h : pH} {l0 : Nat} {l1 : Int64} {res : pH} (hx : x_J7_fill_d0a16 F h l0 l1 = some res) : MC l yJ7_fill_d0a16 cJ7_fill_d0a16 5 none (rmD 0 0 0) G [.ref l0, .long l1] n h (none) n res := by
  unfold x_J7_fill_d0a16 at hx
  refine jj_entry RJ7 rfl (by decide) (Nat.le_of_ble_eq_true rfl) (fun X _ _ C => ?_)
  show J X G (0, 0, none, n, res) (0, 0, n) h 0 [(0, .ref l0), (1, .long l1)] []
  refine jj_iconst (v := 0) C dJ7_fill_d0a16_0 (by decide) ?_
  refine jj_istore_n C 3 dJ7_fill_d0a16_1 rfl rfl (by decide) ?_
  refine jj_aload_n C 0 1 dJ7_fill_d0a16_2 rfl rfl ?_
  obtain ⟨v1, ev1, hx⟩ := ob hx
  refine jj_alen C dJ7_fill_d0a16_3 ev1 ?_
  refine jj_istore C 4 dJ7_fill_d0a16_4 rfl (by decide) ?_
  refine jj_sub [2, 3, 1, 0] rfl ?_
  exact t_J7_fill_d0a16_6 C F F _ _ hx
def x_X6_letterOf_11 (F : Nat)  (h : pH) (l0 : Nat) (l2 : Int32) : Option Int32 :=
  (getR 6 h l0 0).bind fun v1 =>
  (aldI 0 h v1 l2).bind fun v2 =>
  some v2
theorem t_X6_letterOf_11 {X : pX} {G : pG} {n : Nat} {res : Int32} (C : Cx X G RX6 cX6_letterOf 3 (rmD 0 0 0) n (some (FieldType.int))) (F : Nat) {h : pH} {l0 : Nat} {l2 : Int32} (hx : x_X6_letterOf_11 F h l0 l2 = some res) : J X G (0, 0, some (.int res), n, h) (0, 0, n) h 11 [(0, .ref l0), (2, .int l2)] [] := by
  unfold x_X6_letterOf_11 at hx
  refine jj_aload_n C 0 0 dX6_letterOf_11 rfl rfl ?_
  obtain ⟨v1, ev1, hx⟩ := ob hx
  refine jj_getR C fd_X6_9 dX6_letterOf_12 ev1 ?_
  refine jj_iload_n C 2 1 dX6_letterOf_15 rfl rfl ?_
  obtain ⟨v2, ev2, hx⟩ := ob hx
  refine jj_iald C dX6_letterOf_16 ev2 ?_
  obtain rfl := Option.some.inj hx
  exact jj_iret C dX6_letterOf_17 rfl
def x_X6_letterOf_61 (F : Nat)  (h : pH) (s0 : Int32) (s1 : Nat) : Option Int32 :=
  (aldI 0 h s1 s0).bind fun v1 =>
  some v1
theorem t_X6_letterOf_61 {X : pX} {G : pG} {n : Nat} {res : Int32} (C : Cx X G RX6 cX6_letterOf 3 (rmD 0 0 0) n (some (FieldType.int))) (F : Nat) {h : pH} {s0 : Int32} {s1 : Nat} (hx : x_X6_letterOf_61 F h s0 s1 = some res) : J X G (0, 0, some (.int res), n, h) (0, 0, n) h 61 [] [.int s0, .ref s1] := by
  unfold x_X6_letterOf_61 at hx
  obtain ⟨v1, ev1, hx⟩ := ob hx
  refine jj_iald C dX6_letterOf_61 ev1 ?_
  obtain rfl := Option.some.inj hx
  exact jj_iret C dX6_letterOf_62 rfl
def x_X6_letterOf (F : Nat) (h : pH) (l0 : Nat) (l1 : Int32) (l2 : Int32) : Option Int32 :=
  (chk 6 h l0).bind fun _ =>
  if l1 = 0 then
    x_X6_letterOf_11 F h l0 l2
  else
    (getI 6 h l0 2).bind fun v1 =>
    if v1 = 0 then
      x_X6_letterOf_11 F h l0 l2
    else
      (getI 6 h l0 2).bind fun v2 =>
      if v2 = 1 then
        (getR 6 h l0 0).bind fun v5 =>
        (getI 6 h l0 1).bind fun v6 =>
        (aldI 0 h v5 ((v6 - (1 : Int32)) - l2)).bind fun v7 =>
        some v7
      else
        (getR 6 h l0 0).bind fun v3 =>
        (getI 6 h l0 1).bind fun v4 =>
        if v4 ≤ (l2 + (1 : Int32)) then
          x_X6_letterOf_61 F h 0 v3
        else
          x_X6_letterOf_61 F h (l2 + (1 : Int32)) v3
theorem o_X6_letterOf {F : Nat} {h : pH} {l0 : Nat} {l1 : Int32} {l2 : Int32} {res : Int32} (hx : x_X6_letterOf F h l0 l1 l2 = some res) : chk 6 h l0 = some () := by
  unfold x_X6_letterOf at hx
  obtain ⟨_, e, _⟩ := ob hx
  exact e
theorem mc_X6_letterOf (l : Launch) (G : pG) (F n : Nat) {h : pH} {l0 : Nat} {l1 : Int32} {l2 : Int32} {res : Int32} (hx : x_X6_letterOf F h l0 l1 l2 = some res) : MC l yX6_letterOf cX6_letterOf 3 (some (FieldType.int)) (rmD 0 0 0) G [.ref l0, .int l1, .int l2] n h (some (.int res)) n h := by
  unfold x_X6_letterOf at hx
  obtain ⟨_, _, hx⟩ := ob hx
  refine jj_entry RX6 rfl (by decide) (Nat.le_of_ble_eq_true rfl) (fun X _ _ C => ?_)
  show J X G (0, 0, some (.int res), n, h) (0, 0, n) h 0 [(0, .ref l0), (1, .int l1), (2, .int l2)] []
  refine jj_iload_n C 1 1 dX6_letterOf_0 rfl rfl ?_
  refine jj_if_eq (tgt := 11) C dX6_letterOf_1 (by decide) (fun q1 => ?_) (fun q1 => ?_)
  · rw [if_pos q1] at hx
    refine jj_sub [0, 2] rfl ?_
    exact t_X6_letterOf_11 C F hx
  · rw [if_neg q1] at hx
    refine jj_aload_n C 0 0 dX6_letterOf_4 rfl rfl ?_
    obtain ⟨v1, ev1, hx⟩ := ob hx
    refine jj_getI C fd_X6_15 dX6_letterOf_5 ev1 ?_
    refine jj_if_ne (tgt := 18) C dX6_letterOf_8 (by decide) (fun q8 => ?_) (fun q8 => ?_)
    · rw [if_neg q8] at hx
      refine jj_aload_n C 0 0 dX6_letterOf_18 rfl rfl ?_
      obtain ⟨v2, ev2, hx⟩ := ob hx
      refine jj_getI C fd_X6_15 dX6_letterOf_19 ev2 ?_
      refine jj_iconst (v := 1) C dX6_letterOf_22 (by decide) ?_
      refine jj_icmp_ne (tgt := 40) C dX6_letterOf_23 (by decide) (fun q23 => ?_) (fun q23 => ?_)
      · rw [if_neg q23] at hx
        refine jj_aload_n C 0 0 dX6_letterOf_40 rfl rfl ?_
        obtain ⟨v3, ev3, hx⟩ := ob hx
        refine jj_getR C fd_X6_9 dX6_letterOf_41 ev3 ?_
        refine jj_iload_n C 2 2 dX6_letterOf_44 rfl rfl ?_
        refine jj_iconst (v := 1) C dX6_letterOf_45 (by decide) ?_
        refine jj_iadd C dX6_letterOf_46 ?_
        refine jj_aload_n C 0 0 dX6_letterOf_47 rfl rfl ?_
        obtain ⟨v4, ev4, hx⟩ := ob hx
        refine jj_getI C fd_X6_19 dX6_letterOf_48 ev4 ?_
        refine jj_icmp_ge (tgt := 60) C dX6_letterOf_51 (by decide) (fun q51 => ?_) (fun q51 => ?_)
        · rw [if_pos q51] at hx
          refine jj_iconst (v := 0) C dX6_letterOf_60 (by decide) ?_
          refine jj_sub [] rfl ?_
          exact t_X6_letterOf_61 C F hx
        · rw [if_neg q51] at hx
          refine jj_iload_n C 2 2 dX6_letterOf_54 rfl rfl ?_
          refine jj_iconst (v := 1) C dX6_letterOf_55 (by decide) ?_
          refine jj_iadd C dX6_letterOf_56 ?_
          refine jj_goto (tgt := 61) C dX6_letterOf_57 (by decide) ?_
          refine jj_sub [] rfl ?_
          exact t_X6_letterOf_61 C F hx
      · rw [if_pos q23] at hx
        refine jj_aload_n C 0 0 dX6_letterOf_26 rfl rfl ?_
        obtain ⟨v5, ev5, hx⟩ := ob hx
        refine jj_getR C fd_X6_9 dX6_letterOf_27 ev5 ?_
        refine jj_aload_n C 0 0 dX6_letterOf_30 rfl rfl ?_
        obtain ⟨v6, ev6, hx⟩ := ob hx
        refine jj_getI C fd_X6_19 dX6_letterOf_31 ev6 ?_
        refine jj_iconst (v := 1) C dX6_letterOf_34 (by decide) ?_
        refine jj_isub C dX6_letterOf_35 ?_
        refine jj_iload_n C 2 2 dX6_letterOf_36 rfl rfl ?_
        refine jj_isub C dX6_letterOf_37 ?_
        obtain ⟨v7, ev7, hx⟩ := ob hx
        refine jj_iald C dX6_letterOf_38 ev7 ?_
        obtain rfl := Option.some.inj hx
        exact jj_iret C dX6_letterOf_39 rfl
    · rw [if_pos q8] at hx
      refine jj_sub [0, 2] rfl ?_
      exact t_X6_letterOf_11 C F hx
def s_X6_formEndsAt_24 (F : Nat)  (h : pH) (l0 : Nat) (l1 : Int32) (l2 : Nat) (l4 : Int32) (k24 : Int32 → Option Int32) (l5 : Int32) : Option Int32 :=
  (getI 6 h l0 1).bind fun v1 =>
  if v1 ≤ l5 then
    some (1 : Int32)
  else
    (aldI 0 h l2 (l4 + l5)).bind fun v2 =>
    (x_X6_letterOf F h l0 l1 l5).bind fun v3 =>
    if v2 = v3 then
      k24 (l5 + 1)
    else
      some (0 : Int32)
def x_X6_formEndsAt_24 (F : Nat)  (h : pH) (l0 : Nat) (l1 : Int32) (l2 : Nat) (l4 : Int32) : Nat → Int32 → Option Int32
  | 0, _ => none
  | m + 1, l5 => s_X6_formEndsAt_24 F h l0 l1 l2 l4 (x_X6_formEndsAt_24 F h l0 l1 l2 l4 m) l5
theorem ts_X6_formEndsAt_24 {X : pX} {G : pG} {n : Nat} {res : Int32} (C : Cx X G RX6 cX6_formEndsAt 6 (rmD 1 0 0) n (some (FieldType.boolean))) (F : Nat) {h : pH} {l0 : Nat} {l1 : Int32} {l2 : Nat} {l4 : Int32} {k24 : Int32 → Option Int32} (hk24 : ∀ (l5 : Int32), k24 l5 = some res → J X G (0, 0, some (.int res), n, h) (0, 0, n) h 24 [(0, .ref l0), (1, .int l1), (2, .ref l2), (4, .int l4), (5, .int l5)] []) {l5 : Int32} (hx : s_X6_formEndsAt_24 F h l0 l1 l2 l4 k24 l5 = some res) : J X G (0, 0, some (.int res), n, h) (0, 0, n) h 24 [(0, .ref l0), (1, .int l1), (2, .ref l2), (4, .int l4), (5, .int l5)] [] := by
  unfold s_X6_formEndsAt_24 at hx
  refine jj_iload C 5 4 dX6_formEndsAt_24 rfl ?_
  refine jj_aload_n C 0 0 dX6_formEndsAt_26 rfl rfl ?_
  obtain ⟨v1, ev1, hx⟩ := ob hx
  refine jj_getI C fd_X6_19 dX6_formEndsAt_27 ev1 ?_
  refine jj_icmp_ge (tgt := 58) C dX6_formEndsAt_30 (by decide) (fun q30 => ?_) (fun q30 => ?_)
  · rw [if_pos q30] at hx
    refine jj_iconst (v := 1) C dX6_formEndsAt_58 (by decide) ?_
    obtain rfl := Option.some.inj hx
    exact jj_zret C (Or.inr rfl) dX6_formEndsAt_59 rfl
  · rw [if_neg q30] at hx
    refine jj_aload_n C 2 2 dX6_formEndsAt_33 rfl rfl ?_
    refine jj_iload C 4 3 dX6_formEndsAt_34 rfl ?_
    refine jj_iload C 5 4 dX6_formEndsAt_36 rfl ?_
    refine jj_iadd C dX6_formEndsAt_38 ?_
    obtain ⟨v2, ev2, hx⟩ := ob hx
    refine jj_iald C dX6_formEndsAt_39 ev2 ?_
    refine jj_aload_n C 0 0 dX6_formEndsAt_40 rfl rfl ?_
    refine jj_iload_n C 1 1 dX6_formEndsAt_41 rfl rfl ?_
    refine jj_iload C 5 4 dX6_formEndsAt_42 rfl ?_
    obtain ⟨v3, ev3, hx⟩ := ob hx
    refine jj_callV C [.int l1, .int l5] lk_X6_28 (mc_X6_letterOf X.2.1 G F n ev3) (o_X6_letterOf ev3) rfl rfl (Nat.le_of_ble_eq_true rfl) ⟨Nat.le_of_ble_eq_true rfl, Nat.le_of_ble_eq_true rfl⟩ ⟨Nat.zero_le _, Nat.zero_le _⟩ rfl dX6_formEndsAt_44 rfl rfl ?_
    refine jj_icmp_eq (tgt := 52) C dX6_formEndsAt_47 (by decide) (fun q47 => ?_) (fun q47 => ?_)
    · rw [if_pos q47] at hx
      refine jj_iinc (v := l5 + 1) C 5 4 dX6_formEndsAt_52 rfl rfl rfl (by decide) ?_
      refine jj_goto (tgt := 24) C dX6_formEndsAt_55 (by decide) ?_
      refine jj_sub [1, 2, 3, 4, 0] rfl ?_
      exact hk24 _ hx
    · rw [if_neg q47] at hx
      refine jj_iconst (v := 0) C dX6_formEndsAt_50 (by decide) ?_
      obtain rfl := Option.some.inj hx
      exact jj_zret C (Or.inl rfl) dX6_formEndsAt_51 rfl
theorem t_X6_formEndsAt_24 {X : pX} {G : pG} {n : Nat} {res : Int32} (C : Cx X G RX6 cX6_formEndsAt 6 (rmD 1 0 0) n (some (FieldType.boolean))) (F : Nat) {h : pH} {l0 : Nat} {l1 : Int32} {l2 : Nat} {l4 : Int32} : ∀ (m : Nat) (l5 : Int32), x_X6_formEndsAt_24 F h l0 l1 l2 l4 m l5 = some res → J X G (0, 0, some (.int res), n, h) (0, 0, n) h 24 [(0, .ref l0), (1, .int l1), (2, .ref l2), (4, .int l4), (5, .int l5)] [] := by
  intro m
  induction m with
  | zero => intro l5 hx; exact nomatch (show (none : Option Int32) = some res from hx)
  | succ m ih => intro l5 hx; exact ts_X6_formEndsAt_24 C F  ih hx
def x_X6_formEndsAt (F : Nat) (h : pH) (l0 : Nat) (l1 : Int32) (l2 : Nat) (l3 : Int32) : Option Int32 :=
  (chk 6 h l0).bind fun _ =>
  (getI 6 h l0 1).bind fun v1 =>
  if (l3 - v1) < 0 then
    some (0 : Int32)
  else
    (alen h l2).bind fun v2 =>
    if l3 ≤ v2 then
      x_X6_formEndsAt_24 F h l0 l1 l2 (l3 - v1) F 0
    else
      some (0 : Int32)
theorem o_X6_formEndsAt {F : Nat} {h : pH} {l0 : Nat} {l1 : Int32} {l2 : Nat} {l3 : Int32} {res : Int32} (hx : x_X6_formEndsAt F h l0 l1 l2 l3 = some res) : chk 6 h l0 = some () := by
  unfold x_X6_formEndsAt at hx
  obtain ⟨_, e, _⟩ := ob hx
  exact e
theorem mc_X6_formEndsAt (l : Launch) (G : pG) (F n : Nat) {h : pH} {l0 : Nat} {l1 : Int32} {l2 : Nat} {l3 : Int32} {res : Int32} (hx : x_X6_formEndsAt F h l0 l1 l2 l3 = some res) : MC l yX6_formEndsAt cX6_formEndsAt 6 (some (FieldType.boolean)) (rmD 1 0 0) G [.ref l0, .int l1, .ref l2, .int l3] n h (some (.int res)) n h := by
  unfold x_X6_formEndsAt at hx
  obtain ⟨_, _, hx⟩ := ob hx
  refine jj_entry RX6 rfl (by decide) (Nat.le_of_ble_eq_true rfl) (fun X _ _ C => ?_)
  show J X G (0, 0, some (.int res), n, h) (0, 0, n) h 0 [(0, .ref l0), (1, .int l1), (2, .ref l2), (3, .int l3)] []
  refine jj_iload_n C 3 3 dX6_formEndsAt_0 rfl rfl ?_
  refine jj_aload_n C 0 0 dX6_formEndsAt_1 rfl rfl ?_
  obtain ⟨v1, ev1, hx⟩ := ob hx
  refine jj_getI C fd_X6_19 dX6_formEndsAt_2 ev1 ?_
  refine jj_isub C dX6_formEndsAt_5 ?_
  refine jj_istore C 4 dX6_formEndsAt_6 rfl (by decide) ?_
  refine jj_iload C 4 0 dX6_formEndsAt_8 rfl ?_
  refine jj_if_lt (tgt := 19) C dX6_formEndsAt_10 (by decide) (fun q10 => ?_) (fun q10 => ?_)
  · rw [if_pos q10] at hx
    refine jj_iconst (v := 0) C dX6_formEndsAt_19 (by decide) ?_
    obtain rfl := Option.some.inj hx
    exact jj_zret C (Or.inl rfl) dX6_formEndsAt_20 rfl
  · rw [if_neg q10] at hx
    refine jj_iload_n C 3 4 dX6_formEndsAt_13 rfl rfl ?_
    refine jj_aload_n C 2 3 dX6_formEndsAt_14 rfl rfl ?_
    obtain ⟨v2, ev2, hx⟩ := ob hx
    refine jj_alen C dX6_formEndsAt_15 ev2 ?_
    refine jj_icmp_le (tgt := 21) C dX6_formEndsAt_16 (by decide) (fun q16 => ?_) (fun q16 => ?_)
    · rw [if_pos q16] at hx
      refine jj_iconst (v := 0) C dX6_formEndsAt_21 (by decide) ?_
      refine jj_istore C 5 dX6_formEndsAt_22 rfl (by decide) ?_
      refine jj_sub [2, 3, 4, 1, 0] rfl ?_
      exact t_X6_formEndsAt_24 C F F _ hx
    · rw [if_neg q16] at hx
      refine jj_iconst (v := 0) C dX6_formEndsAt_19 (by decide) ?_
      obtain rfl := Option.some.inj hx
      exact jj_zret C (Or.inl rfl) dX6_formEndsAt_20 rfl
def x_X6_endsAt_27 (F : Nat)  (h : pH) : Option Int32 :=
  some (1 : Int32)
theorem t_X6_endsAt_27 {X : pX} {G : pG} {n : Nat} {res : Int32} (C : Cx X G RX6 cX6_endsAt 3 (rmD 2 0 0) n (some (FieldType.boolean))) (F : Nat) {h : pH} (hx : x_X6_endsAt_27 F h = some res) : J X G (0, 0, some (.int res), n, h) (0, 0, n) h 27 [] [] := by
  unfold x_X6_endsAt_27 at hx
  refine jj_iconst (v := 1) C dX6_endsAt_27 (by decide) ?_
  refine jj_goto (tgt := 32) C dX6_endsAt_28 (by decide) ?_
  obtain rfl := Option.some.inj hx
  exact jj_zret C (Or.inr rfl) dX6_endsAt_32 rfl
def x_X6_endsAt (F : Nat) (h : pH) (l0 : Nat) (l1 : Nat) (l2 : Int32) : Option Int32 :=
  (chk 6 h l0).bind fun _ =>
  (x_X6_formEndsAt F h l0 0 l1 l2).bind fun v1 =>
  if v1 = 0 then
    (getI 6 h l0 2).bind fun v2 =>
    if v2 = 0 then
      some (0 : Int32)
    else
      (x_X6_formEndsAt F h l0 1 l1 l2).bind fun v3 =>
      if v3 = 0 then
        some (0 : Int32)
      else
        x_X6_endsAt_27 F h
  else
    x_X6_endsAt_27 F h
theorem o_X6_endsAt {F : Nat} {h : pH} {l0 : Nat} {l1 : Nat} {l2 : Int32} {res : Int32} (hx : x_X6_endsAt F h l0 l1 l2 = some res) : chk 6 h l0 = some () := by
  unfold x_X6_endsAt at hx
  obtain ⟨_, e, _⟩ := ob hx
  exact e
theorem mc_X6_endsAt (l : Launch) (G : pG) (F n : Nat) {h : pH} {l0 : Nat} {l1 : Nat} {l2 : Int32} {res : Int32} (hx : x_X6_endsAt F h l0 l1 l2 = some res) : MC l yX6_endsAt cX6_endsAt 3 (some (FieldType.boolean)) (rmD 2 0 0) G [.ref l0, .ref l1, .int l2] n h (some (.int res)) n h := by
  unfold x_X6_endsAt at hx
  obtain ⟨_, _, hx⟩ := ob hx
  refine jj_entry RX6 rfl (by decide) (Nat.le_of_ble_eq_true rfl) (fun X _ _ C => ?_)
  show J X G (0, 0, some (.int res), n, h) (0, 0, n) h 0 [(0, .ref l0), (1, .ref l1), (2, .int l2)] []
  refine jj_aload_n C 0 0 dX6_endsAt_0 rfl rfl ?_
  refine jj_iconst (v := 0) C dX6_endsAt_1 (by decide) ?_
  refine jj_aload_n C 1 1 dX6_endsAt_2 rfl rfl ?_
  refine jj_iload_n C 2 2 dX6_endsAt_3 rfl rfl ?_
  obtain ⟨v1, ev1, hx⟩ := ob hx
  refine jj_callV C [.int 0, .ref l1, .int l2] lk_X6_32 (mc_X6_formEndsAt X.2.1 G F n ev1) (o_X6_formEndsAt ev1) rfl rfl (Nat.le_of_ble_eq_true rfl) ⟨Nat.le_of_ble_eq_true rfl, Nat.le_of_ble_eq_true rfl⟩ ⟨Nat.zero_le _, Nat.zero_le _⟩ rfl dX6_endsAt_4 rfl rfl ?_
  refine jj_if_ne (tgt := 27) C dX6_endsAt_7 (by decide) (fun q7 => ?_) (fun q7 => ?_)
  · rw [if_neg q7] at hx
    refine jj_sub [] rfl ?_
    exact t_X6_endsAt_27 C F hx
  · rw [if_pos q7] at hx
    refine jj_aload_n C 0 0 dX6_endsAt_10 rfl rfl ?_
    obtain ⟨v2, ev2, hx⟩ := ob hx
    refine jj_getI C fd_X6_15 dX6_endsAt_11 ev2 ?_
    refine jj_if_eq (tgt := 31) C dX6_endsAt_14 (by decide) (fun q14 => ?_) (fun q14 => ?_)
    · rw [if_pos q14] at hx
      refine jj_iconst (v := 0) C dX6_endsAt_31 (by decide) ?_
      obtain rfl := Option.some.inj hx
      exact jj_zret C (Or.inl rfl) dX6_endsAt_32 rfl
    · rw [if_neg q14] at hx
      refine jj_aload_n C 0 0 dX6_endsAt_17 rfl rfl ?_
      refine jj_iconst (v := 1) C dX6_endsAt_18 (by decide) ?_
      refine jj_aload_n C 1 1 dX6_endsAt_19 rfl rfl ?_
      refine jj_iload_n C 2 2 dX6_endsAt_20 rfl rfl ?_
      obtain ⟨v3, ev3, hx⟩ := ob hx
      refine jj_callV C [.int 1, .ref l1, .int l2] lk_X6_32 (mc_X6_formEndsAt X.2.1 G F n ev3) (o_X6_formEndsAt ev3) rfl rfl (Nat.le_of_ble_eq_true rfl) ⟨Nat.le_of_ble_eq_true rfl, Nat.le_of_ble_eq_true rfl⟩ ⟨Nat.zero_le _, Nat.zero_le _⟩ rfl dX6_endsAt_21 rfl rfl ?_
      refine jj_if_eq (tgt := 31) C dX6_endsAt_24 (by decide) (fun q24 => ?_) (fun q24 => ?_)
      · rw [if_pos q24] at hx
        refine jj_iconst (v := 0) C dX6_endsAt_31 (by decide) ?_
        obtain rfl := Option.some.inj hx
        exact jj_zret C (Or.inl rfl) dX6_endsAt_32 rfl
      · rw [if_neg q24] at hx
        refine jj_sub [] rfl ?_
        exact t_X6_endsAt_27 C F hx
def x_X7_isBelow (F : Nat) (h : pH) (l0 : Int32) (l1 : Int32) : Option Int32 :=
  if l0 < 0 then
    some (0 : Int32)
  else
    if l1 ≤ l0 then
      some (0 : Int32)
    else
      some (1 : Int32)
theorem mc_X7_isBelow (l : Launch) (G : pG) (F n : Nat) {h : pH} {l0 : Int32} {l1 : Int32} {res : Int32} (hx : x_X7_isBelow F h l0 l1 = some res) : MC l yX7_isBelow cX7_isBelow 2 (some (FieldType.boolean)) (rmD 0 0 0) G [.int l0, .int l1] n h (some (.int res)) n h := by
  unfold x_X7_isBelow at hx
  refine jj_entry RX7 rfl (by decide) (Nat.le_of_ble_eq_true rfl) (fun X _ _ C => ?_)
  show J X G (0, 0, some (.int res), n, h) (0, 0, n) h 0 [(0, .int l0), (1, .int l1)] []
  refine jj_iload_n C 0 0 dX7_isBelow_0 rfl rfl ?_
  refine jj_if_lt (tgt := 13) C dX7_isBelow_1 (by decide) (fun q1 => ?_) (fun q1 => ?_)
  · rw [if_pos q1] at hx
    refine jj_iconst (v := 0) C dX7_isBelow_13 (by decide) ?_
    obtain rfl := Option.some.inj hx
    exact jj_zret C (Or.inl rfl) dX7_isBelow_14 rfl
  · rw [if_neg q1] at hx
    refine jj_iload_n C 0 0 dX7_isBelow_4 rfl rfl ?_
    refine jj_iload_n C 1 1 dX7_isBelow_5 rfl rfl ?_
    refine jj_icmp_ge (tgt := 13) C dX7_isBelow_6 (by decide) (fun q6 => ?_) (fun q6 => ?_)
    · rw [if_pos q6] at hx
      refine jj_iconst (v := 0) C dX7_isBelow_13 (by decide) ?_
      obtain rfl := Option.some.inj hx
      exact jj_zret C (Or.inl rfl) dX7_isBelow_14 rfl
    · rw [if_neg q6] at hx
      refine jj_iconst (v := 1) C dX7_isBelow_9 (by decide) ?_
      refine jj_goto (tgt := 14) C dX7_isBelow_10 (by decide) ?_
      obtain rfl := Option.some.inj hx
      exact jj_zret C (Or.inr rfl) dX7_isBelow_14 rfl
def x_X6_become (F : Nat) (h : pH) (l0 : Nat) (l1 : Nat) : Option pH :=
  (chk 6 h l0).bind fun _ =>
  (getI 6 h l1 2).bind fun v1 =>
  (putV 6 h l0 2 (.int v1)).bind fun v2 =>
  (getI 6 v2 l1 1).bind fun v3 =>
  (putV 6 v2 l0 1 (.int v3)).bind fun v4 =>
  (getR 6 v4 l1 0).bind fun v5 =>
  (getR 6 v4 l0 0).bind fun v6 =>
  (acpI v4 v5 0 v6 0 4).bind fun v7 =>
  some v7
theorem o_X6_become {F : Nat} {h : pH} {l0 : Nat} {l1 : Nat} {res : pH} (hx : x_X6_become F h l0 l1 = some res) : chk 6 h l0 = some () := by
  unfold x_X6_become at hx
  obtain ⟨_, e, _⟩ := ob hx
  exact e
theorem mc_X6_become (l : Launch) (G : pG) (F n : Nat) {h : pH} {l0 : Nat} {l1 : Nat} {res : pH} (hx : x_X6_become F h l0 l1 = some res) : MC l yX6_become cX6_become 2 none (rmD 1 0 0) G [.ref l0, .ref l1] n h (none) n res := by
  unfold x_X6_become at hx
  obtain ⟨_, _, hx⟩ := ob hx
  refine jj_entry RX6 rfl (by decide) (Nat.le_of_ble_eq_true rfl) (fun X _ _ C => ?_)
  show J X G (0, 0, none, n, res) (0, 0, n) h 0 [(0, .ref l0), (1, .ref l1)] []
  refine jj_aload_n C 0 0 dX6_become_0 rfl rfl ?_
  refine jj_aload_n C 1 1 dX6_become_1 rfl rfl ?_
  obtain ⟨v1, ev1, hx⟩ := ob hx
  refine jj_getI C fd_X6_15 dX6_become_2 ev1 ?_
  obtain ⟨v2, ev2, hx⟩ := ob hx
  refine jj_put C fd_X6_15 rfl rfl dX6_become_5 ev2 ?_
  refine jj_aload_n C 0 0 dX6_become_8 rfl rfl ?_
  refine jj_aload_n C 1 1 dX6_become_9 rfl rfl ?_
  obtain ⟨v3, ev3, hx⟩ := ob hx
  refine jj_getI C fd_X6_19 dX6_become_10 ev3 ?_
  obtain ⟨v4, ev4, hx⟩ := ob hx
  refine jj_put C fd_X6_19 rfl rfl dX6_become_13 ev4 ?_
  refine jj_aload_n C 1 1 dX6_become_16 rfl rfl ?_
  obtain ⟨v5, ev5, hx⟩ := ob hx
  refine jj_getR C fd_X6_9 dX6_become_17 ev5 ?_
  refine jj_iconst (v := 0) C dX6_become_20 (by decide) ?_
  refine jj_aload_n C 0 0 dX6_become_21 rfl rfl ?_
  obtain ⟨v6, ev6, hx⟩ := ob hx
  refine jj_getR C fd_X6_9 dX6_become_22 ev6 ?_
  refine jj_iconst (v := 0) C dX6_become_25 (by decide) ?_
  refine jj_iconst (v := 4) C dX6_become_26 (by decide) ?_
  obtain ⟨v7, ev7, hx⟩ := ob hx
  refine jj_acp C ml_X6_22 (Nat.le_of_ble_eq_true rfl) (Nat.le_of_ble_eq_true rfl) dX6_become_27 ev7 ?_
  obtain rfl := Option.some.inj hx
  exact jj_vret C dX6_become_30 rfl
def x_X6_changeLast (F : Nat) (h : pH) (l0 : Nat) (l1 : Int32) : Option pH :=
  (chk 6 h l0).bind fun _ =>
  (getI 6 h l0 1).bind fun v1 =>
  if v1 ≤ 0 then
    some h
  else
    (getR 6 h l0 0).bind fun v2 =>
    (getI 6 h l0 1).bind fun v3 =>
    (astI 0 h v2 (v3 - (1 : Int32)) l1).bind fun v4 =>
    some v4
theorem o_X6_changeLast {F : Nat} {h : pH} {l0 : Nat} {l1 : Int32} {res : pH} (hx : x_X6_changeLast F h l0 l1 = some res) : chk 6 h l0 = some () := by
  unfold x_X6_changeLast at hx
  obtain ⟨_, e, _⟩ := ob hx
  exact e
theorem mc_X6_changeLast (l : Launch) (G : pG) (F n : Nat) {h : pH} {l0 : Nat} {l1 : Int32} {res : pH} (hx : x_X6_changeLast F h l0 l1 = some res) : MC l yX6_changeLast cX6_changeLast 2 none (rmD 0 0 0) G [.ref l0, .int l1] n h (none) n res := by
  unfold x_X6_changeLast at hx
  obtain ⟨_, _, hx⟩ := ob hx
  refine jj_entry RX6 rfl (by decide) (Nat.le_of_ble_eq_true rfl) (fun X _ _ C => ?_)
  show J X G (0, 0, none, n, res) (0, 0, n) h 0 [(0, .ref l0), (1, .int l1)] []
  refine jj_aload_n C 0 0 dX6_changeLast_0 rfl rfl ?_
  obtain ⟨v1, ev1, hx⟩ := ob hx
  refine jj_getI C fd_X6_19 dX6_changeLast_1 ev1 ?_
  refine jj_if_le (tgt := 19) C dX6_changeLast_4 (by decide) (fun q4 => ?_) (fun q4 => ?_)
  · rw [if_pos q4] at hx
    obtain rfl := Option.some.inj hx
    exact jj_vret C dX6_changeLast_19 rfl
  · rw [if_neg q4] at hx
    refine jj_aload_n C 0 0 dX6_changeLast_7 rfl rfl ?_
    obtain ⟨v2, ev2, hx⟩ := ob hx
    refine jj_getR C fd_X6_9 dX6_changeLast_8 ev2 ?_
    refine jj_aload_n C 0 0 dX6_changeLast_11 rfl rfl ?_
    obtain ⟨v3, ev3, hx⟩ := ob hx
    refine jj_getI C fd_X6_19 dX6_changeLast_12 ev3 ?_
    refine jj_iconst (v := 1) C dX6_changeLast_15 (by decide) ?_
    refine jj_isub C dX6_changeLast_16 ?_
    refine jj_iload_n C 1 1 dX6_changeLast_17 rfl rfl ?_
    obtain ⟨v4, ev4, hx⟩ := ob hx
    refine jj_iast C dX6_changeLast_18 ev4 ?_
    obtain rfl := Option.some.inj hx
    exact jj_vret C dX6_changeLast_19 rfl
def s_X6_liesOver_2 (F : Nat)  (h : pH) (l0 : Nat) (l1 : Nat) (l2 : Int32) (k2 : Int32 → Option Int32) (l3 : Int32) : Option Int32 :=
  if l2 ≤ l3 then
    some (1 : Int32)
  else
    (getR 6 h l0 0).bind fun v1 =>
    (getI 6 h l0 1).bind fun v2 =>
    (aldI 0 h v1 ((v2 - l2) + l3)).bind fun v3 =>
    (getR 6 h l1 0).bind fun v4 =>
    (aldI 0 h v4 l3).bind fun v5 =>
    if v3 = v5 then
      k2 (l3 + 1)
    else
      some (0 : Int32)
def x_X6_liesOver_2 (F : Nat)  (h : pH) (l0 : Nat) (l1 : Nat) (l2 : Int32) : Nat → Int32 → Option Int32
  | 0, _ => none
  | m + 1, l3 => s_X6_liesOver_2 F h l0 l1 l2 (x_X6_liesOver_2 F h l0 l1 l2 m) l3
theorem ts_X6_liesOver_2 {X : pX} {G : pG} {n : Nat} {res : Int32} (C : Cx X G RX6 cX6_liesOver 4 (rmD 0 0 0) n (some (FieldType.boolean))) (F : Nat) {h : pH} {l0 : Nat} {l1 : Nat} {l2 : Int32} {k2 : Int32 → Option Int32} (hk2 : ∀ (l3 : Int32), k2 l3 = some res → J X G (0, 0, some (.int res), n, h) (0, 0, n) h 2 [(0, .ref l0), (1, .ref l1), (2, .int l2), (3, .int l3)] []) {l3 : Int32} (hx : s_X6_liesOver_2 F h l0 l1 l2 k2 l3 = some res) : J X G (0, 0, some (.int res), n, h) (0, 0, n) h 2 [(0, .ref l0), (1, .ref l1), (2, .int l2), (3, .int l3)] [] := by
  unfold s_X6_liesOver_2 at hx
  refine jj_iload_n C 3 3 dX6_liesOver_2 rfl rfl ?_
  refine jj_iload_n C 2 2 dX6_liesOver_3 rfl rfl ?_
  refine jj_icmp_ge (tgt := 37) C dX6_liesOver_4 (by decide) (fun q4 => ?_) (fun q4 => ?_)
  · rw [if_pos q4] at hx
    refine jj_iconst (v := 1) C dX6_liesOver_37 (by decide) ?_
    obtain rfl := Option.some.inj hx
    exact jj_zret C (Or.inr rfl) dX6_liesOver_38 rfl
  · rw [if_neg q4] at hx
    refine jj_aload_n C 0 0 dX6_liesOver_7 rfl rfl ?_
    obtain ⟨v1, ev1, hx⟩ := ob hx
    refine jj_getR C fd_X6_9 dX6_liesOver_8 ev1 ?_
    refine jj_aload_n C 0 0 dX6_liesOver_11 rfl rfl ?_
    obtain ⟨v2, ev2, hx⟩ := ob hx
    refine jj_getI C fd_X6_19 dX6_liesOver_12 ev2 ?_
    refine jj_iload_n C 2 2 dX6_liesOver_15 rfl rfl ?_
    refine jj_isub C dX6_liesOver_16 ?_
    refine jj_iload_n C 3 3 dX6_liesOver_17 rfl rfl ?_
    refine jj_iadd C dX6_liesOver_18 ?_
    obtain ⟨v3, ev3, hx⟩ := ob hx
    refine jj_iald C dX6_liesOver_19 ev3 ?_
    refine jj_aload_n C 1 1 dX6_liesOver_20 rfl rfl ?_
    obtain ⟨v4, ev4, hx⟩ := ob hx
    refine jj_getR C fd_X6_9 dX6_liesOver_21 ev4 ?_
    refine jj_iload_n C 3 3 dX6_liesOver_24 rfl rfl ?_
    obtain ⟨v5, ev5, hx⟩ := ob hx
    refine jj_iald C dX6_liesOver_25 ev5 ?_
    refine jj_icmp_eq (tgt := 31) C dX6_liesOver_26 (by decide) (fun q26 => ?_) (fun q26 => ?_)
    · rw [if_pos q26] at hx
      refine jj_iinc (v := l3 + 1) C 3 3 dX6_liesOver_31 rfl rfl rfl (by decide) ?_
      refine jj_goto (tgt := 2) C dX6_liesOver_34 (by decide) ?_
      refine jj_sub [1, 2, 3, 0] rfl ?_
      exact hk2 _ hx
    · rw [if_neg q26] at hx
      refine jj_iconst (v := 0) C dX6_liesOver_29 (by decide) ?_
      obtain rfl := Option.some.inj hx
      exact jj_zret C (Or.inl rfl) dX6_liesOver_30 rfl
theorem t_X6_liesOver_2 {X : pX} {G : pG} {n : Nat} {res : Int32} (C : Cx X G RX6 cX6_liesOver 4 (rmD 0 0 0) n (some (FieldType.boolean))) (F : Nat) {h : pH} {l0 : Nat} {l1 : Nat} {l2 : Int32} : ∀ (m : Nat) (l3 : Int32), x_X6_liesOver_2 F h l0 l1 l2 m l3 = some res → J X G (0, 0, some (.int res), n, h) (0, 0, n) h 2 [(0, .ref l0), (1, .ref l1), (2, .int l2), (3, .int l3)] [] := by
  intro m
  induction m with
  | zero => intro l3 hx; exact nomatch (show (none : Option Int32) = some res from hx)
  | succ m ih => intro l3 hx; exact ts_X6_liesOver_2 C F  ih hx
def x_X6_liesOver (F : Nat) (h : pH) (l0 : Nat) (l1 : Nat) (l2 : Int32) : Option Int32 :=
  (chk 6 h l0).bind fun _ =>
  x_X6_liesOver_2 F h l0 l1 l2 F 0
theorem o_X6_liesOver {F : Nat} {h : pH} {l0 : Nat} {l1 : Nat} {l2 : Int32} {res : Int32} (hx : x_X6_liesOver F h l0 l1 l2 = some res) : chk 6 h l0 = some () := by
  unfold x_X6_liesOver at hx
  obtain ⟨_, e, _⟩ := ob hx
  exact e
theorem mc_X6_liesOver (l : Launch) (G : pG) (F n : Nat) {h : pH} {l0 : Nat} {l1 : Nat} {l2 : Int32} {res : Int32} (hx : x_X6_liesOver F h l0 l1 l2 = some res) : MC l yX6_liesOver cX6_liesOver 4 (some (FieldType.boolean)) (rmD 0 0 0) G [.ref l0, .ref l1, .int l2] n h (some (.int res)) n h := by
  unfold x_X6_liesOver at hx
  obtain ⟨_, _, hx⟩ := ob hx
  refine jj_entry RX6 rfl (by decide) (Nat.le_of_ble_eq_true rfl) (fun X _ _ C => ?_)
  show J X G (0, 0, some (.int res), n, h) (0, 0, n) h 0 [(0, .ref l0), (1, .ref l1), (2, .int l2)] []
  refine jj_iconst (v := 0) C dX6_liesOver_0 (by decide) ?_
  refine jj_istore_n C 3 dX6_liesOver_1 rfl rfl (by decide) ?_
  refine jj_sub [1, 2, 3, 0] rfl ?_
  exact t_X6_liesOver_2 C F F _ hx
def s_X6_lettersOver_12 (F : Nat)  (h : pH) (l0 : Nat) (l1 : Nat) (k12 : Int32 → Option Int32) (l2 : Int32) : Option Int32 :=
  if l2 ≤ 0 then
    some (0 : Int32)
  else
    (x_X6_liesOver F h l0 l1 l2).bind fun v1 =>
    if v1 = 0 then
      k12 (l2 + (-1))
    else
      some l2
def x_X6_lettersOver_12 (F : Nat)  (h : pH) (l0 : Nat) (l1 : Nat) : Nat → Int32 → Option Int32
  | 0, _ => none
  | m + 1, l2 => s_X6_lettersOver_12 F h l0 l1 (x_X6_lettersOver_12 F h l0 l1 m) l2
theorem ts_X6_lettersOver_12 {X : pX} {G : pG} {n : Nat} {res : Int32} (C : Cx X G RX6 cX6_lettersOver 3 (rmD 1 0 0) n (some (FieldType.int))) (F : Nat) {h : pH} {l0 : Nat} {l1 : Nat} {k12 : Int32 → Option Int32} (hk12 : ∀ (l2 : Int32), k12 l2 = some res → J X G (0, 0, some (.int res), n, h) (0, 0, n) h 12 [(0, .ref l0), (1, .ref l1), (2, .int l2)] []) {l2 : Int32} (hx : s_X6_lettersOver_12 F h l0 l1 k12 l2 = some res) : J X G (0, 0, some (.int res), n, h) (0, 0, n) h 12 [(0, .ref l0), (1, .ref l1), (2, .int l2)] [] := by
  unfold s_X6_lettersOver_12 at hx
  refine jj_iload_n C 2 2 dX6_lettersOver_12 rfl rfl ?_
  refine jj_if_le (tgt := 33) C dX6_lettersOver_13 (by decide) (fun q13 => ?_) (fun q13 => ?_)
  · rw [if_pos q13] at hx
    refine jj_iconst (v := 0) C dX6_lettersOver_33 (by decide) ?_
    obtain rfl := Option.some.inj hx
    exact jj_iret C dX6_lettersOver_34 rfl
  · rw [if_neg q13] at hx
    refine jj_aload_n C 0 0 dX6_lettersOver_16 rfl rfl ?_
    refine jj_aload_n C 1 1 dX6_lettersOver_17 rfl rfl ?_
    refine jj_iload_n C 2 2 dX6_lettersOver_18 rfl rfl ?_
    obtain ⟨v1, ev1, hx⟩ := ob hx
    refine jj_callV C [.ref l1, .int l2] lk_X6_45 (mc_X6_liesOver X.2.1 G F n ev1) (o_X6_liesOver ev1) rfl rfl (Nat.le_of_ble_eq_true rfl) ⟨Nat.le_of_ble_eq_true rfl, Nat.le_of_ble_eq_true rfl⟩ ⟨Nat.zero_le _, Nat.zero_le _⟩ rfl dX6_lettersOver_19 rfl rfl ?_
    refine jj_if_eq (tgt := 27) C dX6_lettersOver_22 (by decide) (fun q22 => ?_) (fun q22 => ?_)
    · rw [if_pos q22] at hx
      refine jj_iinc (v := l2 + (-1)) C 2 2 dX6_lettersOver_27 rfl rfl rfl (by decide) ?_
      refine jj_goto (tgt := 12) C dX6_lettersOver_30 (by decide) ?_
      refine jj_sub [1, 2, 0] rfl ?_
      exact hk12 _ hx
    · rw [if_neg q22] at hx
      refine jj_iload_n C 2 2 dX6_lettersOver_25 rfl rfl ?_
      obtain rfl := Option.some.inj hx
      exact jj_iret C dX6_lettersOver_26 rfl
theorem t_X6_lettersOver_12 {X : pX} {G : pG} {n : Nat} {res : Int32} (C : Cx X G RX6 cX6_lettersOver 3 (rmD 1 0 0) n (some (FieldType.int))) (F : Nat) {h : pH} {l0 : Nat} {l1 : Nat} : ∀ (m : Nat) (l2 : Int32), x_X6_lettersOver_12 F h l0 l1 m l2 = some res → J X G (0, 0, some (.int res), n, h) (0, 0, n) h 12 [(0, .ref l0), (1, .ref l1), (2, .int l2)] [] := by
  intro m
  induction m with
  | zero => intro l2 hx; exact nomatch (show (none : Option Int32) = some res from hx)
  | succ m ih => intro l2 hx; exact ts_X6_lettersOver_12 C F  ih hx
def x_X6_lettersOver (F : Nat) (h : pH) (l0 : Nat) (l1 : Nat) : Option Int32 :=
  (chk 6 h l0).bind fun _ =>
  (getI 6 h l0 1).bind fun v1 =>
  (getI 6 h l1 1).bind fun v2 =>
  x_X6_lettersOver_12 F h l0 l1 F (if v2 < v1 then v2 else v1)
theorem o_X6_lettersOver {F : Nat} {h : pH} {l0 : Nat} {l1 : Nat} {res : Int32} (hx : x_X6_lettersOver F h l0 l1 = some res) : chk 6 h l0 = some () := by
  unfold x_X6_lettersOver at hx
  obtain ⟨_, e, _⟩ := ob hx
  exact e
theorem mc_X6_lettersOver (l : Launch) (G : pG) (F n : Nat) {h : pH} {l0 : Nat} {l1 : Nat} {res : Int32} (hx : x_X6_lettersOver F h l0 l1 = some res) : MC l yX6_lettersOver cX6_lettersOver 3 (some (FieldType.int)) (rmD 1 0 0) G [.ref l0, .ref l1] n h (some (.int res)) n h := by
  unfold x_X6_lettersOver at hx
  obtain ⟨_, _, hx⟩ := ob hx
  refine jj_entry RX6 rfl (by decide) (Nat.le_of_ble_eq_true rfl) (fun X _ _ C => ?_)
  show J X G (0, 0, some (.int res), n, h) (0, 0, n) h 0 [(0, .ref l0), (1, .ref l1)] []
  refine jj_aload_n C 0 0 dX6_lettersOver_0 rfl rfl ?_
  obtain ⟨v1, ev1, hx⟩ := ob hx
  refine jj_getI C fd_X6_19 dX6_lettersOver_1 ev1 ?_
  refine jj_aload_n C 1 1 dX6_lettersOver_4 rfl rfl ?_
  obtain ⟨v2, ev2, hx⟩ := ob hx
  refine jj_getI C fd_X6_19 dX6_lettersOver_5 ev2 ?_
  refine jj_min C ml_X6_40 (Nat.le_of_ble_eq_true rfl) (Nat.le_of_ble_eq_true rfl) (Nat.zero_le _) (Nat.zero_le _) dX6_lettersOver_8 ?_
  refine jj_istore_n C 2 dX6_lettersOver_11 rfl rfl (by decide) ?_
  refine jj_sub [1, 2, 0] rfl ?_
  exact t_X6_lettersOver_12 C F F _ hx
def s_X6_standsIn_5 (F : Nat)  (h : pH) (l0 : Nat) (l1 : Nat) (l2 : Int32) (k5 : Int32 → Option Int32) (l3 : Int32) : Option Int32 :=
  if l2 < l3 then
    some (0 : Int32)
  else
    (x_X6_endsAt F h l0 l1 l3).bind fun v1 =>
    if v1 = 0 then
      k5 (l3 + 1)
    else
      some (1 : Int32)
def x_X6_standsIn_5 (F : Nat)  (h : pH) (l0 : Nat) (l1 : Nat) (l2 : Int32) : Nat → Int32 → Option Int32
  | 0, _ => none
  | m + 1, l3 => s_X6_standsIn_5 F h l0 l1 l2 (x_X6_standsIn_5 F h l0 l1 l2 m) l3
theorem ts_X6_standsIn_5 {X : pX} {G : pG} {n : Nat} {res : Int32} (C : Cx X G RX6 cX6_standsIn 4 (rmD 3 0 0) n (some (FieldType.boolean))) (F : Nat) {h : pH} {l0 : Nat} {l1 : Nat} {l2 : Int32} {k5 : Int32 → Option Int32} (hk5 : ∀ (l3 : Int32), k5 l3 = some res → J X G (0, 0, some (.int res), n, h) (0, 0, n) h 5 [(0, .ref l0), (1, .ref l1), (2, .int l2), (3, .int l3)] []) {l3 : Int32} (hx : s_X6_standsIn_5 F h l0 l1 l2 k5 l3 = some res) : J X G (0, 0, some (.int res), n, h) (0, 0, n) h 5 [(0, .ref l0), (1, .ref l1), (2, .int l2), (3, .int l3)] [] := by
  unfold s_X6_standsIn_5 at hx
  refine jj_iload_n C 3 3 dX6_standsIn_5 rfl rfl ?_
  refine jj_iload_n C 2 2 dX6_standsIn_6 rfl rfl ?_
  refine jj_icmp_gt (tgt := 27) C dX6_standsIn_7 (by decide) (fun q7 => ?_) (fun q7 => ?_)
  · rw [if_pos q7] at hx
    refine jj_iconst (v := 0) C dX6_standsIn_27 (by decide) ?_
    obtain rfl := Option.some.inj hx
    exact jj_zret C (Or.inl rfl) dX6_standsIn_28 rfl
  · rw [if_neg q7] at hx
    refine jj_aload_n C 0 0 dX6_standsIn_10 rfl rfl ?_
    refine jj_aload_n C 1 1 dX6_standsIn_11 rfl rfl ?_
    refine jj_iload_n C 3 3 dX6_standsIn_12 rfl rfl ?_
    obtain ⟨v1, ev1, hx⟩ := ob hx
    refine jj_callV C [.ref l1, .int l3] lk_X6_36 (mc_X6_endsAt X.2.1 G F n ev1) (o_X6_endsAt ev1) rfl rfl (Nat.le_of_ble_eq_true rfl) ⟨Nat.le_of_ble_eq_true rfl, Nat.le_of_ble_eq_true rfl⟩ ⟨Nat.zero_le _, Nat.zero_le _⟩ rfl dX6_standsIn_13 rfl rfl ?_
    refine jj_if_eq (tgt := 21) C dX6_standsIn_16 (by decide) (fun q16 => ?_) (fun q16 => ?_)
    · rw [if_pos q16] at hx
      refine jj_iinc (v := l3 + 1) C 3 3 dX6_standsIn_21 rfl rfl rfl (by decide) ?_
      refine jj_goto (tgt := 5) C dX6_standsIn_24 (by decide) ?_
      refine jj_sub [1, 2, 3, 0] rfl ?_
      exact hk5 _ hx
    · rw [if_neg q16] at hx
      refine jj_iconst (v := 1) C dX6_standsIn_19 (by decide) ?_
      obtain rfl := Option.some.inj hx
      exact jj_zret C (Or.inr rfl) dX6_standsIn_20 rfl
theorem t_X6_standsIn_5 {X : pX} {G : pG} {n : Nat} {res : Int32} (C : Cx X G RX6 cX6_standsIn 4 (rmD 3 0 0) n (some (FieldType.boolean))) (F : Nat) {h : pH} {l0 : Nat} {l1 : Nat} {l2 : Int32} : ∀ (m : Nat) (l3 : Int32), x_X6_standsIn_5 F h l0 l1 l2 m l3 = some res → J X G (0, 0, some (.int res), n, h) (0, 0, n) h 5 [(0, .ref l0), (1, .ref l1), (2, .int l2), (3, .int l3)] [] := by
  intro m
  induction m with
  | zero => intro l3 hx; exact nomatch (show (none : Option Int32) = some res from hx)
  | succ m ih => intro l3 hx; exact ts_X6_standsIn_5 C F  ih hx
def x_X6_standsIn (F : Nat) (h : pH) (l0 : Nat) (l1 : Nat) (l2 : Int32) : Option Int32 :=
  (chk 6 h l0).bind fun _ =>
  (getI 6 h l0 1).bind fun v1 =>
  x_X6_standsIn_5 F h l0 l1 l2 F v1
theorem o_X6_standsIn {F : Nat} {h : pH} {l0 : Nat} {l1 : Nat} {l2 : Int32} {res : Int32} (hx : x_X6_standsIn F h l0 l1 l2 = some res) : chk 6 h l0 = some () := by
  unfold x_X6_standsIn at hx
  obtain ⟨_, e, _⟩ := ob hx
  exact e
theorem mc_X6_standsIn (l : Launch) (G : pG) (F n : Nat) {h : pH} {l0 : Nat} {l1 : Nat} {l2 : Int32} {res : Int32} (hx : x_X6_standsIn F h l0 l1 l2 = some res) : MC l yX6_standsIn cX6_standsIn 4 (some (FieldType.boolean)) (rmD 3 0 0) G [.ref l0, .ref l1, .int l2] n h (some (.int res)) n h := by
  unfold x_X6_standsIn at hx
  obtain ⟨_, _, hx⟩ := ob hx
  refine jj_entry RX6 rfl (by decide) (Nat.le_of_ble_eq_true rfl) (fun X _ _ C => ?_)
  show J X G (0, 0, some (.int res), n, h) (0, 0, n) h 0 [(0, .ref l0), (1, .ref l1), (2, .int l2)] []
  refine jj_aload_n C 0 0 dX6_standsIn_0 rfl rfl ?_
  obtain ⟨v1, ev1, hx⟩ := ob hx
  refine jj_getI C fd_X6_19 dX6_standsIn_1 ev1 ?_
  refine jj_istore_n C 3 dX6_standsIn_4 rfl rfl (by decide) ?_
  refine jj_sub [1, 2, 3, 0] rfl ?_
  exact t_X6_standsIn_5 C F F _ hx
def x_X6_timesIn_27 (F : Nat) (k8 : Int32 → Int32 → Option Int32) (h : pH) (l0 : Nat) (l1 : Nat) (l2 : Int32) (l3 : Int32) (l4 : Int32) : Option Int32 :=
  k8 l3 (l4 + 1)
theorem t_X6_timesIn_27 {X : pX} {G : pG} {n : Nat} {res : Int32} (C : Cx X G RX6 cX6_timesIn 5 (rmD 3 0 0) n (some (FieldType.int))) (F : Nat) {h : pH} {l0 : Nat} {l1 : Nat} {l2 : Int32} {l3 : Int32} {l4 : Int32} {k8 : Int32 → Int32 → Option Int32} (hk8 : ∀ (l3 : Int32) (l4 : Int32), k8 l3 l4 = some res → J X G (0, 0, some (.int res), n, h) (0, 0, n) h 8 [(0, .ref l0), (1, .ref l1), (2, .int l2), (3, .int l3), (4, .int l4)] []) (hx : x_X6_timesIn_27 F k8 h l0 l1 l2 l3 l4 = some res) : J X G (0, 0, some (.int res), n, h) (0, 0, n) h 27 [(0, .ref l0), (1, .ref l1), (2, .int l2), (3, .int l3), (4, .int l4)] [] := by
  unfold x_X6_timesIn_27 at hx
  refine jj_iinc (v := l4 + 1) C 4 4 dX6_timesIn_27 rfl rfl rfl (by decide) ?_
  refine jj_goto (tgt := 8) C dX6_timesIn_30 (by decide) ?_
  refine jj_sub [1, 2, 3, 4, 0] rfl ?_
  exact hk8 _ _ hx
def s_X6_timesIn_8 (F : Nat)  (h : pH) (l0 : Nat) (l1 : Nat) (l2 : Int32) (k8 : Int32 → Int32 → Option Int32) (l3 : Int32) (l4 : Int32) : Option Int32 :=
  if l2 < l4 then
    some l3
  else
    (x_X6_endsAt F h l0 l1 l4).bind fun v1 =>
    if v1 = 0 then
      x_X6_timesIn_27 F k8 h l0 l1 l2 l3 l4
    else
      x_X6_timesIn_27 F k8 h l0 l1 l2 (l3 + 1) l4
def x_X6_timesIn_8 (F : Nat)  (h : pH) (l0 : Nat) (l1 : Nat) (l2 : Int32) : Nat → Int32 → Int32 → Option Int32
  | 0, _, _ => none
  | m + 1, l3, l4 => s_X6_timesIn_8 F h l0 l1 l2 (x_X6_timesIn_8 F h l0 l1 l2 m) l3 l4
theorem ts_X6_timesIn_8 {X : pX} {G : pG} {n : Nat} {res : Int32} (C : Cx X G RX6 cX6_timesIn 5 (rmD 3 0 0) n (some (FieldType.int))) (F : Nat) {h : pH} {l0 : Nat} {l1 : Nat} {l2 : Int32} {k8 : Int32 → Int32 → Option Int32} (hk8 : ∀ (l3 : Int32) (l4 : Int32), k8 l3 l4 = some res → J X G (0, 0, some (.int res), n, h) (0, 0, n) h 8 [(0, .ref l0), (1, .ref l1), (2, .int l2), (3, .int l3), (4, .int l4)] []) {l3 : Int32} {l4 : Int32} (hx : s_X6_timesIn_8 F h l0 l1 l2 k8 l3 l4 = some res) : J X G (0, 0, some (.int res), n, h) (0, 0, n) h 8 [(0, .ref l0), (1, .ref l1), (2, .int l2), (3, .int l3), (4, .int l4)] [] := by
  unfold s_X6_timesIn_8 at hx
  refine jj_iload C 4 4 dX6_timesIn_8 rfl ?_
  refine jj_iload_n C 2 2 dX6_timesIn_10 rfl rfl ?_
  refine jj_icmp_gt (tgt := 33) C dX6_timesIn_11 (by decide) (fun q11 => ?_) (fun q11 => ?_)
  · rw [if_pos q11] at hx
    refine jj_iload_n C 3 3 dX6_timesIn_33 rfl rfl ?_
    obtain rfl := Option.some.inj hx
    exact jj_iret C dX6_timesIn_34 rfl
  · rw [if_neg q11] at hx
    refine jj_aload_n C 0 0 dX6_timesIn_14 rfl rfl ?_
    refine jj_aload_n C 1 1 dX6_timesIn_15 rfl rfl ?_
    refine jj_iload C 4 4 dX6_timesIn_16 rfl ?_
    obtain ⟨v1, ev1, hx⟩ := ob hx
    refine jj_callV C [.ref l1, .int l4] lk_X6_36 (mc_X6_endsAt X.2.1 G F n ev1) (o_X6_endsAt ev1) rfl rfl (Nat.le_of_ble_eq_true rfl) ⟨Nat.le_of_ble_eq_true rfl, Nat.le_of_ble_eq_true rfl⟩ ⟨Nat.zero_le _, Nat.zero_le _⟩ rfl dX6_timesIn_18 rfl rfl ?_
    refine jj_if_eq (tgt := 27) C dX6_timesIn_21 (by decide) (fun q21 => ?_) (fun q21 => ?_)
    · rw [if_pos q21] at hx
      exact t_X6_timesIn_27 C F hk8 hx
    · rw [if_neg q21] at hx
      refine jj_iinc (v := l3 + 1) C 3 3 dX6_timesIn_24 rfl rfl rfl (by decide) ?_
      refine jj_sub [1, 2, 3, 0, 4] rfl ?_
      exact t_X6_timesIn_27 C F hk8 hx
theorem t_X6_timesIn_8 {X : pX} {G : pG} {n : Nat} {res : Int32} (C : Cx X G RX6 cX6_timesIn 5 (rmD 3 0 0) n (some (FieldType.int))) (F : Nat) {h : pH} {l0 : Nat} {l1 : Nat} {l2 : Int32} : ∀ (m : Nat) (l3 : Int32) (l4 : Int32), x_X6_timesIn_8 F h l0 l1 l2 m l3 l4 = some res → J X G (0, 0, some (.int res), n, h) (0, 0, n) h 8 [(0, .ref l0), (1, .ref l1), (2, .int l2), (3, .int l3), (4, .int l4)] [] := by
  intro m
  induction m with
  | zero => intro l3 l4 hx; exact nomatch (show (none : Option Int32) = some res from hx)
  | succ m ih => intro l3 l4 hx; exact ts_X6_timesIn_8 C F  ih hx
def x_X6_timesIn (F : Nat) (h : pH) (l0 : Nat) (l1 : Nat) (l2 : Int32) : Option Int32 :=
  (chk 6 h l0).bind fun _ =>
  (getI 6 h l0 1).bind fun v1 =>
  x_X6_timesIn_8 F h l0 l1 l2 F 0 v1
theorem o_X6_timesIn {F : Nat} {h : pH} {l0 : Nat} {l1 : Nat} {l2 : Int32} {res : Int32} (hx : x_X6_timesIn F h l0 l1 l2 = some res) : chk 6 h l0 = some () := by
  unfold x_X6_timesIn at hx
  obtain ⟨_, e, _⟩ := ob hx
  exact e
theorem mc_X6_timesIn (l : Launch) (G : pG) (F n : Nat) {h : pH} {l0 : Nat} {l1 : Nat} {l2 : Int32} {res : Int32} (hx : x_X6_timesIn F h l0 l1 l2 = some res) : MC l yX6_timesIn cX6_timesIn 5 (some (FieldType.int)) (rmD 3 0 0) G [.ref l0, .ref l1, .int l2] n h (some (.int res)) n h := by
  unfold x_X6_timesIn at hx
  obtain ⟨_, _, hx⟩ := ob hx
  refine jj_entry RX6 rfl (by decide) (Nat.le_of_ble_eq_true rfl) (fun X _ _ C => ?_)
  show J X G (0, 0, some (.int res), n, h) (0, 0, n) h 0 [(0, .ref l0), (1, .ref l1), (2, .int l2)] []
  refine jj_iconst (v := 0) C dX6_timesIn_0 (by decide) ?_
  refine jj_istore_n C 3 dX6_timesIn_1 rfl rfl (by decide) ?_
  refine jj_aload_n C 0 1 dX6_timesIn_2 rfl rfl ?_
  obtain ⟨v1, ev1, hx⟩ := ob hx
  refine jj_getI C fd_X6_19 dX6_timesIn_3 ev1 ?_
  refine jj_istore C 4 dX6_timesIn_6 rfl (by decide) ?_
  refine jj_sub [2, 3, 4, 1, 0] rfl ?_
  exact t_X6_timesIn_8 C F F _ _ hx
def s_X6_unlikeForms_2 (F : Nat)  (h : pH) (l0 : Nat) (k2 : Int32 → Option Int32) (l1 : Int32) : Option Int32 :=
  (getI 6 h l0 1).bind fun v1 =>
  if v1 ≤ l1 then
    some (1 : Int32)
  else
    (x_X6_letterOf F h l0 0 l1).bind fun v2 =>
    (x_X6_letterOf F h l0 1 l1).bind fun v3 =>
    if v2 = v3 then
      k2 (l1 + 1)
    else
      some (2 : Int32)
def x_X6_unlikeForms_2 (F : Nat)  (h : pH) (l0 : Nat) : Nat → Int32 → Option Int32
  | 0, _ => none
  | m + 1, l1 => s_X6_unlikeForms_2 F h l0 (x_X6_unlikeForms_2 F h l0 m) l1
theorem ts_X6_unlikeForms_2 {X : pX} {G : pG} {n : Nat} {res : Int32} (C : Cx X G RX6 cX6_unlikeForms 2 (rmD 1 0 0) n (some (FieldType.int))) (F : Nat) {h : pH} {l0 : Nat} {k2 : Int32 → Option Int32} (hk2 : ∀ (l1 : Int32), k2 l1 = some res → J X G (0, 0, some (.int res), n, h) (0, 0, n) h 2 [(0, .ref l0), (1, .int l1)] []) {l1 : Int32} (hx : s_X6_unlikeForms_2 F h l0 k2 l1 = some res) : J X G (0, 0, some (.int res), n, h) (0, 0, n) h 2 [(0, .ref l0), (1, .int l1)] [] := by
  unfold s_X6_unlikeForms_2 at hx
  refine jj_iload_n C 1 1 dX6_unlikeForms_2 rfl rfl ?_
  refine jj_aload_n C 0 0 dX6_unlikeForms_3 rfl rfl ?_
  obtain ⟨v1, ev1, hx⟩ := ob hx
  refine jj_getI C fd_X6_19 dX6_unlikeForms_4 ev1 ?_
  refine jj_icmp_ge (tgt := 33) C dX6_unlikeForms_7 (by decide) (fun q7 => ?_) (fun q7 => ?_)
  · rw [if_pos q7] at hx
    refine jj_iconst (v := 1) C dX6_unlikeForms_33 (by decide) ?_
    obtain rfl := Option.some.inj hx
    exact jj_iret C dX6_unlikeForms_34 rfl
  · rw [if_neg q7] at hx
    refine jj_aload_n C 0 0 dX6_unlikeForms_10 rfl rfl ?_
    refine jj_iconst (v := 0) C dX6_unlikeForms_11 (by decide) ?_
    refine jj_iload_n C 1 1 dX6_unlikeForms_12 rfl rfl ?_
    obtain ⟨v2, ev2, hx⟩ := ob hx
    refine jj_callV C [.int 0, .int l1] lk_X6_28 (mc_X6_letterOf X.2.1 G F n ev2) (o_X6_letterOf ev2) rfl rfl (Nat.le_of_ble_eq_true rfl) ⟨Nat.le_of_ble_eq_true rfl, Nat.le_of_ble_eq_true rfl⟩ ⟨Nat.zero_le _, Nat.zero_le _⟩ rfl dX6_unlikeForms_13 rfl rfl ?_
    refine jj_aload_n C 0 0 dX6_unlikeForms_16 rfl rfl ?_
    refine jj_iconst (v := 1) C dX6_unlikeForms_17 (by decide) ?_
    refine jj_iload_n C 1 1 dX6_unlikeForms_18 rfl rfl ?_
    obtain ⟨v3, ev3, hx⟩ := ob hx
    refine jj_callV C [.int 1, .int l1] lk_X6_28 (mc_X6_letterOf X.2.1 G F n ev3) (o_X6_letterOf ev3) rfl rfl (Nat.le_of_ble_eq_true rfl) ⟨Nat.le_of_ble_eq_true rfl, Nat.le_of_ble_eq_true rfl⟩ ⟨Nat.zero_le _, Nat.zero_le _⟩ rfl dX6_unlikeForms_19 rfl rfl ?_
    refine jj_icmp_eq (tgt := 27) C dX6_unlikeForms_22 (by decide) (fun q22 => ?_) (fun q22 => ?_)
    · rw [if_pos q22] at hx
      refine jj_iinc (v := l1 + 1) C 1 1 dX6_unlikeForms_27 rfl rfl rfl (by decide) ?_
      refine jj_goto (tgt := 2) C dX6_unlikeForms_30 (by decide) ?_
      refine jj_sub [1, 0] rfl ?_
      exact hk2 _ hx
    · rw [if_neg q22] at hx
      refine jj_iconst (v := 2) C dX6_unlikeForms_25 (by decide) ?_
      obtain rfl := Option.some.inj hx
      exact jj_iret C dX6_unlikeForms_26 rfl
theorem t_X6_unlikeForms_2 {X : pX} {G : pG} {n : Nat} {res : Int32} (C : Cx X G RX6 cX6_unlikeForms 2 (rmD 1 0 0) n (some (FieldType.int))) (F : Nat) {h : pH} {l0 : Nat} : ∀ (m : Nat) (l1 : Int32), x_X6_unlikeForms_2 F h l0 m l1 = some res → J X G (0, 0, some (.int res), n, h) (0, 0, n) h 2 [(0, .ref l0), (1, .int l1)] [] := by
  intro m
  induction m with
  | zero => intro l1 hx; exact nomatch (show (none : Option Int32) = some res from hx)
  | succ m ih => intro l1 hx; exact ts_X6_unlikeForms_2 C F  ih hx
def x_X6_unlikeForms (F : Nat) (h : pH) (l0 : Nat) : Option Int32 :=
  (chk 6 h l0).bind fun _ =>
  x_X6_unlikeForms_2 F h l0 F 0
theorem o_X6_unlikeForms {F : Nat} {h : pH} {l0 : Nat} {res : Int32} (hx : x_X6_unlikeForms F h l0 = some res) : chk 6 h l0 = some () := by
  unfold x_X6_unlikeForms at hx
  obtain ⟨_, e, _⟩ := ob hx
  exact e
theorem mc_X6_unlikeForms (l : Launch) (G : pG) (F n : Nat) {h : pH} {l0 : Nat} {res : Int32} (hx : x_X6_unlikeForms F h l0 = some res) : MC l yX6_unlikeForms cX6_unlikeForms 2 (some (FieldType.int)) (rmD 1 0 0) G [.ref l0] n h (some (.int res)) n h := by
  unfold x_X6_unlikeForms at hx
  obtain ⟨_, _, hx⟩ := ob hx
  refine jj_entry RX6 rfl (by decide) (Nat.le_of_ble_eq_true rfl) (fun X _ _ C => ?_)
  show J X G (0, 0, some (.int res), n, h) (0, 0, n) h 0 [(0, .ref l0)] []
  refine jj_iconst (v := 0) C dX6_unlikeForms_0 (by decide) ?_
  refine jj_istore_n C 1 dX6_unlikeForms_1 rfl rfl (by decide) ?_
  refine jj_sub [1, 0] rfl ?_
  exact t_X6_unlikeForms_2 C F F _ hx
