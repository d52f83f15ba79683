/-! the two new objects -/
theorem mk0_some : (mk0 700).isSome = true := by decide +kernel
def hh0 : pH := (mk0 700).get mk0_some
theorem mk0_hh : mk0 700 = some hh0 := (Option.some_get mk0_some).symm
set_option maxRecDepth 100000 in
theorem hh_tail (k : Nat) : hh0 (k + 91) = pj := by rfl
def aE (e : pE) : Nat → Int32 := match e with | .inl (_, _, .inl f) => f | _ => fun _ => 0
def bE (e : pE) : Nat → Int64 := match e with | .inl (_, _, .inr (.inl f)) => f | _ => fun _ => 0
def vE (e : pE) (k : Nat) : Int32 := match e with | .inr (_, l) => (match l[k]? with | some (.int v) => v | _ => 0) | _ => 0
def fE (e : pE) : Nat → Option Nat := match e with | .inl (_, _, .inr (.inr (.inr (.inr f)))) => f | _ => fun _ => none
def iA : tA2 := fun p => aE (hh0 p)
def iB : tB2 := fun p => bE (hh0 p)
def iV : tA2 := fun p => vE (hh0 p)
def iQ : tQ := (12, 3, 42, 43)
set_option maxRecDepth 100000 in
theorem hh_0 : hh0 0 = mk iA iB iV iQ 0 := rfl
set_option maxRecDepth 100000 in
theorem hf_1 : ∀ i, fE (hh0 1) i = if i < 4 then some (rf iQ 1 i) else none
  | 0 => rfl
  | 1 => rfl
  | 2 => rfl
  | 3 => rfl
  | i + 4 => by rw [if_neg (by omega)]; rfl
set_option maxRecDepth 100000 in
theorem hg_1 : hh0 1 = .inl (3, 4, .inr (.inr (.inr (.inr (fE (hh0 1)))))) := rfl
theorem hh_1 : hh0 1 = mk iA iB iV iQ 1 := by
  rw [hg_1, show fE (hh0 1) = _ from funext hf_1]
  exact (mk_arrR (t := 3) (n := 4) (p := 1) rfl (by omega) (by omega)).symm
set_option maxRecDepth 100000 in
theorem hh_2 : hh0 2 = mk iA iB iV iQ 2 := rfl
set_option maxRecDepth 100000 in
theorem hf_3 : ∀ i, fE (hh0 3) i = if i < 4 then some (rf iQ 3 i) else none
  | 0 => rfl
  | 1 => rfl
  | 2 => rfl
  | 3 => rfl
  | i + 4 => by rw [if_neg (by omega)]; rfl
set_option maxRecDepth 100000 in
theorem hg_3 : hh0 3 = .inl (4, 4, .inr (.inr (.inr (.inr (fE (hh0 3)))))) := rfl
theorem hh_3 : hh0 3 = mk iA iB iV iQ 3 := by
  rw [hg_3, show fE (hh0 3) = _ from funext hf_3]
  exact (mk_arrR (t := 4) (n := 4) (p := 3) rfl (by omega) (by omega)).symm
set_option maxRecDepth 100000 in
theorem hh_4 : hh0 4 = mk iA iB iV iQ 4 := rfl
set_option maxRecDepth 100000 in
theorem hh_5 : hh0 5 = mk iA iB iV iQ 5 := rfl
set_option maxRecDepth 100000 in
theorem hh_6 : hh0 6 = mk iA iB iV iQ 6 := rfl
set_option maxRecDepth 100000 in
theorem hh_7 : hh0 7 = mk iA iB iV iQ 7 := rfl
set_option maxRecDepth 100000 in
theorem hh_8 : hh0 8 = mk iA iB iV iQ 8 := rfl
set_option maxRecDepth 100000 in
theorem hh_9 : hh0 9 = mk iA iB iV iQ 9 := rfl
set_option maxRecDepth 100000 in
theorem hh_10 : hh0 10 = mk iA iB iV iQ 10 := rfl
set_option maxRecDepth 100000 in
theorem hh_11 : hh0 11 = mk iA iB iV iQ 11 := rfl
set_option maxRecDepth 100000 in
theorem hf_12 : ∀ i, fE (hh0 12) i = if i < 4 then some (rf iQ 12 i) else none
  | 0 => rfl
  | 1 => rfl
  | 2 => rfl
  | 3 => rfl
  | i + 4 => by rw [if_neg (by omega)]; rfl
set_option maxRecDepth 100000 in
theorem hg_12 : hh0 12 = .inl (4, 4, .inr (.inr (.inr (.inr (fE (hh0 12)))))) := rfl
theorem hh_12 : hh0 12 = mk iA iB iV iQ 12 := by
  rw [hg_12, show fE (hh0 12) = _ from funext hf_12]
  exact (mk_arrR (t := 4) (n := 4) (p := 12) rfl (by omega) (by omega)).symm
set_option maxRecDepth 100000 in
theorem hh_13 : hh0 13 = mk iA iB iV iQ 13 := rfl
set_option maxRecDepth 100000 in
theorem hh_14 : hh0 14 = mk iA iB iV iQ 14 := rfl
set_option maxRecDepth 100000 in
theorem hh_15 : hh0 15 = mk iA iB iV iQ 15 := rfl
set_option maxRecDepth 100000 in
theorem hh_16 : hh0 16 = mk iA iB iV iQ 16 := rfl
set_option maxRecDepth 100000 in
theorem hh_17 : hh0 17 = mk iA iB iV iQ 17 := rfl
set_option maxRecDepth 100000 in
theorem hh_18 : hh0 18 = mk iA iB iV iQ 18 := rfl
set_option maxRecDepth 100000 in
theorem hh_19 : hh0 19 = mk iA iB iV iQ 19 := rfl
set_option maxRecDepth 100000 in
theorem hh_20 : hh0 20 = mk iA iB iV iQ 20 := rfl
set_option maxRecDepth 100000 in
theorem hh_21 : hh0 21 = mk iA iB iV iQ 21 := rfl
set_option maxRecDepth 100000 in
theorem hh_22 : hh0 22 = mk iA iB iV iQ 22 := rfl
set_option maxRecDepth 100000 in
theorem hf_23 : ∀ i, fE (hh0 23) i = if i < 8 then some (rf iQ 23 i) else none
  | 0 => rfl
  | 1 => rfl
  | 2 => rfl
  | 3 => rfl
  | 4 => rfl
  | 5 => rfl
  | 6 => rfl
  | 7 => rfl
  | i + 8 => by rw [if_neg (by omega)]; rfl
set_option maxRecDepth 100000 in
theorem hg_23 : hh0 23 = .inl (5, 8, .inr (.inr (.inr (.inr (fE (hh0 23)))))) := rfl
theorem hh_23 : hh0 23 = mk iA iB iV iQ 23 := by
  rw [hg_23, show fE (hh0 23) = _ from funext hf_23]
  exact (mk_arrR (t := 5) (n := 8) (p := 23) rfl (by omega) (by omega)).symm
set_option maxRecDepth 100000 in
theorem hh_24 : hh0 24 = mk iA iB iV iQ 24 := rfl
set_option maxRecDepth 100000 in
theorem hh_25 : hh0 25 = mk iA iB iV iQ 25 := rfl
set_option maxRecDepth 100000 in
theorem hh_26 : hh0 26 = mk iA iB iV iQ 26 := rfl
set_option maxRecDepth 100000 in
theorem hh_27 : hh0 27 = mk iA iB iV iQ 27 := rfl
set_option maxRecDepth 100000 in
theorem hh_28 : hh0 28 = mk iA iB iV iQ 28 := rfl
set_option maxRecDepth 100000 in
theorem hh_29 : hh0 29 = mk iA iB iV iQ 29 := rfl
set_option maxRecDepth 100000 in
theorem hh_30 : hh0 30 = mk iA iB iV iQ 30 := rfl
set_option maxRecDepth 100000 in
theorem hh_31 : hh0 31 = mk iA iB iV iQ 31 := rfl
set_option maxRecDepth 100000 in
theorem hh_32 : hh0 32 = mk iA iB iV iQ 32 := rfl
set_option maxRecDepth 100000 in
theorem hh_33 : hh0 33 = mk iA iB iV iQ 33 := rfl
set_option maxRecDepth 100000 in
theorem hh_34 : hh0 34 = mk iA iB iV iQ 34 := rfl
set_option maxRecDepth 100000 in
theorem hh_35 : hh0 35 = mk iA iB iV iQ 35 := rfl
set_option maxRecDepth 100000 in
theorem hh_36 : hh0 36 = mk iA iB iV iQ 36 := rfl
set_option maxRecDepth 100000 in
theorem hh_37 : hh0 37 = mk iA iB iV iQ 37 := rfl
set_option maxRecDepth 100000 in
theorem hh_38 : hh0 38 = mk iA iB iV iQ 38 := rfl
set_option maxRecDepth 100000 in
theorem hh_39 : hh0 39 = mk iA iB iV iQ 39 := rfl
set_option maxRecDepth 100000 in
theorem hh_40 : hh0 40 = mk iA iB iV iQ 40 := rfl
set_option maxRecDepth 100000 in
theorem hh_41 : hh0 41 = mk iA iB iV iQ 41 := rfl
set_option maxRecDepth 100000 in
theorem hh_42 : hh0 42 = mk iA iB iV iQ 42 := rfl
set_option maxRecDepth 100000 in
theorem hh_43 : hh0 43 = mk iA iB iV iQ 43 := rfl
set_option maxRecDepth 100000 in
theorem hh_44 : hh0 44 = mk iA iB iV iQ 44 := rfl
set_option maxRecDepth 100000 in
theorem hh_45 : hh0 45 = mk iA iB iV iQ 45 := rfl
set_option maxRecDepth 100000 in
theorem hh_46 : hh0 46 = mk iA iB iV iQ 46 := rfl
set_option maxRecDepth 100000 in
theorem hh_47 : hh0 47 = mk iA iB iV iQ 47 := rfl
set_option maxRecDepth 100000 in
theorem hh_48 : hh0 48 = mk iA iB iV iQ 48 := rfl
set_option maxRecDepth 100000 in
theorem hh_49 : hh0 49 = mk iA iB iV iQ 49 := rfl
set_option maxRecDepth 100000 in
theorem hh_50 : hh0 50 = mk iA iB iV iQ 50 := rfl
set_option maxRecDepth 100000 in
theorem hh_51 : hh0 51 = mk iA iB iV iQ 51 := rfl
set_option maxRecDepth 100000 in
theorem hh_52 : hh0 52 = mk iA iB iV iQ 52 := rfl
set_option maxRecDepth 100000 in
theorem hh_53 : hh0 53 = mk iA iB iV iQ 53 := rfl
set_option maxRecDepth 100000 in
theorem hh_54 : hh0 54 = mk iA iB iV iQ 54 := rfl
set_option maxRecDepth 100000 in
theorem hh_55 : hh0 55 = mk iA iB iV iQ 55 := rfl
set_option maxRecDepth 100000 in
theorem hh_56 : hh0 56 = mk iA iB iV iQ 56 := rfl
set_option maxRecDepth 100000 in
theorem hh_57 : hh0 57 = mk iA iB iV iQ 57 := rfl
set_option maxRecDepth 100000 in
theorem hh_58 : hh0 58 = mk iA iB iV iQ 58 := rfl
set_option maxRecDepth 100000 in
theorem hh_59 : hh0 59 = mk iA iB iV iQ 59 := rfl
set_option maxRecDepth 100000 in
theorem hh_60 : hh0 60 = mk iA iB iV iQ 60 := rfl
set_option maxRecDepth 100000 in
theorem hh_61 : hh0 61 = mk iA iB iV iQ 61 := rfl
set_option maxRecDepth 100000 in
theorem hh_62 : hh0 62 = mk iA iB iV iQ 62 := rfl
set_option maxRecDepth 100000 in
theorem hh_63 : hh0 63 = mk iA iB iV iQ 63 := rfl
set_option maxRecDepth 100000 in
theorem hh_64 : hh0 64 = mk iA iB iV iQ 64 := rfl
set_option maxRecDepth 100000 in
theorem hh_65 : hh0 65 = mk iA iB iV iQ 65 := rfl
set_option maxRecDepth 100000 in
theorem hh_66 : hh0 66 = mk iA iB iV iQ 66 := rfl
set_option maxRecDepth 100000 in
theorem hh_67 : hh0 67 = mk iA iB iV iQ 67 := rfl
set_option maxRecDepth 100000 in
theorem hh_68 : hh0 68 = mk iA iB iV iQ 68 := rfl
set_option maxRecDepth 100000 in
theorem hh_69 : hh0 69 = mk iA iB iV iQ 69 := rfl
set_option maxRecDepth 100000 in
theorem hh_70 : hh0 70 = mk iA iB iV iQ 70 := rfl
set_option maxRecDepth 100000 in
theorem hh_71 : hh0 71 = mk iA iB iV iQ 71 := rfl
set_option maxRecDepth 100000 in
theorem hh_72 : hh0 72 = mk iA iB iV iQ 72 := rfl
set_option maxRecDepth 100000 in
theorem hh_73 : hh0 73 = mk iA iB iV iQ 73 := rfl
set_option maxRecDepth 100000 in
theorem hh_74 : hh0 74 = mk iA iB iV iQ 74 := rfl
set_option maxRecDepth 100000 in
theorem hh_75 : hh0 75 = mk iA iB iV iQ 75 := rfl
set_option maxRecDepth 100000 in
theorem hh_76 : hh0 76 = mk iA iB iV iQ 76 := rfl
set_option maxRecDepth 100000 in
theorem hh_77 : hh0 77 = mk iA iB iV iQ 77 := rfl
set_option maxRecDepth 100000 in
theorem hh_78 : hh0 78 = mk iA iB iV iQ 78 := rfl
set_option maxRecDepth 100000 in
theorem hh_79 : hh0 79 = mk iA iB iV iQ 79 := rfl
set_option maxRecDepth 100000 in
theorem hh_80 : hh0 80 = mk iA iB iV iQ 80 := rfl
set_option maxRecDepth 100000 in
theorem hh_81 : hh0 81 = mk iA iB iV iQ 81 := rfl
set_option maxRecDepth 100000 in
theorem hh_82 : hh0 82 = mk iA iB iV iQ 82 := rfl
set_option maxRecDepth 100000 in
theorem hh_83 : hh0 83 = mk iA iB iV iQ 83 := rfl
set_option maxRecDepth 100000 in
theorem hh_84 : hh0 84 = mk iA iB iV iQ 84 := rfl
set_option maxRecDepth 100000 in
theorem hh_85 : hh0 85 = mk iA iB iV iQ 85 := rfl
set_option maxRecDepth 100000 in
theorem hh_86 : hh0 86 = mk iA iB iV iQ 86 := rfl
set_option maxRecDepth 100000 in
theorem hh_87 : hh0 87 = mk iA iB iV iQ 87 := rfl
set_option maxRecDepth 100000 in
theorem hh_88 : hh0 88 = mk iA iB iV iQ 88 := rfl
set_option maxRecDepth 100000 in
theorem hh_89 : hh0 89 = mk iA iB iV iQ 89 := rfl
set_option maxRecDepth 100000 in
theorem hh_90 : hh0 90 = mk iA iB iV iQ 90 := rfl
theorem hh_all : ∀ p, hh0 p = mk iA iB iV iQ p
  | 0 => hh_0
  | 1 => hh_1
  | 2 => hh_2
  | 3 => hh_3
  | 4 => hh_4
  | 5 => hh_5
  | 6 => hh_6
  | 7 => hh_7
  | 8 => hh_8
  | 9 => hh_9
  | 10 => hh_10
  | 11 => hh_11
  | 12 => hh_12
  | 13 => hh_13
  | 14 => hh_14
  | 15 => hh_15
  | 16 => hh_16
  | 17 => hh_17
  | 18 => hh_18
  | 19 => hh_19
  | 20 => hh_20
  | 21 => hh_21
  | 22 => hh_22
  | 23 => hh_23
  | 24 => hh_24
  | 25 => hh_25
  | 26 => hh_26
  | 27 => hh_27
  | 28 => hh_28
  | 29 => hh_29
  | 30 => hh_30
  | 31 => hh_31
  | 32 => hh_32
  | 33 => hh_33
  | 34 => hh_34
  | 35 => hh_35
  | 36 => hh_36
  | 37 => hh_37
  | 38 => hh_38
  | 39 => hh_39
  | 40 => hh_40
  | 41 => hh_41
  | 42 => hh_42
  | 43 => hh_43
  | 44 => hh_44
  | 45 => hh_45
  | 46 => hh_46
  | 47 => hh_47
  | 48 => hh_48
  | 49 => hh_49
  | 50 => hh_50
  | 51 => hh_51
  | 52 => hh_52
  | 53 => hh_53
  | 54 => hh_54
  | 55 => hh_55
  | 56 => hh_56
  | 57 => hh_57
  | 58 => hh_58
  | 59 => hh_59
  | 60 => hh_60
  | 61 => hh_61
  | 62 => hh_62
  | 63 => hh_63
  | 64 => hh_64
  | 65 => hh_65
  | 66 => hh_66
  | 67 => hh_67
  | 68 => hh_68
  | 69 => hh_69
  | 70 => hh_70
  | 71 => hh_71
  | 72 => hh_72
  | 73 => hh_73
  | 74 => hh_74
  | 75 => hh_75
  | 76 => hh_76
  | 77 => hh_77
  | 78 => hh_78
  | 79 => hh_79
  | 80 => hh_80
  | 81 => hh_81
  | 82 => hh_82
  | 83 => hh_83
  | 84 => hh_84
  | 85 => hh_85
  | 86 => hh_86
  | 87 => hh_87
  | 88 => hh_88
  | 89 => hh_89
  | 90 => hh_90
  | p + 91 => by
    rw [hh_tail]
    have : shp (p + 91) = (99, 0) := by
      unfold shp
      rw [List.getD_eq_getElem?_getD, List.getElem?_eq_none (by show 91 ≤ p + 91; omega)]
      rfl
    unfold mk
    rw [this]
    rfl
theorem hh_mk : hh0 = mk iA iB iV iQ := funext hh_all
