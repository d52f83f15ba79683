theorem bs {α β : Type} (a : α) (f : α → Option β) : (some a).bind f = f a := rfl
section IN
variable {A : tA2} {B : tB2} {V : tA2} {q : tQ} {x : Int32} {y : Int64} {i : Int32}
theorem c_0 : chk 7 (mk A B V q) 0 = some () := mk_chk (p := 0) (ci := 7) rfl (by decide)
theorem r_0_0 : getR 7 (mk A B V q) 0 0 = some 1 := mk_getR (p := 0) (k := 0) (ci := 7) rfl (by decide) rfl
theorem r_0_1 : getR 7 (mk A B V q) 0 1 = some 2 := mk_getR (p := 0) (k := 1) (ci := 7) rfl (by decide) rfl
theorem r_0_2 : getR 7 (mk A B V q) 0 2 = some (q.1) := mk_getR (p := 0) (k := 2) (ci := 7) rfl (by decide) rfl
theorem g_0_3 : getI 7 (mk A B V q) 0 3 = some (V 0 3) := mk_getI (p := 0) (k := 3) (ci := 7) rfl (by decide) rfl
theorem w_0_3 : putV 7 (mk A B V q) 0 3 (.int x) = some (mk A B (u2 V 0 3 x) q) := mk_putI (p := 0) (k := 3) (ci := 7) rfl (by decide) rfl
theorem r_0_4 : getR 7 (mk A B V q) 0 4 = some 21 := mk_getR (p := 0) (k := 4) (ci := 7) rfl (by decide) rfl
theorem g_0_5 : getI 7 (mk A B V q) 0 5 = some (V 0 5) := mk_getI (p := 0) (k := 5) (ci := 7) rfl (by decide) rfl
theorem w_0_5 : putV 7 (mk A B V q) 0 5 (.int x) = some (mk A B (u2 V 0 5 x) q) := mk_putI (p := 0) (k := 5) (ci := 7) rfl (by decide) rfl
theorem r_0_6 : getR 7 (mk A B V q) 0 6 = some 22 := mk_getR (p := 0) (k := 6) (ci := 7) rfl (by decide) rfl
theorem r_0_7 : getR 7 (mk A B V q) 0 7 = some 23 := mk_getR (p := 0) (k := 7) (ci := 7) rfl (by decide) rfl
theorem g_0_8 : getI 7 (mk A B V q) 0 8 = some (V 0 8) := mk_getI (p := 0) (k := 8) (ci := 7) rfl (by decide) rfl
theorem w_0_8 : putV 7 (mk A B V q) 0 8 (.int x) = some (mk A B (u2 V 0 8 x) q) := mk_putI (p := 0) (k := 8) (ci := 7) rfl (by decide) rfl
theorem r_0_9 : getR 7 (mk A B V q) 0 9 = some 24 := mk_getR (p := 0) (k := 9) (ci := 7) rfl (by decide) rfl
theorem r_0_10 : getR 7 (mk A B V q) 0 10 = some 26 := mk_getR (p := 0) (k := 10) (ci := 7) rfl (by decide) rfl
theorem r_0_11 : getR 7 (mk A B V q) 0 11 = some 27 := mk_getR (p := 0) (k := 11) (ci := 7) rfl (by decide) rfl
theorem r_0_12 : getR 7 (mk A B V q) 0 12 = some 33 := mk_getR (p := 0) (k := 12) (ci := 7) rfl (by decide) rfl
theorem r_0_13 : getR 7 (mk A B V q) 0 13 = some 39 := mk_getR (p := 0) (k := 13) (ci := 7) rfl (by decide) rfl
theorem g_0_14 : getI 7 (mk A B V q) 0 14 = some (V 0 14) := mk_getI (p := 0) (k := 14) (ci := 7) rfl (by decide) rfl
theorem w_0_14 : putV 7 (mk A B V q) 0 14 (.int x) = some (mk A B (u2 V 0 14 x) q) := mk_putI (p := 0) (k := 14) (ci := 7) rfl (by decide) rfl
theorem z_0_14_0 : putZ 7 (mk A B V q) 0 14 0 = some (mk A B (u2 V 0 14 0) q) := mk_putZ (p := 0) (k := 14) (ci := 7) rfl (by decide) rfl (by decide)
theorem z_0_14_1 : putZ 7 (mk A B V q) 0 14 1 = some (mk A B (u2 V 0 14 1) q) := mk_putZ (p := 0) (k := 14) (ci := 7) rfl (by decide) rfl (by decide)
theorem g_0_15 : getI 7 (mk A B V q) 0 15 = some (V 0 15) := mk_getI (p := 0) (k := 15) (ci := 7) rfl (by decide) rfl
theorem w_0_15 : putV 7 (mk A B V q) 0 15 (.int x) = some (mk A B (u2 V 0 15 x) q) := mk_putI (p := 0) (k := 15) (ci := 7) rfl (by decide) rfl
theorem g_0_16 : getI 7 (mk A B V q) 0 16 = some (V 0 16) := mk_getI (p := 0) (k := 16) (ci := 7) rfl (by decide) rfl
theorem w_0_16 : putV 7 (mk A B V q) 0 16 (.int x) = some (mk A B (u2 V 0 16 x) q) := mk_putI (p := 0) (k := 16) (ci := 7) rfl (by decide) rfl
theorem c_2 : chk 5 (mk A B V q) 2 = some () := mk_chk (p := 2) (ci := 5) rfl (by decide)
theorem r_2_0 : getR 5 (mk A B V q) 2 0 = some (q.2.1) := mk_getR (p := 2) (k := 0) (ci := 5) rfl (by decide) rfl
theorem g_2_1 : getI 5 (mk A B V q) 2 1 = some (V 2 1) := mk_getI (p := 2) (k := 1) (ci := 5) rfl (by decide) rfl
theorem w_2_1 : putV 5 (mk A B V q) 2 1 (.int x) = some (mk A B (u2 V 2 1 x) q) := mk_putI (p := 2) (k := 1) (ci := 5) rfl (by decide) rfl
theorem c_27 : chk 1 (mk A B V q) 27 = some () := mk_chk (p := 27) (ci := 1) rfl (by decide)
theorem r_27_0 : getR 1 (mk A B V q) 27 0 = some 28 := mk_getR (p := 27) (k := 0) (ci := 1) rfl (by decide) rfl
theorem r_27_1 : getR 1 (mk A B V q) 27 1 = some 29 := mk_getR (p := 27) (k := 1) (ci := 1) rfl (by decide) rfl
theorem r_27_2 : getR 1 (mk A B V q) 27 2 = some 30 := mk_getR (p := 27) (k := 2) (ci := 1) rfl (by decide) rfl
theorem r_27_3 : getR 1 (mk A B V q) 27 3 = some 31 := mk_getR (p := 27) (k := 3) (ci := 1) rfl (by decide) rfl
theorem r_27_4 : getR 1 (mk A B V q) 27 4 = some 32 := mk_getR (p := 27) (k := 4) (ci := 1) rfl (by decide) rfl
theorem g_27_5 : getI 1 (mk A B V q) 27 5 = some (V 27 5) := mk_getI (p := 27) (k := 5) (ci := 1) rfl (by decide) rfl
theorem w_27_5 : putV 1 (mk A B V q) 27 5 (.int x) = some (mk A B (u2 V 27 5 x) q) := mk_putI (p := 27) (k := 5) (ci := 1) rfl (by decide) rfl
theorem c_33 : chk 2 (mk A B V q) 33 = some () := mk_chk (p := 33) (ci := 2) rfl (by decide)
theorem r_33_0 : getR 2 (mk A B V q) 33 0 = some 34 := mk_getR (p := 33) (k := 0) (ci := 2) rfl (by decide) rfl
theorem r_33_1 : getR 2 (mk A B V q) 33 1 = some 35 := mk_getR (p := 33) (k := 1) (ci := 2) rfl (by decide) rfl
theorem r_33_2 : getR 2 (mk A B V q) 33 2 = some 36 := mk_getR (p := 33) (k := 2) (ci := 2) rfl (by decide) rfl
theorem r_33_3 : getR 2 (mk A B V q) 33 3 = some 37 := mk_getR (p := 33) (k := 3) (ci := 2) rfl (by decide) rfl
theorem r_33_4 : getR 2 (mk A B V q) 33 4 = some 38 := mk_getR (p := 33) (k := 4) (ci := 2) rfl (by decide) rfl
theorem g_33_5 : getI 2 (mk A B V q) 33 5 = some (V 33 5) := mk_getI (p := 33) (k := 5) (ci := 2) rfl (by decide) rfl
theorem w_33_5 : putV 2 (mk A B V q) 33 5 (.int x) = some (mk A B (u2 V 33 5 x) q) := mk_putI (p := 33) (k := 5) (ci := 2) rfl (by decide) rfl
theorem g_33_6 : getI 2 (mk A B V q) 33 6 = some (V 33 6) := mk_getI (p := 33) (k := 6) (ci := 2) rfl (by decide) rfl
theorem w_33_6 : putV 2 (mk A B V q) 33 6 (.int x) = some (mk A B (u2 V 33 6 x) q) := mk_putI (p := 33) (k := 6) (ci := 2) rfl (by decide) rfl
theorem g_33_7 : getI 2 (mk A B V q) 33 7 = some (V 33 7) := mk_getI (p := 33) (k := 7) (ci := 2) rfl (by decide) rfl
theorem w_33_7 : putV 2 (mk A B V q) 33 7 (.int x) = some (mk A B (u2 V 33 7 x) q) := mk_putI (p := 33) (k := 7) (ci := 2) rfl (by decide) rfl
theorem c_39 : chk 0 (mk A B V q) 39 = some () := mk_chk (p := 39) (ci := 0) rfl (by decide)
theorem r_39_0 : getR 0 (mk A B V q) 39 0 = some 40 := mk_getR (p := 39) (k := 0) (ci := 0) rfl (by decide) rfl
theorem r_39_1 : getR 0 (mk A B V q) 39 1 = some 41 := mk_getR (p := 39) (k := 1) (ci := 0) rfl (by decide) rfl
theorem r_39_2 : getR 0 (mk A B V q) 39 2 = some (q.2.2.1) := mk_getR (p := 39) (k := 2) (ci := 0) rfl (by decide) rfl
theorem r_39_3 : getR 0 (mk A B V q) 39 3 = some (q.2.2.2) := mk_getR (p := 39) (k := 3) (ci := 0) rfl (by decide) rfl
theorem g_39_4 : getI 0 (mk A B V q) 39 4 = some (V 39 4) := mk_getI (p := 39) (k := 4) (ci := 0) rfl (by decide) rfl
theorem w_39_4 : putV 0 (mk A B V q) 39 4 (.int x) = some (mk A B (u2 V 39 4 x) q) := mk_putI (p := 39) (k := 4) (ci := 0) rfl (by decide) rfl
theorem c_68 : chk 8 (mk A B V q) 68 = some () := mk_chk (p := 68) (ci := 8) rfl (by decide)
theorem g_68_0 : getI 8 (mk A B V q) 68 0 = some (V 68 0) := mk_getI (p := 68) (k := 0) (ci := 8) rfl (by decide) rfl
theorem w_68_0 : putV 8 (mk A B V q) 68 0 (.int x) = some (mk A B (u2 V 68 0 x) q) := mk_putI (p := 68) (k := 0) (ci := 8) rfl (by decide) rfl
theorem g_68_1 : getI 8 (mk A B V q) 68 1 = some (V 68 1) := mk_getI (p := 68) (k := 1) (ci := 8) rfl (by decide) rfl
theorem w_68_1 : putV 8 (mk A B V q) 68 1 (.int x) = some (mk A B (u2 V 68 1 x) q) := mk_putI (p := 68) (k := 1) (ci := 8) rfl (by decide) rfl
theorem r_68_2 : getR 8 (mk A B V q) 68 2 = some 69 := mk_getR (p := 68) (k := 2) (ci := 8) rfl (by decide) rfl
theorem r_68_3 : getR 8 (mk A B V q) 68 3 = some 70 := mk_getR (p := 68) (k := 3) (ci := 8) rfl (by decide) rfl
theorem r_68_4 : getR 8 (mk A B V q) 68 4 = some 71 := mk_getR (p := 68) (k := 4) (ci := 8) rfl (by decide) rfl
theorem g_68_5 : getI 8 (mk A B V q) 68 5 = some (V 68 5) := mk_getI (p := 68) (k := 5) (ci := 8) rfl (by decide) rfl
theorem w_68_5 : putV 8 (mk A B V q) 68 5 (.int x) = some (mk A B (u2 V 68 5 x) q) := mk_putI (p := 68) (k := 5) (ci := 8) rfl (by decide) rfl
theorem g_68_6 : getI 8 (mk A B V q) 68 6 = some (V 68 6) := mk_getI (p := 68) (k := 6) (ci := 8) rfl (by decide) rfl
theorem w_68_6 : putV 8 (mk A B V q) 68 6 (.int x) = some (mk A B (u2 V 68 6 x) q) := mk_putI (p := 68) (k := 6) (ci := 8) rfl (by decide) rfl
theorem r_68_7 : getR 8 (mk A B V q) 68 7 = some 72 := mk_getR (p := 68) (k := 7) (ci := 8) rfl (by decide) rfl
theorem r_68_8 : getR 8 (mk A B V q) 68 8 = some 73 := mk_getR (p := 68) (k := 8) (ci := 8) rfl (by decide) rfl
theorem r_68_9 : getR 8 (mk A B V q) 68 9 = some 74 := mk_getR (p := 68) (k := 9) (ci := 8) rfl (by decide) rfl
theorem r_68_10 : getR 8 (mk A B V q) 68 10 = some 75 := mk_getR (p := 68) (k := 10) (ci := 8) rfl (by decide) rfl
theorem g_68_11 : getI 8 (mk A B V q) 68 11 = some (V 68 11) := mk_getI (p := 68) (k := 11) (ci := 8) rfl (by decide) rfl
theorem w_68_11 : putV 8 (mk A B V q) 68 11 (.int x) = some (mk A B (u2 V 68 11 x) q) := mk_putI (p := 68) (k := 11) (ci := 8) rfl (by decide) rfl
theorem g_68_12 : getI 8 (mk A B V q) 68 12 = some (V 68 12) := mk_getI (p := 68) (k := 12) (ci := 8) rfl (by decide) rfl
theorem w_68_12 : putV 8 (mk A B V q) 68 12 (.int x) = some (mk A B (u2 V 68 12 x) q) := mk_putI (p := 68) (k := 12) (ci := 8) rfl (by decide) rfl
theorem r_68_13 : getR 8 (mk A B V q) 68 13 = some 76 := mk_getR (p := 68) (k := 13) (ci := 8) rfl (by decide) rfl
theorem r_68_14 : getR 8 (mk A B V q) 68 14 = some 77 := mk_getR (p := 68) (k := 14) (ci := 8) rfl (by decide) rfl
theorem r_68_15 : getR 8 (mk A B V q) 68 15 = some 78 := mk_getR (p := 68) (k := 15) (ci := 8) rfl (by decide) rfl
theorem r_68_16 : getR 8 (mk A B V q) 68 16 = some 79 := mk_getR (p := 68) (k := 16) (ci := 8) rfl (by decide) rfl
theorem g_68_17 : getI 8 (mk A B V q) 68 17 = some (V 68 17) := mk_getI (p := 68) (k := 17) (ci := 8) rfl (by decide) rfl
theorem w_68_17 : putV 8 (mk A B V q) 68 17 (.int x) = some (mk A B (u2 V 68 17 x) q) := mk_putI (p := 68) (k := 17) (ci := 8) rfl (by decide) rfl
theorem r_68_18 : getR 8 (mk A B V q) 68 18 = some 80 := mk_getR (p := 68) (k := 18) (ci := 8) rfl (by decide) rfl
theorem r_68_19 : getR 8 (mk A B V q) 68 19 = some 81 := mk_getR (p := 68) (k := 19) (ci := 8) rfl (by decide) rfl
theorem r_68_20 : getR 8 (mk A B V q) 68 20 = some 82 := mk_getR (p := 68) (k := 20) (ci := 8) rfl (by decide) rfl
theorem r_68_21 : getR 8 (mk A B V q) 68 21 = some 83 := mk_getR (p := 68) (k := 21) (ci := 8) rfl (by decide) rfl
theorem r_68_22 : getR 8 (mk A B V q) 68 22 = some 84 := mk_getR (p := 68) (k := 22) (ci := 8) rfl (by decide) rfl
theorem r_68_23 : getR 8 (mk A B V q) 68 23 = some 85 := mk_getR (p := 68) (k := 23) (ci := 8) rfl (by decide) rfl
theorem r_68_24 : getR 8 (mk A B V q) 68 24 = some 86 := mk_getR (p := 68) (k := 24) (ci := 8) rfl (by decide) rfl
theorem g_68_25 : getI 8 (mk A B V q) 68 25 = some (V 68 25) := mk_getI (p := 68) (k := 25) (ci := 8) rfl (by decide) rfl
theorem w_68_25 : putV 8 (mk A B V q) 68 25 (.int x) = some (mk A B (u2 V 68 25 x) q) := mk_putI (p := 68) (k := 25) (ci := 8) rfl (by decide) rfl
theorem r_68_26 : getR 8 (mk A B V q) 68 26 = some 87 := mk_getR (p := 68) (k := 26) (ci := 8) rfl (by decide) rfl
theorem r_68_27 : getR 8 (mk A B V q) 68 27 = some 88 := mk_getR (p := 68) (k := 27) (ci := 8) rfl (by decide) rfl
theorem r_68_28 : getR 8 (mk A B V q) 68 28 = some 89 := mk_getR (p := 68) (k := 28) (ci := 8) rfl (by decide) rfl
theorem r_68_29 : getR 8 (mk A B V q) 68 29 = some 90 := mk_getR (p := 68) (k := 29) (ci := 8) rfl (by decide) rfl
theorem l_21 (h : inb i 60 = true) : aldI 0 (mk A B V q) 21 i = some (A 21 i.toNatClampNeg) := mk_aldI (p := 21) (n := 60) rfl h
theorem s_21 (h : inb i 60 = true) : astI 0 (mk A B V q) 21 i x = some (mk (u2 A 21 i.toNatClampNeg x) B V q) := mk_astI (p := 21) (n := 60) rfl h
theorem l_22 (h : inb i 40 = true) : aldI 0 (mk A B V q) 22 i = some (A 22 i.toNatClampNeg) := mk_aldI (p := 22) (n := 40) rfl h
theorem s_22 (h : inb i 40 = true) : astI 0 (mk A B V q) 22 i x = some (mk (u2 A 22 i.toNatClampNeg x) B V q) := mk_astI (p := 22) (n := 40) rfl h
theorem l_25 (h : inb i 4 = true) : aldI 0 (mk A B V q) 25 i = some (A 25 i.toNatClampNeg) := mk_aldI (p := 25) (n := 4) rfl h
theorem s_25 (h : inb i 4 = true) : astI 0 (mk A B V q) 25 i x = some (mk (u2 A 25 i.toNatClampNeg x) B V q) := mk_astI (p := 25) (n := 4) rfl h
theorem l_26 (h : inb i 4 = true) : aldI 0 (mk A B V q) 26 i = some (A 26 i.toNatClampNeg) := mk_aldI (p := 26) (n := 4) rfl h
theorem s_26 (h : inb i 4 = true) : astI 0 (mk A B V q) 26 i x = some (mk (u2 A 26 i.toNatClampNeg x) B V q) := mk_astI (p := 26) (n := 4) rfl h
theorem l_28 (h : inb i 121 = true) : aldI 0 (mk A B V q) 28 i = some (A 28 i.toNatClampNeg) := mk_aldI (p := 28) (n := 121) rfl h
theorem s_28 (h : inb i 121 = true) : astI 0 (mk A B V q) 28 i x = some (mk (u2 A 28 i.toNatClampNeg x) B V q) := mk_astI (p := 28) (n := 121) rfl h
theorem l_29 (h : inb i 121 = true) : aldI 0 (mk A B V q) 29 i = some (A 29 i.toNatClampNeg) := mk_aldI (p := 29) (n := 121) rfl h
theorem s_29 (h : inb i 121 = true) : astI 0 (mk A B V q) 29 i x = some (mk (u2 A 29 i.toNatClampNeg x) B V q) := mk_astI (p := 29) (n := 121) rfl h
theorem l_30 (h : inb i 121 = true) : aldI 0 (mk A B V q) 30 i = some (A 30 i.toNatClampNeg) := mk_aldI (p := 30) (n := 121) rfl h
theorem s_30 (h : inb i 121 = true) : astI 0 (mk A B V q) 30 i x = some (mk (u2 A 30 i.toNatClampNeg x) B V q) := mk_astI (p := 30) (n := 121) rfl h
theorem l_31 (h : inb i 40 = true) : aldI 2 (mk A B V q) 31 i = some (A 31 i.toNatClampNeg) := mk_aldZ (p := 31) (n := 40) rfl h
theorem s_31 (h : inb i 40 = true) : astI 2 (mk A B V q) 31 i x = some (mk (u2 A 31 i.toNatClampNeg x) B V q) := mk_astZ (p := 31) (n := 40) rfl h
theorem l_32 (h : inb i 4 = true) : aldI 0 (mk A B V q) 32 i = some (A 32 i.toNatClampNeg) := mk_aldI (p := 32) (n := 4) rfl h
theorem s_32 (h : inb i 4 = true) : astI 0 (mk A B V q) 32 i x = some (mk (u2 A 32 i.toNatClampNeg x) B V q) := mk_astI (p := 32) (n := 4) rfl h
theorem l_34 (h : inb i 640 = true) : aldI 0 (mk A B V q) 34 i = some (A 34 i.toNatClampNeg) := mk_aldI (p := 34) (n := 640) rfl h
theorem s_34 (h : inb i 640 = true) : astI 0 (mk A B V q) 34 i x = some (mk (u2 A 34 i.toNatClampNeg x) B V q) := mk_astI (p := 34) (n := 640) rfl h
theorem l_35 (h : inb i 320 = true) : aldI 0 (mk A B V q) 35 i = some (A 35 i.toNatClampNeg) := mk_aldI (p := 35) (n := 320) rfl h
theorem s_35 (h : inb i 320 = true) : astI 0 (mk A B V q) 35 i x = some (mk (u2 A 35 i.toNatClampNeg x) B V q) := mk_astI (p := 35) (n := 320) rfl h
theorem l_36 (h : inb i 320 = true) : aldI 0 (mk A B V q) 36 i = some (A 36 i.toNatClampNeg) := mk_aldI (p := 36) (n := 320) rfl h
theorem s_36 (h : inb i 320 = true) : astI 0 (mk A B V q) 36 i x = some (mk (u2 A 36 i.toNatClampNeg x) B V q) := mk_astI (p := 36) (n := 320) rfl h
theorem l_37 (h : inb i 960 = true) : aldI 0 (mk A B V q) 37 i = some (A 37 i.toNatClampNeg) := mk_aldI (p := 37) (n := 960) rfl h
theorem s_37 (h : inb i 960 = true) : astI 0 (mk A B V q) 37 i x = some (mk (u2 A 37 i.toNatClampNeg x) B V q) := mk_astI (p := 37) (n := 960) rfl h
theorem l_38 (h : inb i 16 = true) : aldI 0 (mk A B V q) 38 i = some (A 38 i.toNatClampNeg) := mk_aldI (p := 38) (n := 16) rfl h
theorem s_38 (h : inb i 16 = true) : astI 0 (mk A B V q) 38 i x = some (mk (u2 A 38 i.toNatClampNeg x) B V q) := mk_astI (p := 38) (n := 16) rfl h
theorem l_40 (h : inb i 31 = true) : aldL (mk A B V q) 40 i = some (B 40 i.toNatClampNeg) := mk_aldL (p := 40) (n := 31) rfl h
theorem s_40 (h : inb i 31 = true) : astL (mk A B V q) 40 i y = some (mk A (u2 B 40 i.toNatClampNeg y) V q) := mk_astL (p := 40) (n := 31) rfl h
theorem l_41 (h : inb i 31 = true) : aldL (mk A B V q) 41 i = some (B 41 i.toNatClampNeg) := mk_aldL (p := 41) (n := 31) rfl h
theorem s_41 (h : inb i 31 = true) : astL (mk A B V q) 41 i y = some (mk A (u2 B 41 i.toNatClampNeg y) V q) := mk_astL (p := 41) (n := 31) rfl h
theorem l_42 (h : inb i 320 = true) : aldL (mk A B V q) 42 i = some (B 42 i.toNatClampNeg) := mk_aldL (p := 42) (n := 320) rfl h
theorem s_42 (h : inb i 320 = true) : astL (mk A B V q) 42 i y = some (mk A (u2 B 42 i.toNatClampNeg y) V q) := mk_astL (p := 42) (n := 320) rfl h
theorem l_43 (h : inb i 320 = true) : aldL (mk A B V q) 43 i = some (B 43 i.toNatClampNeg) := mk_aldL (p := 43) (n := 320) rfl h
theorem s_43 (h : inb i 320 = true) : astL (mk A B V q) 43 i y = some (mk A (u2 B 43 i.toNatClampNeg y) V q) := mk_astL (p := 43) (n := 320) rfl h
theorem l_69 (h : inb i 4 = true) : aldI 0 (mk A B V q) 69 i = some (A 69 i.toNatClampNeg) := mk_aldI (p := 69) (n := 4) rfl h
theorem s_69 (h : inb i 4 = true) : astI 0 (mk A B V q) 69 i x = some (mk (u2 A 69 i.toNatClampNeg x) B V q) := mk_astI (p := 69) (n := 4) rfl h
theorem l_70 (h : inb i 4 = true) : aldI 0 (mk A B V q) 70 i = some (A 70 i.toNatClampNeg) := mk_aldI (p := 70) (n := 4) rfl h
theorem s_70 (h : inb i 4 = true) : astI 0 (mk A B V q) 70 i x = some (mk (u2 A 70 i.toNatClampNeg x) B V q) := mk_astI (p := 70) (n := 4) rfl h
theorem l_71 (h : inb i 240 = true) : aldI 0 (mk A B V q) 71 i = some (A 71 i.toNatClampNeg) := mk_aldI (p := 71) (n := 240) rfl h
theorem s_71 (h : inb i 240 = true) : astI 0 (mk A B V q) 71 i x = some (mk (u2 A 71 i.toNatClampNeg x) B V q) := mk_astI (p := 71) (n := 240) rfl h
theorem l_72 (h : inb i 4 = true) : aldI 0 (mk A B V q) 72 i = some (A 72 i.toNatClampNeg) := mk_aldI (p := 72) (n := 4) rfl h
theorem s_72 (h : inb i 4 = true) : astI 0 (mk A B V q) 72 i x = some (mk (u2 A 72 i.toNatClampNeg x) B V q) := mk_astI (p := 72) (n := 4) rfl h
theorem l_73 (h : inb i 4 = true) : aldI 0 (mk A B V q) 73 i = some (A 73 i.toNatClampNeg) := mk_aldI (p := 73) (n := 4) rfl h
theorem s_73 (h : inb i 4 = true) : astI 0 (mk A B V q) 73 i x = some (mk (u2 A 73 i.toNatClampNeg x) B V q) := mk_astI (p := 73) (n := 4) rfl h
theorem l_74 (h : inb i 16 = true) : aldI 0 (mk A B V q) 74 i = some (A 74 i.toNatClampNeg) := mk_aldI (p := 74) (n := 16) rfl h
theorem s_74 (h : inb i 16 = true) : astI 0 (mk A B V q) 74 i x = some (mk (u2 A 74 i.toNatClampNeg x) B V q) := mk_astI (p := 74) (n := 16) rfl h
theorem l_75 (h : inb i 60 = true) : aldI 0 (mk A B V q) 75 i = some (A 75 i.toNatClampNeg) := mk_aldI (p := 75) (n := 60) rfl h
theorem s_75 (h : inb i 60 = true) : astI 0 (mk A B V q) 75 i x = some (mk (u2 A 75 i.toNatClampNeg x) B V q) := mk_astI (p := 75) (n := 60) rfl h
theorem l_76 (h : inb i 4 = true) : aldI 0 (mk A B V q) 76 i = some (A 76 i.toNatClampNeg) := mk_aldI (p := 76) (n := 4) rfl h
theorem s_76 (h : inb i 4 = true) : astI 0 (mk A B V q) 76 i x = some (mk (u2 A 76 i.toNatClampNeg x) B V q) := mk_astI (p := 76) (n := 4) rfl h
theorem l_77 (h : inb i 4 = true) : aldI 0 (mk A B V q) 77 i = some (A 77 i.toNatClampNeg) := mk_aldI (p := 77) (n := 4) rfl h
theorem s_77 (h : inb i 4 = true) : astI 0 (mk A B V q) 77 i x = some (mk (u2 A 77 i.toNatClampNeg x) B V q) := mk_astI (p := 77) (n := 4) rfl h
theorem l_78 (h : inb i 16 = true) : aldI 0 (mk A B V q) 78 i = some (A 78 i.toNatClampNeg) := mk_aldI (p := 78) (n := 16) rfl h
theorem s_78 (h : inb i 16 = true) : astI 0 (mk A B V q) 78 i x = some (mk (u2 A 78 i.toNatClampNeg x) B V q) := mk_astI (p := 78) (n := 16) rfl h
theorem l_79 (h : inb i 60 = true) : aldI 0 (mk A B V q) 79 i = some (A 79 i.toNatClampNeg) := mk_aldI (p := 79) (n := 60) rfl h
theorem s_79 (h : inb i 60 = true) : astI 0 (mk A B V q) 79 i x = some (mk (u2 A 79 i.toNatClampNeg x) B V q) := mk_astI (p := 79) (n := 60) rfl h
theorem l_80 (h : inb i 120 = true) : aldI 0 (mk A B V q) 80 i = some (A 80 i.toNatClampNeg) := mk_aldI (p := 80) (n := 120) rfl h
theorem s_80 (h : inb i 120 = true) : astI 0 (mk A B V q) 80 i x = some (mk (u2 A 80 i.toNatClampNeg x) B V q) := mk_astI (p := 80) (n := 120) rfl h
theorem l_81 (h : inb i 120 = true) : aldI 0 (mk A B V q) 81 i = some (A 81 i.toNatClampNeg) := mk_aldI (p := 81) (n := 120) rfl h
theorem s_81 (h : inb i 120 = true) : astI 0 (mk A B V q) 81 i x = some (mk (u2 A 81 i.toNatClampNeg x) B V q) := mk_astI (p := 81) (n := 120) rfl h
theorem l_82 (h : inb i 640 = true) : aldI 0 (mk A B V q) 82 i = some (A 82 i.toNatClampNeg) := mk_aldI (p := 82) (n := 640) rfl h
theorem s_82 (h : inb i 640 = true) : astI 0 (mk A B V q) 82 i x = some (mk (u2 A 82 i.toNatClampNeg x) B V q) := mk_astI (p := 82) (n := 640) rfl h
theorem l_83 (h : inb i 640 = true) : aldL (mk A B V q) 83 i = some (B 83 i.toNatClampNeg) := mk_aldL (p := 83) (n := 640) rfl h
theorem s_83 (h : inb i 640 = true) : astL (mk A B V q) 83 i y = some (mk A (u2 B 83 i.toNatClampNeg y) V q) := mk_astL (p := 83) (n := 640) rfl h
theorem l_84 (h : inb i 640 = true) : aldL (mk A B V q) 84 i = some (B 84 i.toNatClampNeg) := mk_aldL (p := 84) (n := 640) rfl h
theorem s_84 (h : inb i 640 = true) : astL (mk A B V q) 84 i y = some (mk A (u2 B 84 i.toNatClampNeg y) V q) := mk_astL (p := 84) (n := 640) rfl h
theorem l_85 (h : inb i 40 = true) : aldI 0 (mk A B V q) 85 i = some (A 85 i.toNatClampNeg) := mk_aldI (p := 85) (n := 40) rfl h
theorem s_85 (h : inb i 40 = true) : astI 0 (mk A B V q) 85 i x = some (mk (u2 A 85 i.toNatClampNeg x) B V q) := mk_astI (p := 85) (n := 40) rfl h
theorem l_86 (h : inb i 40 = true) : aldI 0 (mk A B V q) 86 i = some (A 86 i.toNatClampNeg) := mk_aldI (p := 86) (n := 40) rfl h
theorem s_86 (h : inb i 40 = true) : astI 0 (mk A B V q) 86 i x = some (mk (u2 A 86 i.toNatClampNeg x) B V q) := mk_astI (p := 86) (n := 40) rfl h
theorem l_87 (h : inb i 8 = true) : aldI 0 (mk A B V q) 87 i = some (A 87 i.toNatClampNeg) := mk_aldI (p := 87) (n := 8) rfl h
theorem s_87 (h : inb i 8 = true) : astI 0 (mk A B V q) 87 i x = some (mk (u2 A 87 i.toNatClampNeg x) B V q) := mk_astI (p := 87) (n := 8) rfl h
theorem l_88 (h : inb i 8 = true) : aldI 0 (mk A B V q) 88 i = some (A 88 i.toNatClampNeg) := mk_aldI (p := 88) (n := 8) rfl h
theorem s_88 (h : inb i 8 = true) : astI 0 (mk A B V q) 88 i x = some (mk (u2 A 88 i.toNatClampNeg x) B V q) := mk_astI (p := 88) (n := 8) rfl h
theorem l_89 (h : inb i 8 = true) : aldI 0 (mk A B V q) 89 i = some (A 89 i.toNatClampNeg) := mk_aldI (p := 89) (n := 8) rfl h
theorem s_89 (h : inb i 8 = true) : astI 0 (mk A B V q) 89 i x = some (mk (u2 A 89 i.toNatClampNeg x) B V q) := mk_astI (p := 89) (n := 8) rfl h
theorem l_90 (h : inb i 64 = true) : aldI 0 (mk A B V q) 90 i = some (A 90 i.toNatClampNeg) := mk_aldI (p := 90) (n := 64) rfl h
theorem s_90 (h : inb i 64 = true) : astI 0 (mk A B V q) 90 i x = some (mk (u2 A 90 i.toNatClampNeg x) B V q) := mk_astI (p := 90) (n := 64) rfl h
def isW (a : Nat) : Prop := a = 4 ∨ a = 6 ∨ a = 8 ∨ a = 10 ∨ a = 13 ∨ a = 15 ∨ a = 17 ∨ a = 19 ∨ a = 24
def isS (a : Nat) : Prop := a = 44 ∨ a = 46 ∨ a = 48 ∨ a = 50
def isR (a : Nat) : Prop := a = 52 ∨ a = 54 ∨ a = 56 ∨ a = 58 ∨ a = 60 ∨ a = 62 ∨ a = 64 ∨ a = 66
theorem shW {a : Nat} (h : isW a) : (shp a).1 = 6 := by
  rcases h with rfl | rfl | rfl | rfl | rfl | rfl | rfl | rfl | rfl <;> rfl
theorem saW {a : Nat} (h : isW a) : shp (a + 1) = (10, 4) := by
  rcases h with rfl | rfl | rfl | rfl | rfl | rfl | rfl | rfl | rfl <;> rfl
theorem rrW {a : Nat} (h : isW a) : rf q a 0 = a + 1 := by
  rcases h with rfl | rfl | rfl | rfl | rfl | rfl | rfl | rfl | rfl <;> rfl
theorem cW {a : Nat} (h : isW a) : chk 6 (mk A B V q) a = some () := mk_chk (p := a) (ci := 6) (shW h) (by decide)
theorem rW {a : Nat} (h : isW a) : getR 6 (mk A B V q) a 0 = some (a + 1) := by rw [mk_getR (p := a) (k := 0) (ci := 6) (shW h) (by decide) rfl, rrW h]
theorem gW1 {a : Nat} (h : isW a) : getI 6 (mk A B V q) a 1 = some (V a 1) := mk_getI (p := a) (k := 1) (ci := 6) (shW h) (by decide) rfl
theorem wW1 {a : Nat} (h : isW a) : putV 6 (mk A B V q) a 1 (.int x) = some (mk A B (u2 V a 1 x) q) := mk_putI (p := a) (k := 1) (ci := 6) (shW h) (by decide) rfl
theorem gW2 {a : Nat} (h : isW a) : getI 6 (mk A B V q) a 2 = some (V a 2) := mk_getI (p := a) (k := 2) (ci := 6) (shW h) (by decide) rfl
theorem wW2 {a : Nat} (h : isW a) : putV 6 (mk A B V q) a 2 (.int x) = some (mk A B (u2 V a 2 x) q) := mk_putI (p := a) (k := 2) (ci := 6) (shW h) (by decide) rfl
theorem lW {a : Nat} (h : isW a) (hi : inb i 4 = true) : aldI 0 (mk A B V q) (a + 1) i = some (A (a + 1) i.toNatClampNeg) := mk_aldI (p := a + 1) (n := 4) (saW h) hi
theorem sW {a : Nat} (h : isW a) (hi : inb i 4 = true) : astI 0 (mk A B V q) (a + 1) i x = some (mk (u2 A (a + 1) i.toNatClampNeg x) B V q) := mk_astI (p := a + 1) (n := 4) (saW h) hi
theorem shS {a : Nat} (h : isS a) : (shp a).1 = 4 := by
  rcases h with rfl | rfl | rfl | rfl <;> rfl
theorem saS {a : Nat} (h : isS a) : shp (a + 1) = (10, 60) := by
  rcases h with rfl | rfl | rfl | rfl <;> rfl
theorem rrS {a : Nat} (h : isS a) : rf q a 0 = a + 1 := by
  rcases h with rfl | rfl | rfl | rfl <;> rfl
theorem cS {a : Nat} (h : isS a) : chk 4 (mk A B V q) a = some () := mk_chk (p := a) (ci := 4) (shS h) (by decide)
theorem rS {a : Nat} (h : isS a) : getR 4 (mk A B V q) a 0 = some (a + 1) := by rw [mk_getR (p := a) (k := 0) (ci := 4) (shS h) (by decide) rfl, rrS h]
theorem gS1 {a : Nat} (h : isS a) : getI 4 (mk A B V q) a 1 = some (V a 1) := mk_getI (p := a) (k := 1) (ci := 4) (shS h) (by decide) rfl
theorem wS1 {a : Nat} (h : isS a) : putV 4 (mk A B V q) a 1 (.int x) = some (mk A B (u2 V a 1 x) q) := mk_putI (p := a) (k := 1) (ci := 4) (shS h) (by decide) rfl
theorem zS1 {a : Nat} (h : isS a) (hx : x = 0 ∨ x = 1) : putZ 4 (mk A B V q) a 1 x = some (mk A B (u2 V a 1 x) q) := mk_putZ (p := a) (k := 1) (ci := 4) (shS h) (by decide) rfl hx
theorem gS2 {a : Nat} (h : isS a) : getI 4 (mk A B V q) a 2 = some (V a 2) := mk_getI (p := a) (k := 2) (ci := 4) (shS h) (by decide) rfl
theorem wS2 {a : Nat} (h : isS a) : putV 4 (mk A B V q) a 2 (.int x) = some (mk A B (u2 V a 2 x) q) := mk_putI (p := a) (k := 2) (ci := 4) (shS h) (by decide) rfl
theorem gS3 {a : Nat} (h : isS a) : getI 4 (mk A B V q) a 3 = some (V a 3) := mk_getI (p := a) (k := 3) (ci := 4) (shS h) (by decide) rfl
theorem wS3 {a : Nat} (h : isS a) : putV 4 (mk A B V q) a 3 (.int x) = some (mk A B (u2 V a 3 x) q) := mk_putI (p := a) (k := 3) (ci := 4) (shS h) (by decide) rfl
theorem lS {a : Nat} (h : isS a) (hi : inb i 60 = true) : aldI 0 (mk A B V q) (a + 1) i = some (A (a + 1) i.toNatClampNeg) := mk_aldI (p := a + 1) (n := 60) (saS h) hi
theorem sS {a : Nat} (h : isS a) (hi : inb i 60 = true) : astI 0 (mk A B V q) (a + 1) i x = some (mk (u2 A (a + 1) i.toNatClampNeg x) B V q) := mk_astI (p := a + 1) (n := 60) (saS h) hi
theorem shR {a : Nat} (h : isR a) : (shp a).1 = 3 := by
  rcases h with rfl | rfl | rfl | rfl | rfl | rfl | rfl | rfl <;> rfl
theorem saR {a : Nat} (h : isR a) : shp (a + 1) = (10, 8) := by
  rcases h with rfl | rfl | rfl | rfl | rfl | rfl | rfl | rfl <;> rfl
theorem rrR {a : Nat} (h : isR a) : rf q a 0 = a + 1 := by
  rcases h with rfl | rfl | rfl | rfl | rfl | rfl | rfl | rfl <;> rfl
theorem cR {a : Nat} (h : isR a) : chk 3 (mk A B V q) a = some () := mk_chk (p := a) (ci := 3) (shR h) (by decide)
theorem rR {a : Nat} (h : isR a) : getR 3 (mk A B V q) a 0 = some (a + 1) := by rw [mk_getR (p := a) (k := 0) (ci := 3) (shR h) (by decide) rfl, rrR h]
theorem gR1 {a : Nat} (h : isR a) : getI 3 (mk A B V q) a 1 = some (V a 1) := mk_getI (p := a) (k := 1) (ci := 3) (shR h) (by decide) rfl
theorem wR1 {a : Nat} (h : isR a) : putV 3 (mk A B V q) a 1 (.int x) = some (mk A B (u2 V a 1 x) q) := mk_putI (p := a) (k := 1) (ci := 3) (shR h) (by decide) rfl
theorem gR2 {a : Nat} (h : isR a) : getI 3 (mk A B V q) a 2 = some (V a 2) := mk_getI (p := a) (k := 2) (ci := 3) (shR h) (by decide) rfl
theorem wR2 {a : Nat} (h : isR a) : putV 3 (mk A B V q) a 2 (.int x) = some (mk A B (u2 V a 2 x) q) := mk_putI (p := a) (k := 2) (ci := 3) (shR h) (by decide) rfl
theorem gR3 {a : Nat} (h : isR a) : getI 3 (mk A B V q) a 3 = some (V a 3) := mk_getI (p := a) (k := 3) (ci := 3) (shR h) (by decide) rfl
theorem wR3 {a : Nat} (h : isR a) : putV 3 (mk A B V q) a 3 (.int x) = some (mk A B (u2 V a 3 x) q) := mk_putI (p := a) (k := 3) (ci := 3) (shR h) (by decide) rfl
theorem zR3 {a : Nat} (h : isR a) (hx : x = 0 ∨ x = 1) : putZ 3 (mk A B V q) a 3 x = some (mk A B (u2 V a 3 x) q) := mk_putZ (p := a) (k := 3) (ci := 3) (shR h) (by decide) rfl hx
theorem lR {a : Nat} (h : isR a) (hi : inb i 8 = true) : aldI 0 (mk A B V q) (a + 1) i = some (A (a + 1) i.toNatClampNeg) := mk_aldI (p := a + 1) (n := 8) (saR h) hi
theorem sR {a : Nat} (h : isR a) (hi : inb i 8 = true) : astI 0 (mk A B V q) (a + 1) i x = some (mk (u2 A (a + 1) i.toNatClampNeg x) B V q) := mk_astI (p := a + 1) (n := 8) (saR h) hi
end IN
