section JR
variable {X : pX} {G : pG} {Z : pZ} {K : pK} {h : pH} {pc : Nat} {L : List (Nat × Value)} {st : List Value} {own : String} {cc : ByteArray} {nL n0 : Nat} {rm : Room} {rt : Option FieldType}

def sF (i : Nat) (q : Nat × Value) : Bool := !(q.1 == i) && !(q.1 + 1 == i && q.2.category == 2)
def sF2 (i : Nat) (q : Nat × Value) : Bool := !(q.1 == i) && (!(q.1 == i + 1) && !(q.1 + 1 == i && q.2.category == 2))
theorem sF_map (lo i : Nat) (L : List (Nat × Value)) : (L.map fun q => (q.1, tV lo q.2)).filter (fun q => !(q.1 == i) && !(q.1 + 1 == i && q.2.category == 2)) = (L.filter (sF i)).map fun q => (q.1, tV lo q.2) := by
  rw [List.filter_map]
  congr 1
  apply List.filter_congr
  intro q _
  simp [sF, tV_cat]
theorem sF2_map (lo i : Nat) (L : List (Nat × Value)) : (L.map fun q => (q.1, tV lo q.2)).filter (fun q => !(q.1 == i) && (!(q.1 == i + 1) && !(q.1 + 1 == i && q.2.category == 2))) = (L.filter (sF2 i)).map fun q => (q.1, tV lo q.2) := by
  rw [List.filter_map]
  congr 1
  apply List.filter_congr
  intro q _
  simp [sF2, tV_cat]


theorem jj_iload_n (C : Cx X G own cc nL rm n0 rt) {j : Fin 4} {x : Int32} (i k : Nat) (hd : decode cc pc = .ok (.iload_n j, 1)) (hj : (j : Nat) = i) (hk : L[k]? = some (i, .int x)) (kk : J X G Z K h (pc + 1) L (.int x :: st)) : J X G Z K h pc L st := by
  obtain ⟨p, l, e, R, s, m, args, below, meth, c⟩ := X
  obtain ⟨hx, hb, hown, hts, hK, hlo, hlk, hm, hR, hrt⟩ := C
  intro H locs ls hW hS hl
  exact lv_iload_n hx hb hd hj (lv_at hl k (by rw [List.getElem?_map, hk]; rfl)) (kk H locs ls hW hS hl)

theorem jj_iload (C : Cx X G own cc nL rm n0 rt) {x : Int32} (i k : Nat) (hd : decode cc pc = .ok (.iload i, 2)) (hk : L[k]? = some (i, .int x)) (kk : J X G Z K h (pc + 2) L (.int x :: st)) : J X G Z K h pc L st := by
  obtain ⟨p, l, e, R, s, m, args, below, meth, c⟩ := X
  obtain ⟨hx, hb, hown, hts, hK, hlo, hlk, hm, hR, hrt⟩ := C
  intro H locs ls hW hS hl
  exact lv_iload hx hb hd (lv_at hl k (by rw [List.getElem?_map, hk]; rfl)) (kk H locs ls hW hS hl)

theorem jj_lload_n (C : Cx X G own cc nL rm n0 rt) {j : Fin 4} {x : Int64} (i k : Nat) (hd : decode cc pc = .ok (.lload_n j, 1)) (hj : (j : Nat) = i) (hk : L[k]? = some (i, .long x)) (kk : J X G Z K h (pc + 1) L (.long x :: st)) : J X G Z K h pc L st := by
  obtain ⟨p, l, e, R, s, m, args, below, meth, c⟩ := X
  obtain ⟨hx, hb, hown, hts, hK, hlo, hlk, hm, hR, hrt⟩ := C
  intro H locs ls hW hS hl
  exact lv_lload_n hx hb hd hj (lv_at hl k (by rw [List.getElem?_map, hk]; rfl)) (kk H locs ls hW hS hl)

theorem jj_lload (C : Cx X G own cc nL rm n0 rt) {x : Int64} (i k : Nat) (hd : decode cc pc = .ok (.lload i, 2)) (hk : L[k]? = some (i, .long x)) (kk : J X G Z K h (pc + 2) L (.long x :: st)) : J X G Z K h pc L st := by
  obtain ⟨p, l, e, R, s, m, args, below, meth, c⟩ := X
  obtain ⟨hx, hb, hown, hts, hK, hlo, hlk, hm, hR, hrt⟩ := C
  intro H locs ls hW hS hl
  exact lv_lload hx hb hd (lv_at hl k (by rw [List.getElem?_map, hk]; rfl)) (kk H locs ls hW hS hl)

theorem jj_aload_n (C : Cx X G own cc nL rm n0 rt) {j : Fin 4} {x : Nat} (i k : Nat) (hd : decode cc pc = .ok (.aload_n j, 1)) (hj : (j : Nat) = i) (hk : L[k]? = some (i, .ref x)) (kk : J X G Z K h (pc + 1) L (.ref x :: st)) : J X G Z K h pc L st := by
  obtain ⟨p, l, e, R, s, m, args, below, meth, c⟩ := X
  obtain ⟨hx, hb, hown, hts, hK, hlo, hlk, hm, hR, hrt⟩ := C
  intro H locs ls hW hS hl
  exact lv_aload_n hx hb hd hj (lv_at hl k (by rw [List.getElem?_map, hk]; rfl)) (kk H locs ls hW hS hl)

theorem jj_aload (C : Cx X G own cc nL rm n0 rt) {x : Nat} (i k : Nat) (hd : decode cc pc = .ok (.aload i, 2)) (hk : L[k]? = some (i, .ref x)) (kk : J X G Z K h (pc + 2) L (.ref x :: st)) : J X G Z K h pc L st := by
  obtain ⟨p, l, e, R, s, m, args, below, meth, c⟩ := X
  obtain ⟨hx, hb, hown, hts, hK, hlo, hlk, hm, hR, hrt⟩ := C
  intro H locs ls hW hS hl
  exact lv_aload hx hb hd (lv_at hl k (by rw [List.getElem?_map, hk]; rfl)) (kk H locs ls hW hS hl)

theorem jj_istore_n (C : Cx X G own cc nL rm n0 rt) {j : Fin 4} {x : Int32} {L2 : List (Nat × Value)} (i : Nat) (hd : decode cc pc = .ok (.istore_n j, 1)) (hj : (j : Nat) = i) (hL : (i, Value.int x) :: L.filter (sF i) = L2) (hn : i < nL) (kk : J X G Z K h (pc + 1) L2 st) : J X G Z K h pc L (.int x :: st) := by
  obtain ⟨p, l, e, R, s, m, args, below, meth, c⟩ := X
  obtain ⟨hx, hb, hown, hts, hK, hlo, hlk, hm, hR, hrt⟩ := C
  intro H locs ls hW hS hl
  subst hL
  exact lv_istore_n (lv' := ((i, Value.int x) :: L.filter (sF i)).map fun q => (q.1, tV G.1 q.2)) hx hb hd hj hl (by rw [hm]; exact hn) (by rw [sF_map]; rfl) (fun ls2 hl2 => kk H locs ls2 hW hS hl2)

theorem jj_istore (C : Cx X G own cc nL rm n0 rt) {x : Int32} {L2 : List (Nat × Value)} (i : Nat) (hd : decode cc pc = .ok (.istore i, 2)) (hL : (i, Value.int x) :: L.filter (sF i) = L2) (hn : i < nL) (kk : J X G Z K h (pc + 2) L2 st) : J X G Z K h pc L (.int x :: st) := by
  obtain ⟨p, l, e, R, s, m, args, below, meth, c⟩ := X
  obtain ⟨hx, hb, hown, hts, hK, hlo, hlk, hm, hR, hrt⟩ := C
  intro H locs ls hW hS hl
  subst hL
  exact lv_istore (lv' := ((i, Value.int x) :: L.filter (sF i)).map fun q => (q.1, tV G.1 q.2)) hx hb hd hl (by rw [hm]; exact hn) (by rw [sF_map]; rfl) (fun ls2 hl2 => kk H locs ls2 hW hS hl2)

theorem jj_lstore_n (C : Cx X G own cc nL rm n0 rt) {j : Fin 4} {x : Int64} {L2 : List (Nat × Value)} (i : Nat) (hd : decode cc pc = .ok (.lstore_n j, 1)) (hj : (j : Nat) = i) (hL : (i, Value.long x) :: L.filter (sF2 i) = L2) (hn : i + 1 < nL) (kk : J X G Z K h (pc + 1) L2 st) : J X G Z K h pc L (.long x :: st) := by
  obtain ⟨p, l, e, R, s, m, args, below, meth, c⟩ := X
  obtain ⟨hx, hb, hown, hts, hK, hlo, hlk, hm, hR, hrt⟩ := C
  intro H locs ls hW hS hl
  subst hL
  exact lv_lstore_n (lv' := ((i, Value.long x) :: L.filter (sF2 i)).map fun q => (q.1, tV G.1 q.2)) hx hb hd hj hl (by rw [hm]; exact hn) (by rw [sF2_map]; rfl) (fun ls2 hl2 => kk H locs ls2 hW hS hl2)

theorem jj_lstore (C : Cx X G own cc nL rm n0 rt) {x : Int64} {L2 : List (Nat × Value)} (i : Nat) (hd : decode cc pc = .ok (.lstore i, 2)) (hL : (i, Value.long x) :: L.filter (sF2 i) = L2) (hn : i + 1 < nL) (kk : J X G Z K h (pc + 2) L2 st) : J X G Z K h pc L (.long x :: st) := by
  obtain ⟨p, l, e, R, s, m, args, below, meth, c⟩ := X
  obtain ⟨hx, hb, hown, hts, hK, hlo, hlk, hm, hR, hrt⟩ := C
  intro H locs ls hW hS hl
  subst hL
  exact lv_lstore (lv' := ((i, Value.long x) :: L.filter (sF2 i)).map fun q => (q.1, tV G.1 q.2)) hx hb hd hl (by rw [hm]; exact hn) (by rw [sF2_map]; rfl) (fun ls2 hl2 => kk H locs ls2 hW hS hl2)

theorem jj_astore_n (C : Cx X G own cc nL rm n0 rt) {j : Fin 4} {x : Nat} {L2 : List (Nat × Value)} (i : Nat) (hd : decode cc pc = .ok (.astore_n j, 1)) (hj : (j : Nat) = i) (hL : (i, Value.ref x) :: L.filter (sF i) = L2) (hn : i < nL) (kk : J X G Z K h (pc + 1) L2 st) : J X G Z K h pc L (.ref x :: st) := by
  obtain ⟨p, l, e, R, s, m, args, below, meth, c⟩ := X
  obtain ⟨hx, hb, hown, hts, hK, hlo, hlk, hm, hR, hrt⟩ := C
  intro H locs ls hW hS hl
  subst hL
  exact lv_astore_n (lv' := ((i, Value.ref x) :: L.filter (sF i)).map fun q => (q.1, tV G.1 q.2)) hx hb hd hj hl (by rw [hm]; exact hn) (by rw [sF_map]; rfl) (fun ls2 hl2 => kk H locs ls2 hW hS hl2)

theorem jj_astore (C : Cx X G own cc nL rm n0 rt) {x : Nat} {L2 : List (Nat × Value)} (i : Nat) (hd : decode cc pc = .ok (.astore i, 2)) (hL : (i, Value.ref x) :: L.filter (sF i) = L2) (hn : i < nL) (kk : J X G Z K h (pc + 2) L2 st) : J X G Z K h pc L (.ref x :: st) := by
  obtain ⟨p, l, e, R, s, m, args, below, meth, c⟩ := X
  obtain ⟨hx, hb, hown, hts, hK, hlo, hlk, hm, hR, hrt⟩ := C
  intro H locs ls hW hS hl
  subst hL
  exact lv_astore (lv' := ((i, Value.ref x) :: L.filter (sF i)).map fun q => (q.1, tV G.1 q.2)) hx hb hd hl (by rw [hm]; exact hn) (by rw [sF_map]; rfl) (fun ls2 hl2 => kk H locs ls2 hW hS hl2)

theorem jj_iinc (C : Cx X G own cc nL rm n0 rt) {x v : Int32} {a : Int} {L2 : List (Nat × Value)} (i k : Nat) (hd : decode cc pc = .ok (.iinc i a, 3)) (hk : L[k]? = some (i, .int x)) (hv : x + Int32.ofInt a = v) (hL : (i, Value.int v) :: L.filter (sF i) = L2) (hn : i < nL) (kk : J X G Z K h (pc + 3) L2 st) : J X G Z K h pc L st := by
  obtain ⟨p, l, e, R, s, m, args, below, meth, c⟩ := X
  obtain ⟨hx, hb, hown, hts, hK, hlo, hlk, hm, hR, hrt⟩ := C
  intro H locs ls hW hS hl
  subst hL
  exact lv_iinc (v := v) (k := k) (lv' := ((i, Value.int v) :: L.filter (sF i)).map fun q => (q.1, tV G.1 q.2)) hx hb hd hl (by rw [List.getElem?_map, hk]; rfl) hv (by rw [hm]; exact hn) (by rw [sF_map]; rfl) (fun ls2 hl2 => kk H locs ls2 hW hS hl2)

theorem jj_iconst (C : Cx X G own cc nL rm n0 rt) {a : Int} {v : Int32} (hd : decode cc pc = .ok (.iconst a, 1)) (hv : Int32.ofInt a = v) (kk : J X G Z K h (pc + 1) L (.int v :: st)) : J X G Z K h pc L st := by
  obtain ⟨p, l, e, R, s, m, args, below, meth, c⟩ := X
  obtain ⟨hx, hb, hown, hts, hK, hlo, hlk, hm, hR, hrt⟩ := C
  intro H locs ls hW hS hl
  exact lv_iconst hx hb hd hv (kk H locs ls hW hS hl)

theorem jj_bipush (C : Cx X G own cc nL rm n0 rt) {a : Int} {v : Int32} (hd : decode cc pc = .ok (.bipush a, 2)) (hv : (Int8.ofInt a).toInt32 = v) (kk : J X G Z K h (pc + 2) L (.int v :: st)) : J X G Z K h pc L st := by
  obtain ⟨p, l, e, R, s, m, args, below, meth, c⟩ := X
  obtain ⟨hx, hb, hown, hts, hK, hlo, hlk, hm, hR, hrt⟩ := C
  intro H locs ls hW hS hl
  exact lv_bipush hx hb hd hv (kk H locs ls hW hS hl)

theorem jj_sipush (C : Cx X G own cc nL rm n0 rt) {a : Int} {v : Int32} (hd : decode cc pc = .ok (.sipush a, 3)) (hv : (Int16.ofInt a).toInt32 = v) (kk : J X G Z K h (pc + 3) L (.int v :: st)) : J X G Z K h pc L st := by
  obtain ⟨p, l, e, R, s, m, args, below, meth, c⟩ := X
  obtain ⟨hx, hb, hown, hts, hK, hlo, hlk, hm, hR, hrt⟩ := C
  intro H locs ls hW hS hl
  exact lv_sipush hx hb hd hv (kk H locs ls hW hS hl)

theorem jj_lconst (C : Cx X G own cc nL rm n0 rt) {a : Fin 2} {v : Int64} (hd : decode cc pc = .ok (.lconst a, 1)) (hv : Int64.ofNat (a : Nat) = v) (kk : J X G Z K h (pc + 1) L (.long v :: st)) : J X G Z K h pc L st := by
  obtain ⟨p, l, e, R, s, m, args, below, meth, c⟩ := X
  obtain ⟨hx, hb, hown, hts, hK, hlo, hlk, hm, hR, hrt⟩ := C
  intro H locs ls hW hS hl
  exact lv_lconst hx hb hd hv (kk H locs ls hW hS hl)

theorem jj_ldcw (C : Cx X G own cc nL rm n0 rt) {i : Nat} {v : Int32} (hd : decode cc pc = .ok (.ldc_w i, 3)) (hc : Cond.constant own i v ∈ bigW) (kk : J X G Z K h (pc + 3) L (.int v :: st)) : J X G Z K h pc L st := by
  obtain ⟨p, l, e, R, s, m, args, below, meth, c⟩ := X
  obtain ⟨hx, hb, hown, hts, hK, hlo, hlk, hm, hR, hrt⟩ := C
  intro H locs ls hW hS hl
  exact lv_ldcw hx hb hown (hts _ hc) hd (kk H locs ls hW hS hl)

theorem jj_ldc2 (C : Cx X G own cc nL rm n0 rt) {i : Nat} {v : Int64} (hd : decode cc pc = .ok (.ldc2_w i, 3)) (hc : Cond.constantLong own i v ∈ bigW) (kk : J X G Z K h (pc + 3) L (.long v :: st)) : J X G Z K h pc L st := by
  obtain ⟨p, l, e, R, s, m, args, below, meth, c⟩ := X
  obtain ⟨hx, hb, hown, hts, hK, hlo, hlk, hm, hR, hrt⟩ := C
  intro H locs ls hW hS hl
  exact lv_ldc2 hx hb hown (hts _ hc) hd (kk H locs ls hW hS hl)

theorem jj_iadd (C : Cx X G own cc nL rm n0 rt) {x y : Int32} (hd : decode cc pc = .ok (.iadd, 1)) (kk : J X G Z K h (pc + 1) L (.int (x + y) :: st)) : J X G Z K h pc L (.int y :: .int x :: st) := by
  obtain ⟨p, l, e, R, s, m, args, below, meth, c⟩ := X
  obtain ⟨hx, hb, hown, hts, hK, hlo, hlk, hm, hR, hrt⟩ := C
  intro H locs ls hW hS hl
  exact lv_iadd hx hb hd (kk H locs ls hW hS hl)

theorem jj_isub (C : Cx X G own cc nL rm n0 rt) {x y : Int32} (hd : decode cc pc = .ok (.isub, 1)) (kk : J X G Z K h (pc + 1) L (.int (x - y) :: st)) : J X G Z K h pc L (.int y :: .int x :: st) := by
  obtain ⟨p, l, e, R, s, m, args, below, meth, c⟩ := X
  obtain ⟨hx, hb, hown, hts, hK, hlo, hlk, hm, hR, hrt⟩ := C
  intro H locs ls hW hS hl
  exact lv_isub hx hb hd (kk H locs ls hW hS hl)

theorem jj_imul (C : Cx X G own cc nL rm n0 rt) {x y : Int32} (hd : decode cc pc = .ok (.imul, 1)) (kk : J X G Z K h (pc + 1) L (.int (x * y) :: st)) : J X G Z K h pc L (.int y :: .int x :: st) := by
  obtain ⟨p, l, e, R, s, m, args, below, meth, c⟩ := X
  obtain ⟨hx, hb, hown, hts, hK, hlo, hlk, hm, hR, hrt⟩ := C
  intro H locs ls hW hS hl
  exact lv_imul hx hb hd (kk H locs ls hW hS hl)

theorem jj_iand (C : Cx X G own cc nL rm n0 rt) {x y : Int32} (hd : decode cc pc = .ok (.iand, 1)) (kk : J X G Z K h (pc + 1) L (.int (x &&& y) :: st)) : J X G Z K h pc L (.int y :: .int x :: st) := by
  obtain ⟨p, l, e, R, s, m, args, below, meth, c⟩ := X
  obtain ⟨hx, hb, hown, hts, hK, hlo, hlk, hm, hR, hrt⟩ := C
  intro H locs ls hW hS hl
  exact lv_iand hx hb hd (kk H locs ls hW hS hl)

theorem jj_ior (C : Cx X G own cc nL rm n0 rt) {x y : Int32} (hd : decode cc pc = .ok (.ior, 1)) (kk : J X G Z K h (pc + 1) L (.int (x ||| y) :: st)) : J X G Z K h pc L (.int y :: .int x :: st) := by
  obtain ⟨p, l, e, R, s, m, args, below, meth, c⟩ := X
  obtain ⟨hx, hb, hown, hts, hK, hlo, hlk, hm, hR, hrt⟩ := C
  intro H locs ls hW hS hl
  exact lv_ior hx hb hd (kk H locs ls hW hS hl)

theorem jj_ishl (C : Cx X G own cc nL rm n0 rt) {x y : Int32} (hd : decode cc pc = .ok (.ishl, 1)) (kk : J X G Z K h (pc + 1) L (.int (x <<< (y &&& 31)) :: st)) : J X G Z K h pc L (.int y :: .int x :: st) := by
  obtain ⟨p, l, e, R, s, m, args, below, meth, c⟩ := X
  obtain ⟨hx, hb, hown, hts, hK, hlo, hlk, hm, hR, hrt⟩ := C
  intro H locs ls hW hS hl
  exact lv_ishl hx hb hd (kk H locs ls hW hS hl)

theorem jj_ishr (C : Cx X G own cc nL rm n0 rt) {x y : Int32} (hd : decode cc pc = .ok (.ishr, 1)) (kk : J X G Z K h (pc + 1) L (.int (x >>> (y &&& 31)) :: st)) : J X G Z K h pc L (.int y :: .int x :: st) := by
  obtain ⟨p, l, e, R, s, m, args, below, meth, c⟩ := X
  obtain ⟨hx, hb, hown, hts, hK, hlo, hlk, hm, hR, hrt⟩ := C
  intro H locs ls hW hS hl
  exact lv_ishr hx hb hd (kk H locs ls hW hS hl)

theorem jj_iushr (C : Cx X G own cc nL rm n0 rt) {x y : Int32} (hd : decode cc pc = .ok (.iushr, 1)) (kk : J X G Z K h (pc + 1) L (.int ((x.toUInt32 >>> (y.toUInt32 &&& Int32.toUInt32 31)).toInt32) :: st)) : J X G Z K h pc L (.int y :: .int x :: st) := by
  obtain ⟨p, l, e, R, s, m, args, below, meth, c⟩ := X
  obtain ⟨hx, hb, hown, hts, hK, hlo, hlk, hm, hR, hrt⟩ := C
  intro H locs ls hW hS hl
  exact lv_iushr hx hb hd rfl (kk H locs ls hW hS hl)

theorem jj_idiv (C : Cx X G own cc nL rm n0 rt) {x y : Int32} (hd : decode cc pc = .ok (.idiv, 1)) (hy : ¬ y = 0) (kk : J X G Z K h (pc + 1) L (.int (x / y) :: st)) : J X G Z K h pc L (.int y :: .int x :: st) := by
  obtain ⟨p, l, e, R, s, m, args, below, meth, c⟩ := X
  obtain ⟨hx, hb, hown, hts, hK, hlo, hlk, hm, hR, hrt⟩ := C
  intro H locs ls hW hS hl
  exact lv_idiv hx hb hd hy (kk H locs ls hW hS hl)

theorem jj_irem (C : Cx X G own cc nL rm n0 rt) {x y : Int32} (hd : decode cc pc = .ok (.irem, 1)) (hy : ¬ y = 0) (kk : J X G Z K h (pc + 1) L (.int (x - x / y * y) :: st)) : J X G Z K h pc L (.int y :: .int x :: st) := by
  obtain ⟨p, l, e, R, s, m, args, below, meth, c⟩ := X
  obtain ⟨hx, hb, hown, hts, hK, hlo, hlk, hm, hR, hrt⟩ := C
  intro H locs ls hW hS hl
  exact lv_irem hx hb hd hy (kk H locs ls hW hS hl)

theorem jj_ladd (C : Cx X G own cc nL rm n0 rt) {x y : Int64} (hd : decode cc pc = .ok (.ladd, 1)) (kk : J X G Z K h (pc + 1) L (.long (x + y) :: st)) : J X G Z K h pc L (.long y :: .long x :: st) := by
  obtain ⟨p, l, e, R, s, m, args, below, meth, c⟩ := X
  obtain ⟨hx, hb, hown, hts, hK, hlo, hlk, hm, hR, hrt⟩ := C
  intro H locs ls hW hS hl
  exact lv_ladd hx hb hd (kk H locs ls hW hS hl)

theorem jj_lmul (C : Cx X G own cc nL rm n0 rt) {x y : Int64} (hd : decode cc pc = .ok (.lmul, 1)) (kk : J X G Z K h (pc + 1) L (.long (x * y) :: st)) : J X G Z K h pc L (.long y :: .long x :: st) := by
  obtain ⟨p, l, e, R, s, m, args, below, meth, c⟩ := X
  obtain ⟨hx, hb, hown, hts, hK, hlo, hlk, hm, hR, hrt⟩ := C
  intro H locs ls hW hS hl
  exact lv_lmul hx hb hd (kk H locs ls hW hS hl)

theorem jj_land (C : Cx X G own cc nL rm n0 rt) {x y : Int64} (hd : decode cc pc = .ok (.land, 1)) (kk : J X G Z K h (pc + 1) L (.long (x &&& y) :: st)) : J X G Z K h pc L (.long y :: .long x :: st) := by
  obtain ⟨p, l, e, R, s, m, args, below, meth, c⟩ := X
  obtain ⟨hx, hb, hown, hts, hK, hlo, hlk, hm, hR, hrt⟩ := C
  intro H locs ls hW hS hl
  exact lv_land hx hb hd (kk H locs ls hW hS hl)

theorem jj_lor (C : Cx X G own cc nL rm n0 rt) {x y : Int64} (hd : decode cc pc = .ok (.lor, 1)) (kk : J X G Z K h (pc + 1) L (.long (x ||| y) :: st)) : J X G Z K h pc L (.long y :: .long x :: st) := by
  obtain ⟨p, l, e, R, s, m, args, below, meth, c⟩ := X
  obtain ⟨hx, hb, hown, hts, hK, hlo, hlk, hm, hR, hrt⟩ := C
  intro H locs ls hW hS hl
  exact lv_lor hx hb hd (kk H locs ls hW hS hl)

theorem jj_ldiv (C : Cx X G own cc nL rm n0 rt) {x y : Int64} (hd : decode cc pc = .ok (.ldiv, 1)) (hy : ¬ y = 0) (kk : J X G Z K h (pc + 1) L (.long (x / y) :: st)) : J X G Z K h pc L (.long y :: .long x :: st) := by
  obtain ⟨p, l, e, R, s, m, args, below, meth, c⟩ := X
  obtain ⟨hx, hb, hown, hts, hK, hlo, hlk, hm, hR, hrt⟩ := C
  intro H locs ls hW hS hl
  exact lv_ldiv hx hb hd hy (kk H locs ls hW hS hl)

theorem jj_lrem (C : Cx X G own cc nL rm n0 rt) {x y : Int64} (hd : decode cc pc = .ok (.lrem, 1)) (hy : ¬ y = 0) (kk : J X G Z K h (pc + 1) L (.long (x - x / y * y) :: st)) : J X G Z K h pc L (.long y :: .long x :: st) := by
  obtain ⟨p, l, e, R, s, m, args, below, meth, c⟩ := X
  obtain ⟨hx, hb, hown, hts, hK, hlo, hlk, hm, hR, hrt⟩ := C
  intro H locs ls hW hS hl
  exact lv_lrem hx hb hd hy (kk H locs ls hW hS hl)

theorem jj_lshl (C : Cx X G own cc nL rm n0 rt) {x : Int64} {y : Int32} (hd : decode cc pc = .ok (.lshl, 1)) (kk : J X G Z K h (pc + 1) L (.long (x <<< (y.toInt64 &&& 63)) :: st)) : J X G Z K h pc L (.int y :: .long x :: st) := by
  obtain ⟨p, l, e, R, s, m, args, below, meth, c⟩ := X
  obtain ⟨hx, hb, hown, hts, hK, hlo, hlk, hm, hR, hrt⟩ := C
  intro H locs ls hW hS hl
  exact lv_lshl hx hb hd rfl (kk H locs ls hW hS hl)

theorem jj_lshr (C : Cx X G own cc nL rm n0 rt) {x : Int64} {y : Int32} (hd : decode cc pc = .ok (.lshr, 1)) (kk : J X G Z K h (pc + 1) L (.long (x >>> (y.toInt64 &&& 63)) :: st)) : J X G Z K h pc L (.int y :: .long x :: st) := by
  obtain ⟨p, l, e, R, s, m, args, below, meth, c⟩ := X
  obtain ⟨hx, hb, hown, hts, hK, hlo, hlk, hm, hR, hrt⟩ := C
  intro H locs ls hW hS hl
  exact lv_lshr hx hb hd rfl (kk H locs ls hW hS hl)

theorem jj_i2l (C : Cx X G own cc nL rm n0 rt) {x : Int32} (hd : decode cc pc = .ok (.i2l, 1)) (kk : J X G Z K h (pc + 1) L (.long x.toInt64 :: st)) : J X G Z K h pc L (.int x :: st) := by
  obtain ⟨p, l, e, R, s, m, args, below, meth, c⟩ := X
  obtain ⟨hx, hb, hown, hts, hK, hlo, hlk, hm, hR, hrt⟩ := C
  intro H locs ls hW hS hl
  exact lv_i2l hx hb hd rfl (kk H locs ls hW hS hl)

theorem jj_i2b (C : Cx X G own cc nL rm n0 rt) {x : Int32} (hd : decode cc pc = .ok (.i2b, 1)) (kk : J X G Z K h (pc + 1) L (.int x.toInt8.toInt32 :: st)) : J X G Z K h pc L (.int x :: st) := by
  obtain ⟨p, l, e, R, s, m, args, below, meth, c⟩ := X
  obtain ⟨hx, hb, hown, hts, hK, hlo, hlk, hm, hR, hrt⟩ := C
  intro H locs ls hW hS hl
  exact lv_i2b hx hb hd rfl (kk H locs ls hW hS hl)

theorem jj_i2s (C : Cx X G own cc nL rm n0 rt) {x : Int32} (hd : decode cc pc = .ok (.i2s, 1)) (kk : J X G Z K h (pc + 1) L (.int x.toInt16.toInt32 :: st)) : J X G Z K h pc L (.int x :: st) := by
  obtain ⟨p, l, e, R, s, m, args, below, meth, c⟩ := X
  obtain ⟨hx, hb, hown, hts, hK, hlo, hlk, hm, hR, hrt⟩ := C
  intro H locs ls hW hS hl
  exact lv_i2s hx hb hd rfl (kk H locs ls hW hS hl)

theorem jj_lcmp (C : Cx X G own cc nL rm n0 rt) {x y : Int64} (hd : decode cc pc = .ok (.lcmp, 1)) (kk : J X G Z K h (pc + 1) L (.int (lg_cmp x y) :: st)) : J X G Z K h pc L (.long y :: .long x :: st) := by
  obtain ⟨p, l, e, R, s, m, args, below, meth, c⟩ := X
  obtain ⟨hx, hb, hown, hts, hK, hlo, hlk, hm, hR, hrt⟩ := C
  intro H locs ls hW hS hl
  exact W.lcmp hx hb hd (kk H locs ls hW hS hl)

theorem jj_dup (C : Cx X G own cc nL rm n0 rt) {v : Value} (hd : decode cc pc = .ok (.dup, 1)) (hv : v.category = 1) (kk : J X G Z K h (pc + 1) L (v :: v :: st)) : J X G Z K h pc L (v :: st) := by
  obtain ⟨p, l, e, R, s, m, args, below, meth, c⟩ := X
  obtain ⟨hx, hb, hown, hts, hK, hlo, hlk, hm, hR, hrt⟩ := C
  intro H locs ls hW hS hl
  exact lv_dup hx hb hd (by rw [tV_cat]; exact hv) (kk H locs ls hW hS hl)

theorem jj_pop (C : Cx X G own cc nL rm n0 rt) {v : Value} (hd : decode cc pc = .ok (.pop, 1)) (hv : v.category = 1) (kk : J X G Z K h (pc + 1) L st) : J X G Z K h pc L (v :: st) := by
  obtain ⟨p, l, e, R, s, m, args, below, meth, c⟩ := X
  obtain ⟨hx, hb, hown, hts, hK, hlo, hlk, hm, hR, hrt⟩ := C
  intro H locs ls hW hS hl
  exact lv_pop hx hb hd (by rw [tV_cat]; exact hv) (kk H locs ls hW hS hl)

theorem jj_dup2 (C : Cx X G own cc nL rm n0 rt) {v w : Value} (hd : decode cc pc = .ok (.dup2, 1)) (hv : v.category = 1) (hw : w.category = 1) (kk : J X G Z K h (pc + 1) L (v :: w :: v :: w :: st)) : J X G Z K h pc L (v :: w :: st) := by
  obtain ⟨p, l, e, R, s, m, args, below, meth, c⟩ := X
  obtain ⟨hx, hb, hown, hts, hK, hlo, hlk, hm, hR, hrt⟩ := C
  intro H locs ls hW hS hl
  exact lv_dup2_11 hx hb hd (by rw [tV_cat]; exact hv) (by rw [tV_cat]; exact hw) (kk H locs ls hW hS hl)

theorem jj_goto (C : Cx X G own cc nL rm n0 rt) {off : Int} {tgt : Nat} (hd : decode cc pc = .ok (.goto off, 3)) (ht : (pc : Int) + off = (tgt : Int)) (kk : J X G Z K h tgt L st) : J X G Z K h pc L st := by
  obtain ⟨p, l, e, R, s, m, args, below, meth, c⟩ := X
  obtain ⟨hx, hb, hown, hts, hK, hlo, hlk, hm, hR, hrt⟩ := C
  intro H locs ls hW hS hl
  exact lv_goto hx hb hd ht (kk H locs ls hW hS hl)

theorem jj_if_eq (C : Cx X G own cc nL rm n0 rt) {x : Int32} {off : Int} {tgt : Nat} (hd : decode cc pc = .ok (.ifCond .eq off, 3)) (ht : (pc : Int) + off = (tgt : Int)) (kt : x = 0 → J X G Z K h tgt L st) (kf : ¬ x = 0 → J X G Z K h (pc + 3) L st) : J X G Z K h pc L (.int x :: st) := by
  obtain ⟨p, l, e, R, s, m, args, below, meth, c⟩ := X
  obtain ⟨hx, hb, hown, hts, hK, hlo, hlk, hm, hR, hrt⟩ := C
  intro H locs ls hW hS hl
  exact lv_if_eq hx hb hd ht (fun q => kt q H locs ls hW hS hl) (fun q => kf q H locs ls hW hS hl)

theorem jj_icmp_eq (C : Cx X G own cc nL rm n0 rt) {x y : Int32} {off : Int} {tgt : Nat} (hd : decode cc pc = .ok (.if_icmp .eq off, 3)) (ht : (pc : Int) + off = (tgt : Int)) (kt : x = y → J X G Z K h tgt L st) (kf : ¬ x = y → J X G Z K h (pc + 3) L st) : J X G Z K h pc L (.int y :: .int x :: st) := by
  obtain ⟨p, l, e, R, s, m, args, below, meth, c⟩ := X
  obtain ⟨hx, hb, hown, hts, hK, hlo, hlk, hm, hR, hrt⟩ := C
  intro H locs ls hW hS hl
  exact lv_icmp_eq hx hb hd ht (fun q => kt q H locs ls hW hS hl) (fun q => kf q H locs ls hW hS hl)

theorem jj_if_ne (C : Cx X G own cc nL rm n0 rt) {x : Int32} {off : Int} {tgt : Nat} (hd : decode cc pc = .ok (.ifCond .ne off, 3)) (ht : (pc : Int) + off = (tgt : Int)) (kt : ¬ x = 0 → J X G Z K h tgt L st) (kf : x = 0 → J X G Z K h (pc + 3) L st) : J X G Z K h pc L (.int x :: st) := by
  obtain ⟨p, l, e, R, s, m, args, below, meth, c⟩ := X
  obtain ⟨hx, hb, hown, hts, hK, hlo, hlk, hm, hR, hrt⟩ := C
  intro H locs ls hW hS hl
  exact lv_if_ne hx hb hd ht (fun q => kt q H locs ls hW hS hl) (fun q => kf q H locs ls hW hS hl)

theorem jj_icmp_ne (C : Cx X G own cc nL rm n0 rt) {x y : Int32} {off : Int} {tgt : Nat} (hd : decode cc pc = .ok (.if_icmp .ne off, 3)) (ht : (pc : Int) + off = (tgt : Int)) (kt : ¬ x = y → J X G Z K h tgt L st) (kf : x = y → J X G Z K h (pc + 3) L st) : J X G Z K h pc L (.int y :: .int x :: st) := by
  obtain ⟨p, l, e, R, s, m, args, below, meth, c⟩ := X
  obtain ⟨hx, hb, hown, hts, hK, hlo, hlk, hm, hR, hrt⟩ := C
  intro H locs ls hW hS hl
  exact lv_icmp_ne hx hb hd ht (fun q => kt q H locs ls hW hS hl) (fun q => kf q H locs ls hW hS hl)

theorem jj_if_lt (C : Cx X G own cc nL rm n0 rt) {x : Int32} {off : Int} {tgt : Nat} (hd : decode cc pc = .ok (.ifCond .lt off, 3)) (ht : (pc : Int) + off = (tgt : Int)) (kt : x < 0 → J X G Z K h tgt L st) (kf : ¬ x < 0 → J X G Z K h (pc + 3) L st) : J X G Z K h pc L (.int x :: st) := by
  obtain ⟨p, l, e, R, s, m, args, below, meth, c⟩ := X
  obtain ⟨hx, hb, hown, hts, hK, hlo, hlk, hm, hR, hrt⟩ := C
  intro H locs ls hW hS hl
  exact lv_if_lt hx hb hd ht (fun q => kt q H locs ls hW hS hl) (fun q => kf q H locs ls hW hS hl)

theorem jj_icmp_lt (C : Cx X G own cc nL rm n0 rt) {x y : Int32} {off : Int} {tgt : Nat} (hd : decode cc pc = .ok (.if_icmp .lt off, 3)) (ht : (pc : Int) + off = (tgt : Int)) (kt : x < y → J X G Z K h tgt L st) (kf : ¬ x < y → J X G Z K h (pc + 3) L st) : J X G Z K h pc L (.int y :: .int x :: st) := by
  obtain ⟨p, l, e, R, s, m, args, below, meth, c⟩ := X
  obtain ⟨hx, hb, hown, hts, hK, hlo, hlk, hm, hR, hrt⟩ := C
  intro H locs ls hW hS hl
  exact lv_icmp_lt hx hb hd ht (fun q => kt q H locs ls hW hS hl) (fun q => kf q H locs ls hW hS hl)

theorem jj_if_ge (C : Cx X G own cc nL rm n0 rt) {x : Int32} {off : Int} {tgt : Nat} (hd : decode cc pc = .ok (.ifCond .ge off, 3)) (ht : (pc : Int) + off = (tgt : Int)) (kt : 0 ≤ x → J X G Z K h tgt L st) (kf : ¬ 0 ≤ x → J X G Z K h (pc + 3) L st) : J X G Z K h pc L (.int x :: st) := by
  obtain ⟨p, l, e, R, s, m, args, below, meth, c⟩ := X
  obtain ⟨hx, hb, hown, hts, hK, hlo, hlk, hm, hR, hrt⟩ := C
  intro H locs ls hW hS hl
  exact lv_if_ge hx hb hd ht (fun q => kt q H locs ls hW hS hl) (fun q => kf q H locs ls hW hS hl)

theorem jj_icmp_ge (C : Cx X G own cc nL rm n0 rt) {x y : Int32} {off : Int} {tgt : Nat} (hd : decode cc pc = .ok (.if_icmp .ge off, 3)) (ht : (pc : Int) + off = (tgt : Int)) (kt : y ≤ x → J X G Z K h tgt L st) (kf : ¬ y ≤ x → J X G Z K h (pc + 3) L st) : J X G Z K h pc L (.int y :: .int x :: st) := by
  obtain ⟨p, l, e, R, s, m, args, below, meth, c⟩ := X
  obtain ⟨hx, hb, hown, hts, hK, hlo, hlk, hm, hR, hrt⟩ := C
  intro H locs ls hW hS hl
  exact lv_icmp_ge hx hb hd ht (fun q => kt q H locs ls hW hS hl) (fun q => kf q H locs ls hW hS hl)

theorem jj_if_gt (C : Cx X G own cc nL rm n0 rt) {x : Int32} {off : Int} {tgt : Nat} (hd : decode cc pc = .ok (.ifCond .gt off, 3)) (ht : (pc : Int) + off = (tgt : Int)) (kt : 0 < x → J X G Z K h tgt L st) (kf : ¬ 0 < x → J X G Z K h (pc + 3) L st) : J X G Z K h pc L (.int x :: st) := by
  obtain ⟨p, l, e, R, s, m, args, below, meth, c⟩ := X
  obtain ⟨hx, hb, hown, hts, hK, hlo, hlk, hm, hR, hrt⟩ := C
  intro H locs ls hW hS hl
  exact lv_if_gt hx hb hd ht (fun q => kt q H locs ls hW hS hl) (fun q => kf q H locs ls hW hS hl)

theorem jj_icmp_gt (C : Cx X G own cc nL rm n0 rt) {x y : Int32} {off : Int} {tgt : Nat} (hd : decode cc pc = .ok (.if_icmp .gt off, 3)) (ht : (pc : Int) + off = (tgt : Int)) (kt : y < x → J X G Z K h tgt L st) (kf : ¬ y < x → J X G Z K h (pc + 3) L st) : J X G Z K h pc L (.int y :: .int x :: st) := by
  obtain ⟨p, l, e, R, s, m, args, below, meth, c⟩ := X
  obtain ⟨hx, hb, hown, hts, hK, hlo, hlk, hm, hR, hrt⟩ := C
  intro H locs ls hW hS hl
  exact lv_icmp_gt hx hb hd ht (fun q => kt q H locs ls hW hS hl) (fun q => kf q H locs ls hW hS hl)

theorem jj_if_le (C : Cx X G own cc nL rm n0 rt) {x : Int32} {off : Int} {tgt : Nat} (hd : decode cc pc = .ok (.ifCond .le off, 3)) (ht : (pc : Int) + off = (tgt : Int)) (kt : x ≤ 0 → J X G Z K h tgt L st) (kf : ¬ x ≤ 0 → J X G Z K h (pc + 3) L st) : J X G Z K h pc L (.int x :: st) := by
  obtain ⟨p, l, e, R, s, m, args, below, meth, c⟩ := X
  obtain ⟨hx, hb, hown, hts, hK, hlo, hlk, hm, hR, hrt⟩ := C
  intro H locs ls hW hS hl
  exact lv_if_le hx hb hd ht (fun q => kt q H locs ls hW hS hl) (fun q => kf q H locs ls hW hS hl)

theorem jj_icmp_le (C : Cx X G own cc nL rm n0 rt) {x y : Int32} {off : Int} {tgt : Nat} (hd : decode cc pc = .ok (.if_icmp .le off, 3)) (ht : (pc : Int) + off = (tgt : Int)) (kt : x ≤ y → J X G Z K h tgt L st) (kf : ¬ x ≤ y → J X G Z K h (pc + 3) L st) : J X G Z K h pc L (.int y :: .int x :: st) := by
  obtain ⟨p, l, e, R, s, m, args, below, meth, c⟩ := X
  obtain ⟨hx, hb, hown, hts, hK, hlo, hlk, hm, hR, hrt⟩ := C
  intro H locs ls hW hS hl
  exact lv_icmp_le hx hb hd ht (fun q => kt q H locs ls hW hS hl) (fun q => kf q H locs ls hW hS hl)

theorem jj_tableOut (C : Cx X G own cc nL rm n0 rt) {dflt lo hi : Int} {offs : Array Int} {len : Nat} {x : Int32} {tgt : Nat} (hd : decode cc pc = .ok (.tableswitch dflt lo hi offs, len)) (hq : x.toInt < lo ∨ hi < x.toInt) (ht : (pc : Int) + dflt = (tgt : Int)) (kk : J X G Z K h tgt L st) : J X G Z K h pc L (.int x :: st) := by
  obtain ⟨p, l, e, R, s, m, args, below, meth, c⟩ := X
  obtain ⟨hx, hb, hown, hts, hK, hlo, hlk, hm, hR, hrt⟩ := C
  intro H locs ls hW hS hl
  exact lv_tableOut hx hb hd hq ht (kk H locs ls hW hS hl)

theorem jj_tableIn (C : Cx X G own cc nL rm n0 rt) {dflt lo hi : Int} {offs : Array Int} {len : Nat} {x : Int32} {off : Int} {tgt : Nat} (hd : decode cc pc = .ok (.tableswitch dflt lo hi offs, len)) (h1 : ¬ x.toInt < lo) (h2 : ¬ hi < x.toInt) (ho : offs[(x.toInt - lo).toNat]? = some off) (ht : (pc : Int) + off = (tgt : Int)) (kk : J X G Z K h tgt L st) : J X G Z K h pc L (.int x :: st) := by
  obtain ⟨p, l, e, R, s, m, args, below, meth, c⟩ := X
  obtain ⟨hx, hb, hown, hts, hK, hlo, hlk, hm, hR, hrt⟩ := C
  intro H locs ls hW hS hl
  exact lv_tableIn hx hb hd h1 h2 ho ht (kk H locs ls hW hS hl)

theorem jj_lookup (C : Cx X G own cc nL rm n0 rt) {dflt : Int} {ps : Array (Int × Int)} {len : Nat} {x : Int32} {off : Int} {tgt : Nat} (hd : decode cc pc = .ok (.lookupswitch dflt ps, len)) (hp : (ps.toList.zip (ps.toList.drop 1)).all (fun (a, next) => a.1 < next.1) = true) (ho : Op.lookupswitch.offset ps.toList dflt x.toInt = off) (ht : (pc : Int) + off = (tgt : Int)) (kk : J X G Z K h tgt L st) : J X G Z K h pc L (.int x :: st) := by
  obtain ⟨p, l, e, R, s, m, args, below, meth, c⟩ := X
  obtain ⟨hx, hb, hown, hts, hK, hlo, hlk, hm, hR, hrt⟩ := C
  intro H locs ls hW hS hl
  exact lv_lookup hx hb hd hp ho ht (kk H locs ls hW hS hl)

theorem jj_sub {L2 : List (Nat × Value)} (ks : List Nat) (hL : lv_pick L ks = L2) (kk : J X G Z K h pc L2 st) : J X G Z K h pc L st := by
  obtain ⟨p, l, e, R, s, m, args, below, meth, c⟩ := X
  intro H locs ls hW hS hl
  refine kk H locs ls hW hS (lv_sub hl ks ?_)
  rw [← hL]
  unfold lv_pick
  rw [List.map_filterMap]
  congr 1
  funext k
  rw [List.getElem?_map]

end JR
