/-! THE CLAIM OUT OF ONE WALK OF THE LAW'S BODY. Your part is whole_start (and what it stands on); all else here is the same for every law, but numbers. -/
def R_law : String := "OneLongRowLaw"
def lw_P (b : Addr) (xs : List Int32) (args : Array Value) (s : State) : Prop := args = #[.ref b] ∧ s.IntsAt b xs ∧ xs.length ≤ 3584 ∧ (Jvm.Cond.and given_1 narrow_1).before args s = true
def lw_Q (_ : Array Value) (s : State) (o : Outcome) (t : State) : Prop := o = .returned (some (.int 1)) ∧ Framed s o t [] 600000 7302250
def lw_Z (below : List Frame) (a : Array Value) (s : State) : State → Prop := fun t => ∃ o, t.status = .running ∧ Ended t below o ∧ lw_Q a s o t
/-- the law's own end, with 1 on the stack, nothing written that was there before, its room as the claim has it -/
theorem lw_ret {p : Program} {l : Launch} {e : Env} {s : State} {m : MethodId} {below : List Frame} {meth : Method} {c : Code} {b : Nat} (hx : p.tables.exec = Jvm.exec) (hb : c.code = code) (hr : meth.sig.returnType = ret) (hlocks : meth.locks = false) {pc : Nat} {H : Heap} {ls : Array Slot} (hdg : decode code pc = .ok (.ireturn, 1)) : W p l e room_1 s m #[Value.ref b] below meth c H [] 600000 7302250 (lw_Z below #[Value.ref b] s) (F0 m pc ls [.int 1]) := by
  intro T hT X
  obtain ⟨fs, hret, hrun, hended, hW, hframe⟩ := X.leave (v := some (.int 1)) (hlocks := hlocks) (fun h => by rw [hr] at h; cases h)
  have hmeth' : T.vm.method? m = some meth := X.method'
  refine ⟨T.setFrames fs, ?_, .returned (some (.int 1)), hrun, hended, rfl, ⟨_, rfl⟩, hW, hframe⟩
  jvm_step X.here [X.here.top, hx, hb, hdg, hmeth', hr, ret, narrow_b1]
  (try refine ⟨rfl, ?_⟩); (try refine ⟨rfl, ?_⟩)
  first | (intro acts; rw [hret _ acts rfl rfl rfl]) | rw [hret _ _ rfl rfl rfl]
  exact Steps.refl _
/-- what holds at the law's entry: the machine, the code, the tables' words (any of lw_tbl by 'hts w (by decide +kernel)'), the script of L ints xs at the cell b, what the Statement gives of the start (any of its parts by flat_of_before) -/
def lw_At (p : Program) (s : State) (m : MethodId) (meth : Method) (c : Code) (b L : Nat) (xs : Nat → Int32) : Prop :=
  p.tables.exec = Jvm.exec ∧ c.code = code ∧ meth.sig.returnType = ret ∧ c.maxLocals = 4 ∧ s.vm.findClass R_law = some m.cls ∧ (∀ w ∈ lw_tbl, w.before #[Value.ref b] s = true) ∧ va_X b L xs s s.heap ∧ b < s.heap.size ∧ meth.locks = false ∧ (Jvm.Cond.and given_1 narrow_1).before #[Value.ref b] s = true
/-! ## the law: its own script lies outside the pure heap; values here are the machine's -/
def JL (X : pX) (G : pG) (Q : State → Prop) (K : pK) (h : pH) (pc : Nat) (L : List (Nat × Value)) (st : List Value) : Prop := match X with
  | (p, l, e, R, s, m, args, below, meth, c) => ∀ (H : Heap) (locs : List Loc) (ls : Array Slot), pW G K.2.2 h H → va_S (fun q => G.1 ≤ q) s.heap H locs → lv_has ls c.maxLocals L → W p l e R s m args below meth c H locs K.1 K.2.1 Q (F0 m pc ls st)
def Sx (X : pX) (G : pG) (b N : Nat) (xs : Nat → Int32) : Prop := match X with
  | (_, _, _, _, s, _, _, _, _, _) => va_X b N xs s s.heap ∧ b < s.heap.size ∧ G.1 = s.heap.size
section LR
variable {X : pX} {G : pG} {Q : State → Prop} {K K2 : pK} {h h2 : pH} {pc : Nat} {L : List (Nat × Value)} {st st2 st3 : List Value} {own : String} {cc : ByteArray} {nL n0 : Nat} {rm : Room} {rt : Option FieldType}
theorem jl_iload_n (C : Cx X G own cc nL rm n0 rt) {j : Fin 4} {x : Int32} (i k : Nat) (hd : decode cc pc = .ok (.iload_n j, 1)) (hj : (j : Nat) = i) (hk : L[k]? = some (i, .int x)) (kk : JL X G Q K h (pc + 1) L (.int x :: st)) : JL X G Q K h pc L st := by
  obtain ⟨p, l, e, R, s, m, args, below, meth, c⟩ := X
  obtain ⟨hx, hb, hown, hts, hK, hlo, hlk, hm, hR, hrt⟩ := C
  intro H locs ls hW hS hl
  exact lv_iload_n hx hb hd hj (lv_at hl k hk) (kk H locs ls hW hS hl)
theorem jl_istore_n (C : Cx X G own cc nL rm n0 rt) {j : Fin 4} {x : Int32} {L2 : List (Nat × Value)} (i : Nat) (hd : decode cc pc = .ok (.istore_n j, 1)) (hj : (j : Nat) = i) (hL : (i, Value.int x) :: L.filter (fun q => !(q.1 == i) && !(q.1 + 1 == i && q.2.category == 2)) = L2) (hn : i < nL) (kk : JL X G Q K h (pc + 1) L2 st) : JL X G Q K h pc L (.int x :: st) := by
  obtain ⟨p, l, e, R, s, m, args, below, meth, c⟩ := X
  obtain ⟨hx, hb, hown, hts, hK, hlo, hlk, hm, hR, hrt⟩ := C
  intro H locs ls hW hS hl
  exact lv_istore_n hx hb hd hj hl (by rw [hm]; exact hn) hL (fun ls2 hl2 => kk H locs ls2 hW hS hl2)
theorem jl_aload_n (C : Cx X G own cc nL rm n0 rt) {j : Fin 4} {x : Nat} (i k : Nat) (hd : decode cc pc = .ok (.aload_n j, 1)) (hj : (j : Nat) = i) (hk : L[k]? = some (i, .ref x)) (kk : JL X G Q K h (pc + 1) L (.ref x :: st)) : JL X G Q K h pc L st := by
  obtain ⟨p, l, e, R, s, m, args, below, meth, c⟩ := X
  obtain ⟨hx, hb, hown, hts, hK, hlo, hlk, hm, hR, hrt⟩ := C
  intro H locs ls hW hS hl
  exact lv_aload_n hx hb hd hj (lv_at hl k hk) (kk H locs ls hW hS hl)
theorem jl_astore_n (C : Cx X G own cc nL rm n0 rt) {j : Fin 4} {x : Nat} {L2 : List (Nat × Value)} (i : Nat) (hd : decode cc pc = .ok (.astore_n j, 1)) (hj : (j : Nat) = i) (hL : (i, Value.ref x) :: L.filter (fun q => !(q.1 == i) && !(q.1 + 1 == i && q.2.category == 2)) = L2) (hn : i < nL) (kk : JL X G Q K h (pc + 1) L2 st) : JL X G Q K h pc L (.ref x :: st) := by
  obtain ⟨p, l, e, R, s, m, args, below, meth, c⟩ := X
  obtain ⟨hx, hb, hown, hts, hK, hlo, hlk, hm, hR, hrt⟩ := C
  intro H locs ls hW hS hl
  exact lv_astore_n hx hb hd hj hl (by rw [hm]; exact hn) hL (fun ls2 hl2 => kk H locs ls2 hW hS hl2)
theorem jl_iinc (C : Cx X G own cc nL rm n0 rt) {x v : Int32} {a : Int} {L2 : List (Nat × Value)} (i k : Nat) (hd : decode cc pc = .ok (.iinc i a, 3)) (hk : L[k]? = some (i, .int x)) (hv : x + Int32.ofInt a = v) (hL : (i, Value.int v) :: L.filter (fun q => !(q.1 == i) && !(q.1 + 1 == i && q.2.category == 2)) = L2) (hn : i < nL) (kk : JL X G Q K h (pc + 3) L2 st) : JL X G Q K h pc L st := by
  obtain ⟨p, l, e, R, s, m, args, below, meth, c⟩ := X
  obtain ⟨hx, hb, hown, hts, hK, hlo, hlk, hm, hR, hrt⟩ := C
  intro H locs ls hW hS hl
  exact lv_iinc (v := v) (k := k) hx hb hd hl hk hv (by rw [hm]; exact hn) hL (fun ls2 hl2 => kk H locs ls2 hW hS hl2)
theorem jl_iconst (C : Cx X G own cc nL rm n0 rt) {a : Int} {v : Int32} (hd : decode cc pc = .ok (.iconst a, 1)) (hv : Int32.ofInt a = v) (kk : JL X G Q K h (pc + 1) L (.int v :: st)) : JL X G Q K h pc L st := by
  obtain ⟨p, l, e, R, s, m, args, below, meth, c⟩ := X
  obtain ⟨hx, hb, hown, hts, hK, hlo, hlk, hm, hR, hrt⟩ := C
  intro H locs ls hW hS hl
  exact lv_iconst hx hb hd hv (kk H locs ls hW hS hl)
theorem jl_bipush (C : Cx X G own cc nL rm n0 rt) {a : Int} {v : Int32} (hd : decode cc pc = .ok (.bipush a, 2)) (hv : (Int8.ofInt a).toInt32 = v) (kk : JL X G Q K h (pc + 2) L (.int v :: st)) : JL X G Q K h pc L st := by
  obtain ⟨p, l, e, R, s, m, args, below, meth, c⟩ := X
  obtain ⟨hx, hb, hown, hts, hK, hlo, hlk, hm, hR, hrt⟩ := C
  intro H locs ls hW hS hl
  exact lv_bipush hx hb hd hv (kk H locs ls hW hS hl)
theorem jl_iadd (C : Cx X G own cc nL rm n0 rt) {x y : Int32} (hd : decode cc pc = .ok (.iadd, 1)) (kk : JL X G Q K h (pc + 1) L (.int (x + y) :: st)) : JL X G Q K h pc L (.int y :: .int x :: st) := by
  obtain ⟨p, l, e, R, s, m, args, below, meth, c⟩ := X
  obtain ⟨hx, hb, hown, hts, hK, hlo, hlk, hm, hR, hrt⟩ := C
  intro H locs ls hW hS hl
  exact lv_iadd hx hb hd (kk H locs ls hW hS hl)
theorem jl_isub (C : Cx X G own cc nL rm n0 rt) {x y : Int32} (hd : decode cc pc = .ok (.isub, 1)) (kk : JL X G Q K h (pc + 1) L (.int (x - y) :: st)) : JL X G Q K h pc L (.int y :: .int x :: st) := by
  obtain ⟨p, l, e, R, s, m, args, below, meth, c⟩ := X
  obtain ⟨hx, hb, hown, hts, hK, hlo, hlk, hm, hR, hrt⟩ := C
  intro H locs ls hW hS hl
  exact lv_isub hx hb hd (kk H locs ls hW hS hl)
theorem jl_iand (C : Cx X G own cc nL rm n0 rt) {x y : Int32} (hd : decode cc pc = .ok (.iand, 1)) (kk : JL X G Q K h (pc + 1) L (.int (x &&& y) :: st)) : JL X G Q K h pc L (.int y :: .int x :: st) := by
  obtain ⟨p, l, e, R, s, m, args, below, meth, c⟩ := X
  obtain ⟨hx, hb, hown, hts, hK, hlo, hlk, hm, hR, hrt⟩ := C
  intro H locs ls hW hS hl
  exact lv_iand hx hb hd (kk H locs ls hW hS hl)
theorem jl_lcmp (C : Cx X G own cc nL rm n0 rt) {x y : Int64} (hd : decode cc pc = .ok (.lcmp, 1)) (kk : JL X G Q K h (pc + 1) L (.int (lg_cmp x y) :: st)) : JL X G Q K h pc L (.long y :: .long x :: st) := by
  obtain ⟨p, l, e, R, s, m, args, below, meth, c⟩ := X
  obtain ⟨hx, hb, hown, hts, hK, hlo, hlk, hm, hR, hrt⟩ := C
  intro H locs ls hW hS hl
  exact W.lcmp hx hb hd (kk H locs ls hW hS hl)
theorem jl_dup (C : Cx X G own cc nL rm n0 rt) {v : Value} (hd : decode cc pc = .ok (.dup, 1)) (hv : v.category = 1) (kk : JL X G Q K h (pc + 1) L (v :: v :: st)) : JL X G Q K h pc L (v :: st) := by
  obtain ⟨p, l, e, R, s, m, args, below, meth, c⟩ := X
  obtain ⟨hx, hb, hown, hts, hK, hlo, hlk, hm, hR, hrt⟩ := C
  intro H locs ls hW hS hl
  exact lv_dup hx hb hd hv (kk H locs ls hW hS hl)
theorem jl_goto (C : Cx X G own cc nL rm n0 rt) {off : Int} {tgt : Nat} (hd : decode cc pc = .ok (.goto off, 3)) (ht : (pc : Int) + off = (tgt : Int)) (kk : JL X G Q K h tgt L st) : JL X G Q K h pc L st := by
  obtain ⟨p, l, e, R, s, m, args, below, meth, c⟩ := X
  obtain ⟨hx, hb, hown, hts, hK, hlo, hlk, hm, hR, hrt⟩ := C
  intro H locs ls hW hS hl
  exact lv_goto hx hb hd ht (kk H locs ls hW hS hl)
theorem jl_icmp_gt (C : Cx X G own cc nL rm n0 rt) {x y : Int32} {off : Int} {tgt : Nat} (hd : decode cc pc = .ok (.if_icmp .gt off, 3)) (ht : (pc : Int) + off = (tgt : Int)) (kt : y < x → JL X G Q K h tgt L st) (kf : ¬ y < x → JL X G Q K h (pc + 3) L st) : JL X G Q K h pc L (.int y :: .int x :: st) := by
  obtain ⟨p, l, e, R, s, m, args, below, meth, c⟩ := X
  obtain ⟨hx, hb, hown, hts, hK, hlo, hlk, hm, hR, hrt⟩ := C
  intro H locs ls hW hS hl
  exact lv_icmp_gt hx hb hd ht (fun q => kt q H locs ls hW hS hl) (fun q => kf q H locs ls hW hS hl)
theorem jl_icmp_eq (C : Cx X G own cc nL rm n0 rt) {x y : Int32} {off : Int} {tgt : Nat} (hd : decode cc pc = .ok (.if_icmp .eq off, 3)) (ht : (pc : Int) + off = (tgt : Int)) (kt : x = y → JL X G Q K h tgt L st) (kf : ¬ x = y → JL X G Q K h (pc + 3) L st) : JL X G Q K h pc L (.int y :: .int x :: st) := by
  obtain ⟨p, l, e, R, s, m, args, below, meth, c⟩ := X
  obtain ⟨hx, hb, hown, hts, hK, hlo, hlk, hm, hR, hrt⟩ := C
  intro H locs ls hW hS hl
  exact lv_icmp_eq hx hb hd ht (fun q => kt q H locs ls hW hS hl) (fun q => kf q H locs ls hW hS hl)
theorem jl_if_eq (C : Cx X G own cc nL rm n0 rt) {x : Int32} {off : Int} {tgt : Nat} (hd : decode cc pc = .ok (.ifCond .eq off, 3)) (ht : (pc : Int) + off = (tgt : Int)) (kt : x = 0 → JL X G Q K h tgt L st) (kf : ¬ x = 0 → JL X G Q K h (pc + 3) L st) : JL X G Q K h pc L (.int x :: st) := by
  obtain ⟨p, l, e, R, s, m, args, below, meth, c⟩ := X
  obtain ⟨hx, hb, hown, hts, hK, hlo, hlk, hm, hR, hrt⟩ := C
  intro H locs ls hW hS hl
  exact lv_if_eq hx hb hd ht (fun q => kt q H locs ls hW hS hl) (fun q => kf q H locs ls hW hS hl)
theorem jl_tableOut (C : Cx X G own cc nL rm n0 rt) {dflt lo hi : Int} {offs : Array Int} {len : Nat} {x : Int32} {tgt : Nat} (hd : decode cc pc = .ok (.tableswitch dflt lo hi offs, len)) (hq : x.toInt < lo ∨ hi < x.toInt) (ht : (pc : Int) + dflt = (tgt : Int)) (kk : JL X G Q K h tgt L st) : JL X G Q K h pc L (.int x :: st) := by
  obtain ⟨p, l, e, R, s, m, args, below, meth, c⟩ := X
  obtain ⟨hx, hb, hown, hts, hK, hlo, hlk, hm, hR, hrt⟩ := C
  intro H locs ls hW hS hl
  exact lv_tableOut hx hb hd hq ht (kk H locs ls hW hS hl)
theorem jl_table (C : Cx X G own cc nL rm n0 rt) {dflt lo hi : Int} {offs : Array Int} {len : Nat} {x : Int32} {off : Int} {tgt : Nat} (hd : decode cc pc = .ok (.tableswitch dflt lo hi offs, len)) (v : Int32) (hv : x = v) (h1 : ¬ v.toInt < lo) (h2 : ¬ hi < v.toInt) (ho : offs[(v.toInt - lo).toNat]? = some off) (ht : (pc : Int) + off = (tgt : Int)) (kk : JL X G Q K h tgt L st) : JL X G Q K h pc L (.int x :: st) := by
  obtain ⟨p, l, e, R, s, m, args, below, meth, c⟩ := X
  obtain ⟨hx, hb, hown, hts, hK, hlo, hlk, hm, hR, hrt⟩ := C
  intro H locs ls hW hS hl
  subst hv
  exact lv_tableIn hx hb hd h1 h2 ho ht (kk H locs ls hW hS hl)
theorem jl_sld (C : Cx X G own cc nL rm n0 rt) {b N : Nat} {xs : Nat → Int32} {i : Int32} (S : Sx X G b N xs) (hin : vp_in i N) (hd : decode cc pc = .ok (.iaload, 1)) (kk : JL X G Q K h (pc + 1) L (.int (xs i.toNatClampNeg) :: st)) : JL X G Q K h pc L (.int i :: .ref b :: st) := by
  obtain ⟨p, l, e, R, s, m, args, below, meth, c⟩ := X
  obtain ⟨hx, hb, hown, hts, hK, hlo, hlk, hm, hR, hrt⟩ := C
  intro H locs ls hW hS hl
  obtain ⟨hX, hbl, hG⟩ := S
  exact va_sld hx hb hX hbl (by show ¬ G.1 ≤ b; omega) hS hin hd (kk H locs ls hW hS hl)
theorem jl_slen (C : Cx X G own cc nL rm n0 rt) {b N : Nat} {xs : Nat → Int32} (S : Sx X G b N xs) (hd : decode cc pc = .ok (.arraylength, 1)) (kk : JL X G Q K h (pc + 1) L (.int (Int32.ofNat N) :: st)) : JL X G Q K h pc L (.ref b :: st) := by
  obtain ⟨p, l, e, R, s, m, args, below, meth, c⟩ := X
  obtain ⟨hx, hb, hown, hts, hK, hlo, hlk, hm, hR, hrt⟩ := C
  intro H locs ls hW hS hl
  obtain ⟨hX, hbl, hG⟩ := S
  exact va_slen hx hb hX hbl (by show ¬ G.1 ≤ b; omega) hS hd (kk H locs ls hW hS hl)
theorem jl_new (C : Cx X G own cc nL rm n0 rt) {idx ci N : Nat} {Cn : String} {T : u_T} {ty0 : Nat → FieldType} (hc : vwCl[ci]? = some (Cn, T, N)) (hu : ∀ w ∈ u_ws Cn T N, w ∈ bigW) (hty : ∀ k, k < N → parseFieldDescriptor (T k).2.2.1 = some (ty0 k)) (hcl : Cond.classLink own idx Cn ∈ bigW) (hin : Cond.instantiable Cn N ∈ bigW) (hini : Cond.initialized Cn ∈ bigW) (fs : List Value) (hfs : ∀ j, j < N → defaultValue (ty0 j) = vp_V fs j) (htv : fs.map (tV G.1) = fs)
    (hn : K.2.2 = n0 + K.1) (hcells : K.1 + 1 ≤ rm.cells) (hslots : K.2.1 + N ≤ rm.slots) (hd : decode cc pc = .ok (.new idx, 3)) (hK2 : (K.1 + 1, K.2.1 + N, K.2.2 + 1) = K2) {a : Nat} (ha2 : K.2.2 = a) (hh : va_up h K.2.2 (.inr (ci, fs)) = h2) (kk : JL X G Q K2 h2 (pc + 3) L (.ref (G.1 + a) :: st)) : JL X G Q K h pc L st := by
  obtain ⟨p, l, e, R, s, m, args, below, meth, c⟩ := X
  obtain ⟨hx, hb, hown, hts, hK, hlo, hlk, hm, hR, hrt⟩ := C
  intro H locs ls hW hS hl S0 hT XT
  have hsz := sz_of hT XT hlo hW hS.1 hn
  subst hK2
  subst hR
  subst ha2
  subst hh
  have hKn := hK.1 ci _ hc
  refine W.newcK hx hb hown (hts _ hcl) (hts _ hin) (hts _ hini) (g := F0 m pc ls st) rfl hd hcells hslots hKn.2.1 hsz (fun H1 kC hkC e1 z1 o1 => ?_) S0 hT XT
  refine kk H1 locs ls (pW_push hW hsz o1 ?_) ⟨Nat.le_trans hS.1 (by omega), fun x h1 h2 => (o1 x (by omega)).trans (hS.2.1 x h1 h2), hS.2.2⟩ hl
  refine ⟨_, hc, (u_born ty0 hts hu hKn hkC e1 hty).to ?_⟩
  show ∀ k, k < N → defaultValue (ty0 k) = vp_V (fs.map (tV G.1)) k
  rw [htv]
  exact hfs

variable {idx ci a np mL n1 : Nat} {y : MethodName} {b : ByteArray} {ret2 : Option FieldType} {rm2 : Room} {r : Option Value} {h1 : pH}
theorem jl_callV (C : Cx X G own cc nL rm n0 rt) (As : List Value) (k : lkV own idx ci y b mL ret2 np) (M : MC X.2.1 y b mL ret2 rm2 G (.ref a :: As) K.2.2 h r n1 h1) (hO : chk ci h a = some ()) (hst : (As.map (tV G.1)).reverse ++ .ref (G.1 + a) :: st = st2) (hnp : As.length = np) (hcat : (st.map fun v => v.category).sum ≤ 8) (hR2 : rm2.frames + 1 ≤ rm.frames ∧ 8 + (mL + 11) + rm2.locals ≤ rm.locals) (hroom : K.1 + rm2.cells ≤ rm.cells ∧ K.2.1 + rm2.slots ≤ rm.slots) (hn : K.2.2 = n0 + K.1) (hd : decode cc pc = .ok (.invokevirtual idx, 3)) (hK2 : (K.1 + rm2.cells, K.2.1 + rm2.slots, n1) = K2) (hs3 : (r.map (tV G.1)).toList ++ st = st3) (kk : JL X G Q K2 h1 (pc + 3) L st3) : JL X G Q K h pc L st2 := by
  obtain ⟨p, l, e, R, s, m, args, below, meth, c⟩ := X
  obtain ⟨hx, hb, hown, hts, hK, hlo, hlk, hm, hR, hrt⟩ := C
  obtain ⟨k1, k2, k3, k4, k5, k6, q, k7, k8⟩ := k
  intro H locs ls hW hS hl S0 hT XT
  have hsz := sz_of hT XT hlo hW hS.1 hn
  obtain ⟨fs, e4⟩ := chk_inv hO
  have ha : a < K.2.2 := wf_lt hW.2 (by rw [e4]; exact pj_cl k7 fs)
  subst hK2
  subst hR
  subst hst
  subst hs3
  refine jj_back (va_runV (Ts := bigW) (C := y.cls) (As := As.map (tV G.1)) (rest := st) (b := G.1 + a) ⟨hx, hb, rfl, hown, hts⟩ M ⟨cb_of hts k5 k4 k1 k6 hR2, hts _ k2, hts _ k3⟩ ⟨PU_blind G K.2.2 h _, ?_, fun U hU hWm => ⟨rfl, pu_of hts hK hW hsz hU hWm⟩⟩ rfl (by rw [List.length_map]; exact hnp) hl.1 rfl (lv_room hcat) hd hroom) hS (fun H1 locs1 hP1 hS1 => ?_) S0 hT XT
  · rw [← k8]
    exact va_recv (q0 := a) (fs := fs.map (tV G.1)) hK hW.1 k7 (by rw [wd_at ha, e4]; rfl)
  · exact kk H1 locs1 ls hP1 hS1 hl

theorem jl_callI (C : Cx X G own cc nL rm n0 rt) (As : List Value) (k : lkI own idx y b mL np) (M : MC X.2.1 y b mL none rm2 G (.ref a :: As) K.2.2 h r n1 h1) (hst : (As.map (tV G.1)).reverse ++ .ref (G.1 + a) :: st = st2) (hnp : As.length = np) (hcat : (st.map fun v => v.category).sum ≤ 8) (hR2 : rm2.frames + 1 ≤ rm.frames ∧ 8 + (mL + 11) + rm2.locals ≤ rm.locals) (hroom : K.1 + rm2.cells ≤ rm.cells ∧ K.2.1 + rm2.slots ≤ rm.slots) (hn : K.2.2 = n0 + K.1) (hd : decode cc pc = .ok (.invokespecial idx, 3)) (hK2 : (K.1 + rm2.cells, K.2.1 + rm2.slots, n1) = K2) (hs3 : (r.map (tV G.1)).toList ++ st = st3) (kk : JL X G Q K2 h1 (pc + 3) L st3) : JL X G Q K h pc L st2 := by
  obtain ⟨p, l, e, R, s, m, args, below, meth, c⟩ := X
  obtain ⟨hx, hb, hown, hts, hK, hlo, hlk, hm, hR, hrt⟩ := C
  obtain ⟨k1, k2, k4, k5, k6, k7⟩ := k
  intro H locs ls hW hS hl S0 hT XT
  have hsz := sz_of hT XT hlo hW hS.1 hn
  subst hK2
  subst hR
  subst hst
  subst hs3
  refine jj_back (va_runI (Ts := bigW) (As := As.map (tV G.1)) (rest := st) (b := G.1 + a) ⟨hx, hb, rfl, hown, hts⟩ M ⟨cb_of hts k5 k4 k1 k6 hR2, k7, hts _ k2⟩ ⟨PU_blind G K.2.2 h _, fun U hU hWm => ⟨rfl, pu_of hts hK hW hsz hU hWm⟩⟩ rfl (by rw [List.length_map]; exact hnp) hl.1 rfl (lv_room hcat) hd hroom) hS (fun H1 locs1 hP1 hS1 => ?_) S0 hT XT
  exact kk H1 locs1 ls hP1 hS1 hl

theorem jl_perm {L2 : List (Nat × Value)} (ks : List Nat) (hL : lv_pick L ks = L2) (kk : JL X G Q K h pc L2 st) : JL X G Q K h pc L st := by
  obtain ⟨p, l, e, R, s, m, args, below, meth, c⟩ := X
  intro H locs ls hW hS hl
  exact kk H locs ls hW hS (lv_sub hl ks hL)
end LR
theorem lk_L_101 : lkV RL 101 8 yX8_put cX8_put 4 (some (FieldType.int)) 3 := ⟨ml_L_101, im_X8_put, se_X8_put, ini_X8, co_X8_put, ⟨by decide, by decide, by decide +kernel⟩, _, rfl, rfl⟩
theorem lk_L_102 : lkV RL 102 7 yX7_cell cX7_cell 5 (some (FieldType.long)) 3 := ⟨ml_L_102, im_X7_cell, se_X7_cell, ini_X7, co_X7_cell, ⟨by decide, by decide, by decide +kernel⟩, _, rfl, rfl⟩
theorem lk_L_106 : lkV RL 106 8 yX8_cell cX8_cell 4 (some (FieldType.long)) 3 := ⟨ml_L_106, im_X8_cell, se_X8_cell, ini_X8, co_X8_cell, ⟨by decide, by decide, by decide +kernel⟩, _, rfl, rfl⟩
theorem lk_L_107 : lkV RL 107 7 yX7_copy cX7_copy 8 (some (FieldType.int)) 5 := ⟨ml_L_107, im_X7_copy, se_X7_copy, ini_X7, co_X7_copy, ⟨by decide, by decide, by decide +kernel⟩, _, rfl, rfl⟩
theorem lk_L_110 : lkV RL 110 8 yX8_copy cX8_copy 10 (some (FieldType.int)) 5 := ⟨ml_L_110, im_X8_copy, se_X8_copy, ini_X8, co_X8_copy, ⟨by decide, by decide, by decide +kernel⟩, _, rfl, rfl⟩
theorem lk_L_111 : lkV RL 111 7 yX7_tell cX7_tell 3 (some (FieldType.int)) 1 := ⟨ml_L_111, im_X7_tell, se_X7_tell, ini_X7, co_X7_tell, ⟨by decide, by decide, by decide +kernel⟩, _, rfl, rfl⟩
theorem lk_L_114 : lkV RL 114 8 yX8_tell cX8_tell 3 (some (FieldType.int)) 1 := ⟨ml_L_114, im_X8_tell, se_X8_tell, ini_X8, co_X8_tell, ⟨by decide, by decide, by decide +kernel⟩, _, rfl, rfl⟩
theorem lk_L_115 : lkV RL 115 7 yX7_spelt cX7_spelt 2 (some (FieldType.int)) 1 := ⟨ml_L_115, im_X7_spelt, se_X7_spelt, ini_X7, co_X7_spelt, ⟨by decide, by decide, by decide +kernel⟩, _, rfl, rfl⟩
theorem lk_L_118 : lkV RL 118 8 yX8_spelt cX8_spelt 2 (some (FieldType.int)) 1 := ⟨ml_L_118, im_X8_spelt, se_X8_spelt, ini_X8, co_X8_spelt, ⟨by decide, by decide, by decide +kernel⟩, _, rfl, rfl⟩
theorem lk_L_119 : lkV RL 119 7 yX7_as cX7_as 3 (some (FieldType.int)) 2 := ⟨ml_L_119, im_X7_as, se_X7_as, ini_X7, co_X7_as, ⟨by decide, by decide, by decide +kernel⟩, _, rfl, rfl⟩
theorem lk_L_122 : lkV RL 122 8 yX8_as cX8_as 3 (some (FieldType.int)) 2 := ⟨ml_L_122, im_X8_as, se_X8_as, ini_X8, co_X8_as, ⟨by decide, by decide, by decide +kernel⟩, _, rfl, rfl⟩
theorem lk_L_123 : lkV RL 123 7 yX7_trace cX7_trace 1 (some (FieldType.int)) 0 := ⟨ml_L_123, im_X7_trace, se_X7_trace, ini_X7, co_X7_trace, ⟨by decide, by decide, by decide +kernel⟩, _, rfl, rfl⟩
theorem lk_L_126 : lkV RL 126 8 yX8_trace cX8_trace 1 (some (FieldType.int)) 0 := ⟨ml_L_126, im_X8_trace, se_X8_trace, ini_X8, co_X8_trace, ⟨by decide, by decide, by decide +kernel⟩, _, rfl, rfl⟩
theorem lk_L_127 : lkV RL 127 7 yX7_fault cX7_fault 1 (some (FieldType.int)) 0 := ⟨ml_L_127, im_X7_fault, se_X7_fault, ini_X7, co_X7_fault, ⟨by decide, by decide, by decide +kernel⟩, _, rfl, rfl⟩
theorem lk_L_13 : lkV RL 13 7 yX7_words cX7_words 7 (some (FieldType.int)) 4 := ⟨ml_L_13, im_X7_words, se_X7_words, ini_X7, co_X7_words, ⟨by decide, by decide, by decide +kernel⟩, _, rfl, rfl⟩
theorem lk_L_130 : lkV RL 130 8 yX8_fault cX8_fault 1 (some (FieldType.int)) 0 := ⟨ml_L_130, im_X8_fault, se_X8_fault, ini_X8, co_X8_fault, ⟨by decide, by decide, by decide +kernel⟩, _, rfl, rfl⟩
theorem lk_L_131 : lkV RL 131 7 yX7_many cX7_many 2 (some (FieldType.int)) 1 := ⟨ml_L_131, im_X7_many, se_X7_many, ini_X7, co_X7_many, ⟨by decide, by decide, by decide +kernel⟩, _, rfl, rfl⟩
theorem lk_L_134 : lkV RL 134 8 yX8_many cX8_many 2 (some (FieldType.int)) 1 := ⟨ml_L_134, im_X8_many, se_X8_many, ini_X8, co_X8_many, ⟨by decide, by decide, by decide +kernel⟩, _, rfl, rfl⟩
theorem lk_L_17 : lkV RL 17 8 yX8_words cX8_words 9 (some (FieldType.int)) 4 := ⟨ml_L_17, im_X8_words, se_X8_words, ini_X8, co_X8_words, ⟨by decide, by decide, by decide +kernel⟩, _, rfl, rfl⟩
theorem lk_L_18 : lkV RL 18 7 yX7_ofWord cX7_ofWord 5 (some (FieldType.int)) 2 := ⟨ml_L_18, im_X7_ofWord, se_X7_ofWord, ini_X7, co_X7_ofWord, ⟨by decide, by decide, by decide +kernel⟩, _, rfl, rfl⟩
theorem lk_L_22 : lkV RL 22 8 yX8_ofWord cX8_ofWord 3 (some (FieldType.int)) 2 := ⟨ml_L_22, im_X8_ofWord, se_X8_ofWord, ini_X8, co_X8_ofWord, ⟨by decide, by decide, by decide +kernel⟩, _, rfl, rfl⟩
theorem lk_L_23 : lkV RL 23 7 yX7_spell cX7_spell 5 (some (FieldType.int)) 3 := ⟨ml_L_23, im_X7_spell, se_X7_spell, ini_X7, co_X7_spell, ⟨by decide, by decide, by decide +kernel⟩, _, rfl, rfl⟩
theorem lk_L_27 : lkV RL 27 8 yX8_spell cX8_spell 5 (some (FieldType.int)) 3 := ⟨ml_L_27, im_X8_spell, se_X8_spell, ini_X8, co_X8_spell, ⟨by decide, by decide, by decide +kernel⟩, _, rfl, rfl⟩
theorem lk_L_28 : lkV RL 28 7 yX7_say cX7_say 2 (some (FieldType.int)) 1 := ⟨ml_L_28, im_X7_say, se_X7_say, ini_X7, co_X7_say, ⟨by decide, by decide, by decide +kernel⟩, _, rfl, rfl⟩
theorem lk_L_32 : lkV RL 32 8 yX8_say cX8_say 2 (some (FieldType.int)) 1 := ⟨ml_L_32, im_X8_say, se_X8_say, ini_X8, co_X8_say, ⟨by decide, by decide, by decide +kernel⟩, _, rfl, rfl⟩
theorem lk_L_33 : lkV RL 33 7 yX7_hush cX7_hush 2 (some (FieldType.int)) 0 := ⟨ml_L_33, im_X7_hush, se_X7_hush, ini_X7, co_X7_hush, ⟨by decide, by decide, by decide +kernel⟩, _, rfl, rfl⟩
theorem lk_L_37 : lkV RL 37 8 yX8_hush cX8_hush 2 (some (FieldType.int)) 0 := ⟨ml_L_37, im_X8_hush, se_X8_hush, ini_X8, co_X8_hush, ⟨by decide, by decide, by decide +kernel⟩, _, rfl, rfl⟩
theorem lk_L_38 : lkV RL 38 7 yX7_row cX7_row 8 (some (FieldType.int)) 5 := ⟨ml_L_38, im_X7_row, se_X7_row, ini_X7, co_X7_row, ⟨by decide, by decide, by decide +kernel⟩, _, rfl, rfl⟩
theorem lk_L_42 : lkV RL 42 8 yX8_row cX8_row 8 (some (FieldType.int)) 5 := ⟨ml_L_42, im_X8_row, se_X8_row, ini_X8, co_X8_row, ⟨by decide, by decide, by decide +kernel⟩, _, rfl, rfl⟩
theorem lk_L_43 : lkV RL 43 7 yX7_over cX7_over 3 (some (FieldType.int)) 2 := ⟨ml_L_43, im_X7_over, se_X7_over, ini_X7, co_X7_over, ⟨by decide, by decide, by decide +kernel⟩, _, rfl, rfl⟩
theorem lk_L_46 : lkV RL 46 8 yX8_over cX8_over 7 (some (FieldType.int)) 2 := ⟨ml_L_46, im_X8_over, se_X8_over, ini_X8, co_X8_over, ⟨by decide, by decide, by decide +kernel⟩, _, rfl, rfl⟩
theorem lk_L_47 : lkV RL 47 7 yX7_all cX7_all 2 (some (FieldType.int)) 1 := ⟨ml_L_47, im_X7_all, se_X7_all, ini_X7, co_X7_all, ⟨by decide, by decide, by decide +kernel⟩, _, rfl, rfl⟩
theorem lk_L_50 : lkV RL 50 8 yX8_all cX8_all 5 (some (FieldType.int)) 1 := ⟨ml_L_50, im_X8_all, se_X8_all, ini_X8, co_X8_all, ⟨by decide, by decide, by decide +kernel⟩, _, rfl, rfl⟩
theorem lk_L_51 : lkV RL 51 7 yX7_have cX7_have 2 (some (FieldType.long)) 1 := ⟨ml_L_51, im_X7_have, se_X7_have, ini_X7, co_X7_have, ⟨by decide, by decide, by decide +kernel⟩, _, rfl, rfl⟩
theorem lk_L_55 : lkV RL 55 8 yX8_have cX8_have 2 (some (FieldType.long)) 1 := ⟨ml_L_55, im_X8_have, se_X8_have, ini_X8, co_X8_have, ⟨by decide, by decide, by decide +kernel⟩, _, rfl, rfl⟩
theorem lk_L_56 : lkV RL 56 7 yX7_free cX7_free 2 (some (FieldType.long)) 1 := ⟨ml_L_56, im_X7_free, se_X7_free, ini_X7, co_X7_free, ⟨by decide, by decide, by decide +kernel⟩, _, rfl, rfl⟩
theorem lk_L_59 : lkV RL 59 8 yX8_free cX8_free 2 (some (FieldType.long)) 1 := ⟨ml_L_59, im_X8_free, se_X8_free, ini_X8, co_X8_free, ⟨by decide, by decide, by decide +kernel⟩, _, rfl, rfl⟩
theorem lk_L_60 : lkV RL 60 7 yX7_longest cX7_longest 1 (some (FieldType.int)) 0 := ⟨ml_L_60, im_X7_longest, se_X7_longest, ini_X7, co_X7_longest, ⟨by decide, by decide, by decide +kernel⟩, _, rfl, rfl⟩
theorem lk_L_63 : lkV RL 63 8 yX8_longest cX8_longest 2 (some (FieldType.int)) 0 := ⟨ml_L_63, im_X8_longest, se_X8_longest, ini_X8, co_X8_longest, ⟨by decide, by decide, by decide +kernel⟩, _, rfl, rfl⟩
theorem lk_L_64 : lkV RL 64 7 yX7_spare cX7_spare 4 (some (FieldType.int)) 0 := ⟨ml_L_64, im_X7_spare, se_X7_spare, ini_X7, co_X7_spare, ⟨by decide, by decide, by decide +kernel⟩, _, rfl, rfl⟩
theorem lk_L_67 : lkV RL 67 8 yX8_spare cX8_spare 4 (some (FieldType.int)) 0 := ⟨ml_L_67, im_X8_spare, se_X8_spare, ini_X8, co_X8_spare, ⟨by decide, by decide, by decide +kernel⟩, _, rfl, rfl⟩
theorem lk_L_68 : lkV RL 68 7 yX7_reading cX7_reading 8 (some (FieldType.int)) 6 := ⟨ml_L_68, im_X7_reading, se_X7_reading, ini_X7, co_X7_reading, ⟨by decide, by decide, by decide +kernel⟩, _, rfl, rfl⟩
theorem lk_L_72 : lkV RL 72 8 yX8_reading cX8_reading 10 (some (FieldType.int)) 6 := ⟨ml_L_72, im_X8_reading, se_X8_reading, ini_X8, co_X8_reading, ⟨by decide, by decide, by decide +kernel⟩, _, rfl, rfl⟩
theorem lk_L_73 : lkV RL 73 7 yX7_back cX7_back 2 (some (FieldType.int)) 1 := ⟨ml_L_73, im_X7_back, se_X7_back, ini_X7, co_X7_back, ⟨by decide, by decide, by decide +kernel⟩, _, rfl, rfl⟩
theorem lk_L_76 : lkV RL 76 8 yX8_back cX8_back 2 (some (FieldType.int)) 1 := ⟨ml_L_76, im_X8_back, se_X8_back, ini_X8, co_X8_back, ⟨by decide, by decide, by decide +kernel⟩, _, rfl, rfl⟩
theorem lk_L_77 : lkV RL 77 7 yX7_kinds cX7_kinds 4 (some (FieldType.int)) 1 := ⟨ml_L_77, im_X7_kinds, se_X7_kinds, ini_X7, co_X7_kinds, ⟨by decide, by decide, by decide +kernel⟩, _, rfl, rfl⟩
theorem lk_L_80 : lkV RL 80 8 yX8_kinds cX8_kinds 5 (some (FieldType.int)) 1 := ⟨ml_L_80, im_X8_kinds, se_X8_kinds, ini_X8, co_X8_kinds, ⟨by decide, by decide, by decide +kernel⟩, _, rfl, rfl⟩
theorem lk_L_81 : lkV RL 81 7 yX7_lasts cX7_lasts 4 (some (FieldType.int)) 1 := ⟨ml_L_81, im_X7_lasts, se_X7_lasts, ini_X7, co_X7_lasts, ⟨by decide, by decide, by decide +kernel⟩, _, rfl, rfl⟩
theorem lk_L_84 : lkV RL 84 8 yX8_lasts cX8_lasts 6 (some (FieldType.int)) 1 := ⟨ml_L_84, im_X8_lasts, se_X8_lasts, ini_X8, co_X8_lasts, ⟨by decide, by decide, by decide +kernel⟩, _, rfl, rfl⟩
theorem lk_L_85 : lkV RL 85 7 yX7_odds cX7_odds 8 (some (FieldType.long)) 2 := ⟨ml_L_85, im_X7_odds, se_X7_odds, ini_X7, co_X7_odds, ⟨by decide, by decide, by decide +kernel⟩, _, rfl, rfl⟩
theorem lk_L_89 : lkV RL 89 8 yX8_odds cX8_odds 6 (some (FieldType.long)) 2 := ⟨ml_L_89, im_X8_odds, se_X8_odds, ini_X8, co_X8_odds, ⟨by decide, by decide, by decide +kernel⟩, _, rfl, rfl⟩
theorem lk_L_90 : lkV RL 90 7 yX7_sheet cX7_sheet 4 (some (FieldType.int)) 3 := ⟨ml_L_90, im_X7_sheet, se_X7_sheet, ini_X7, co_X7_sheet, ⟨by decide, by decide, by decide +kernel⟩, _, rfl, rfl⟩
theorem lk_L_93 : lkV RL 93 8 yX8_sheet cX8_sheet 5 (some (FieldType.int)) 3 := ⟨ml_L_93, im_X8_sheet, se_X8_sheet, ini_X8, co_X8_sheet, ⟨by decide, by decide, by decide +kernel⟩, _, rfl, rfl⟩
theorem lk_L_94 : lkV RL 94 7 yX7_lose cX7_lose 3 (some (FieldType.int)) 1 := ⟨ml_L_94, im_X7_lose, se_X7_lose, ini_X7, co_X7_lose, ⟨by decide, by decide, by decide +kernel⟩, _, rfl, rfl⟩
theorem lk_L_97 : lkV RL 97 8 yX8_lose cX8_lose 3 (some (FieldType.int)) 1 := ⟨ml_L_97, im_X8_lose, se_X8_lose, ini_X8, co_X8_lose, ⟨by decide, by decide, by decide +kernel⟩, _, rfl, rfl⟩
theorem lk_L_98 : lkV RL 98 7 yX7_put cX7_put 4 (some (FieldType.int)) 3 := ⟨ml_L_98, im_X7_put, se_X7_put, ini_X7, co_X7_put, ⟨by decide, by decide, by decide +kernel⟩, _, rfl, rfl⟩
theorem lk_L_9 : lkI RL 9 yX7_init cX7_init 2 0 := ⟨ml_L_9, im_X7_init, ini_X7, co_X7_init, ⟨by decide, by decide, by decide +kernel⟩, rfl⟩
theorem lk_L_12 : lkI RL 12 yX8_init cX8_init 1 0 := ⟨ml_L_12, im_X8_init, ini_X8, co_X8_init, ⟨by decide, by decide, by decide +kernel⟩, rfl⟩
abbrev lwK : pK := (91, 6716, 91)
theorem lgc_self (x : Int64) : lg_cmp x x = 0 := by simp [lg_cmp]
def st_words (I : pH → Prop) (F : Nat) : Prop := ∀ (h : pH) (a1 a2 a3 a4 : Int32), I h → ∃ (q1 : (Int32 × pH)) (q2 : (Int32 × pH)), x_X7_words F h 0 a1 a2 a3 a4 = some q1 ∧ x_X8_words F q1.2 68 a1 a2 a3 a4 = some q2 ∧ q1.1 = q2.1 ∧ I q2.2
set_option maxRecDepth 10000 in
theorem law_words {X : pX} {G : pG} {Q : State → Prop} {b N : Nat} {xs : Nat → Int32} {I : pH → Prop} {F : Nat} (C : Cx X G RL cL_law 4 room_1 0 (some .boolean)) (S : Sx X G b N xs) (hst : st_words I F) {i3 : Int32} (w1 : vp_in (i3 + 1) N) (w2 : vp_in (i3 + 2) N) (w3 : vp_in (i3 + 3) N) (w4 : vp_in (i3 + 4) N) {h : pH} (hI : I h) (kk : ∀ h2, I h2 → JL X G Q lwK h2 1040 [(0, .ref b), (1, .ref (G.1 + 0)), (2, .ref (G.1 + 68)), (3, .int i3)] []) : JL X G Q lwK h 160 [(0, .ref b), (1, .ref (G.1 + 0)), (2, .ref (G.1 + 68)), (3, .int i3)] [] := by
  obtain ⟨q1, q2, e1, e2, e3, hI2⟩ := hst h (xs (i3 + 1).toNatClampNeg) (xs (i3 + 2).toNatClampNeg) (xs (i3 + 3).toNatClampNeg) (xs (i3 + 4).toNatClampNeg) hI
  refine jl_aload_n C 1 1 dL_law_160 rfl rfl ?_
  refine jl_aload_n C 0 0 dL_law_161 rfl rfl ?_
  refine jl_iload_n C 3 3 dL_law_162 rfl rfl ?_
  refine jl_iconst (v := 1) C dL_law_163 (by decide) ?_
  refine jl_iadd C dL_law_164 ?_
  refine jl_sld C S w1 dL_law_165 ?_
  refine jl_aload_n C 0 0 dL_law_166 rfl rfl ?_
  refine jl_iload_n C 3 3 dL_law_167 rfl rfl ?_
  refine jl_iconst (v := 2) C dL_law_168 (by decide) ?_
  refine jl_iadd C dL_law_169 ?_
  refine jl_sld C S w2 dL_law_170 ?_
  refine jl_aload_n C 0 0 dL_law_171 rfl rfl ?_
  refine jl_iload_n C 3 3 dL_law_172 rfl rfl ?_
  refine jl_iconst (v := 3) C dL_law_173 (by decide) ?_
  refine jl_iadd C dL_law_174 ?_
  refine jl_sld C S w3 dL_law_175 ?_
  refine jl_aload_n C 0 0 dL_law_176 rfl rfl ?_
  refine jl_iload_n C 3 3 dL_law_177 rfl rfl ?_
  refine jl_iconst (v := 4) C dL_law_178 (by decide) ?_
  refine jl_iadd C dL_law_179 ?_
  refine jl_sld C S w4 dL_law_180 ?_
  refine jl_callV (a := 0) C [.int (xs (i3 + 1).toNatClampNeg), .int (xs (i3 + 2).toNatClampNeg), .int (xs (i3 + 3).toNatClampNeg), .int (xs (i3 + 4).toNatClampNeg)] lk_L_13 (mc_X7_words X.2.1 G F 91 e1) (o_X7_words e1) rfl rfl (Nat.le_of_ble_eq_true rfl) ⟨Nat.le_of_ble_eq_true rfl, Nat.le_of_ble_eq_true rfl⟩ ⟨Nat.le_of_ble_eq_true rfl, Nat.le_of_ble_eq_true rfl⟩ rfl dL_law_181 (show _ = lwK from rfl) rfl ?_
  refine jl_aload_n C 2 2 dL_law_184 rfl rfl ?_
  refine jl_aload_n C 0 0 dL_law_185 rfl rfl ?_
  refine jl_iload_n C 3 3 dL_law_186 rfl rfl ?_
  refine jl_iconst (v := 1) C dL_law_187 (by decide) ?_
  refine jl_iadd C dL_law_188 ?_
  refine jl_sld C S w1 dL_law_189 ?_
  refine jl_aload_n C 0 0 dL_law_190 rfl rfl ?_
  refine jl_iload_n C 3 3 dL_law_191 rfl rfl ?_
  refine jl_iconst (v := 2) C dL_law_192 (by decide) ?_
  refine jl_iadd C dL_law_193 ?_
  refine jl_sld C S w2 dL_law_194 ?_
  refine jl_aload_n C 0 0 dL_law_195 rfl rfl ?_
  refine jl_iload_n C 3 3 dL_law_196 rfl rfl ?_
  refine jl_iconst (v := 3) C dL_law_197 (by decide) ?_
  refine jl_iadd C dL_law_198 ?_
  refine jl_sld C S w3 dL_law_199 ?_
  refine jl_aload_n C 0 0 dL_law_200 rfl rfl ?_
  refine jl_iload_n C 3 3 dL_law_201 rfl rfl ?_
  refine jl_iconst (v := 4) C dL_law_202 (by decide) ?_
  refine jl_iadd C dL_law_203 ?_
  refine jl_sld C S w4 dL_law_204 ?_
  refine jl_callV (a := 68) C [.int (xs (i3 + 1).toNatClampNeg), .int (xs (i3 + 2).toNatClampNeg), .int (xs (i3 + 3).toNatClampNeg), .int (xs (i3 + 4).toNatClampNeg)] lk_L_17 (mc_X8_words X.2.1 G F 91 e2) (o_X8_words e2) rfl rfl (Nat.le_of_ble_eq_true rfl) ⟨Nat.le_of_ble_eq_true rfl, Nat.le_of_ble_eq_true rfl⟩ ⟨Nat.le_of_ble_eq_true rfl, Nat.le_of_ble_eq_true rfl⟩ rfl dL_law_205 (show _ = lwK from rfl) rfl ?_
  refine jl_icmp_eq (tgt := 1040) C dL_law_208 (by decide) (fun _ => kk _ hI2) (fun q => absurd e3 q)
def st_ofWord (I : pH → Prop) (F : Nat) : Prop := ∀ (h : pH) (a1 a2 : Int32), I h → ∃ (q1 : Int32) (q2 : (Int32 × pH)), x_X7_ofWord F h 0 a1 a2 = some q1 ∧ x_X8_ofWord F h 68 a1 a2 = some q2 ∧ q1 = q2.1 ∧ I q2.2
set_option maxRecDepth 10000 in
theorem law_ofWord {X : pX} {G : pG} {Q : State → Prop} {b N : Nat} {xs : Nat → Int32} {I : pH → Prop} {F : Nat} (C : Cx X G RL cL_law 4 room_1 0 (some .boolean)) (S : Sx X G b N xs) (hst : st_ofWord I F) {i3 : Int32} (w1 : vp_in (i3 + 1) N) (w2 : vp_in (i3 + 2) N) {h : pH} (hI : I h) (kk : ∀ h2, I h2 → JL X G Q lwK h2 1040 [(0, .ref b), (1, .ref (G.1 + 0)), (2, .ref (G.1 + 68)), (3, .int i3)] []) : JL X G Q lwK h 213 [(0, .ref b), (1, .ref (G.1 + 0)), (2, .ref (G.1 + 68)), (3, .int i3)] [] := by
  obtain ⟨q1, q2, e1, e2, e3, hI2⟩ := hst h (xs (i3 + 1).toNatClampNeg) (xs (i3 + 2).toNatClampNeg) hI
  refine jl_aload_n C 1 1 dL_law_213 rfl rfl ?_
  refine jl_aload_n C 0 0 dL_law_214 rfl rfl ?_
  refine jl_iload_n C 3 3 dL_law_215 rfl rfl ?_
  refine jl_iconst (v := 1) C dL_law_216 (by decide) ?_
  refine jl_iadd C dL_law_217 ?_
  refine jl_sld C S w1 dL_law_218 ?_
  refine jl_aload_n C 0 0 dL_law_219 rfl rfl ?_
  refine jl_iload_n C 3 3 dL_law_220 rfl rfl ?_
  refine jl_iconst (v := 2) C dL_law_221 (by decide) ?_
  refine jl_iadd C dL_law_222 ?_
  refine jl_sld C S w2 dL_law_223 ?_
  refine jl_callV (a := 0) C [.int (xs (i3 + 1).toNatClampNeg), .int (xs (i3 + 2).toNatClampNeg)] lk_L_18 (mc_X7_ofWord X.2.1 G F 91 e1) (o_X7_ofWord e1) rfl rfl (Nat.le_of_ble_eq_true rfl) ⟨Nat.le_of_ble_eq_true rfl, Nat.le_of_ble_eq_true rfl⟩ ⟨Nat.le_of_ble_eq_true rfl, Nat.le_of_ble_eq_true rfl⟩ rfl dL_law_224 (show _ = lwK from rfl) rfl ?_
  refine jl_aload_n C 2 2 dL_law_227 rfl rfl ?_
  refine jl_aload_n C 0 0 dL_law_228 rfl rfl ?_
  refine jl_iload_n C 3 3 dL_law_229 rfl rfl ?_
  refine jl_iconst (v := 1) C dL_law_230 (by decide) ?_
  refine jl_iadd C dL_law_231 ?_
  refine jl_sld C S w1 dL_law_232 ?_
  refine jl_aload_n C 0 0 dL_law_233 rfl rfl ?_
  refine jl_iload_n C 3 3 dL_law_234 rfl rfl ?_
  refine jl_iconst (v := 2) C dL_law_235 (by decide) ?_
  refine jl_iadd C dL_law_236 ?_
  refine jl_sld C S w2 dL_law_237 ?_
  refine jl_callV (a := 68) C [.int (xs (i3 + 1).toNatClampNeg), .int (xs (i3 + 2).toNatClampNeg)] lk_L_22 (mc_X8_ofWord X.2.1 G F 91 e2) (o_X8_ofWord e2) rfl rfl (Nat.le_of_ble_eq_true rfl) ⟨Nat.le_of_ble_eq_true rfl, Nat.le_of_ble_eq_true rfl⟩ ⟨Nat.le_of_ble_eq_true rfl, Nat.le_of_ble_eq_true rfl⟩ rfl dL_law_238 (show _ = lwK from rfl) rfl ?_
  refine jl_icmp_eq (tgt := 1040) C dL_law_241 (by decide) (fun _ => kk _ hI2) (fun q => absurd e3 q)
def st_spell (I : pH → Prop) (F : Nat) : Prop := ∀ (h : pH) (a1 a2 a3 : Int32), I h → ∃ (q1 : (Int32 × pH)) (q2 : (Int32 × pH)), x_X7_spell F h 0 a1 a2 a3 = some q1 ∧ x_X8_spell F q1.2 68 a1 a2 a3 = some q2 ∧ q1.1 = q2.1 ∧ I q2.2
set_option maxRecDepth 10000 in
theorem law_spell {X : pX} {G : pG} {Q : State → Prop} {b N : Nat} {xs : Nat → Int32} {I : pH → Prop} {F : Nat} (C : Cx X G RL cL_law 4 room_1 0 (some .boolean)) (S : Sx X G b N xs) (hst : st_spell I F) {i3 : Int32} (w1 : vp_in (i3 + 1) N) (w2 : vp_in (i3 + 2) N) (w3 : vp_in (i3 + 3) N) {h : pH} (hI : I h) (kk : ∀ h2, I h2 → JL X G Q lwK h2 1040 [(0, .ref b), (1, .ref (G.1 + 0)), (2, .ref (G.1 + 68)), (3, .int i3)] []) : JL X G Q lwK h 246 [(0, .ref b), (1, .ref (G.1 + 0)), (2, .ref (G.1 + 68)), (3, .int i3)] [] := by
  obtain ⟨q1, q2, e1, e2, e3, hI2⟩ := hst h (xs (i3 + 1).toNatClampNeg) (xs (i3 + 2).toNatClampNeg) (xs (i3 + 3).toNatClampNeg) hI
  refine jl_aload_n C 1 1 dL_law_246 rfl rfl ?_
  refine jl_aload_n C 0 0 dL_law_247 rfl rfl ?_
  refine jl_iload_n C 3 3 dL_law_248 rfl rfl ?_
  refine jl_iconst (v := 1) C dL_law_249 (by decide) ?_
  refine jl_iadd C dL_law_250 ?_
  refine jl_sld C S w1 dL_law_251 ?_
  refine jl_aload_n C 0 0 dL_law_252 rfl rfl ?_
  refine jl_iload_n C 3 3 dL_law_253 rfl rfl ?_
  refine jl_iconst (v := 2) C dL_law_254 (by decide) ?_
  refine jl_iadd C dL_law_255 ?_
  refine jl_sld C S w2 dL_law_256 ?_
  refine jl_aload_n C 0 0 dL_law_257 rfl rfl ?_
  refine jl_iload_n C 3 3 dL_law_258 rfl rfl ?_
  refine jl_iconst (v := 3) C dL_law_259 (by decide) ?_
  refine jl_iadd C dL_law_260 ?_
  refine jl_sld C S w3 dL_law_261 ?_
  refine jl_callV (a := 0) C [.int (xs (i3 + 1).toNatClampNeg), .int (xs (i3 + 2).toNatClampNeg), .int (xs (i3 + 3).toNatClampNeg)] lk_L_23 (mc_X7_spell X.2.1 G F 91 e1) (o_X7_spell e1) rfl rfl (Nat.le_of_ble_eq_true rfl) ⟨Nat.le_of_ble_eq_true rfl, Nat.le_of_ble_eq_true rfl⟩ ⟨Nat.le_of_ble_eq_true rfl, Nat.le_of_ble_eq_true rfl⟩ rfl dL_law_262 (show _ = lwK from rfl) rfl ?_
  refine jl_aload_n C 2 2 dL_law_265 rfl rfl ?_
  refine jl_aload_n C 0 0 dL_law_266 rfl rfl ?_
  refine jl_iload_n C 3 3 dL_law_267 rfl rfl ?_
  refine jl_iconst (v := 1) C dL_law_268 (by decide) ?_
  refine jl_iadd C dL_law_269 ?_
  refine jl_sld C S w1 dL_law_270 ?_
  refine jl_aload_n C 0 0 dL_law_271 rfl rfl ?_
  refine jl_iload_n C 3 3 dL_law_272 rfl rfl ?_
  refine jl_iconst (v := 2) C dL_law_273 (by decide) ?_
  refine jl_iadd C dL_law_274 ?_
  refine jl_sld C S w2 dL_law_275 ?_
  refine jl_aload_n C 0 0 dL_law_276 rfl rfl ?_
  refine jl_iload_n C 3 3 dL_law_277 rfl rfl ?_
  refine jl_iconst (v := 3) C dL_law_278 (by decide) ?_
  refine jl_iadd C dL_law_279 ?_
  refine jl_sld C S w3 dL_law_280 ?_
  refine jl_callV (a := 68) C [.int (xs (i3 + 1).toNatClampNeg), .int (xs (i3 + 2).toNatClampNeg), .int (xs (i3 + 3).toNatClampNeg)] lk_L_27 (mc_X8_spell X.2.1 G F 91 e2) (o_X8_spell e2) rfl rfl (Nat.le_of_ble_eq_true rfl) ⟨Nat.le_of_ble_eq_true rfl, Nat.le_of_ble_eq_true rfl⟩ ⟨Nat.le_of_ble_eq_true rfl, Nat.le_of_ble_eq_true rfl⟩ rfl dL_law_281 (show _ = lwK from rfl) rfl ?_
  refine jl_icmp_eq (tgt := 1040) C dL_law_284 (by decide) (fun _ => kk _ hI2) (fun q => absurd e3 q)
def st_say (I : pH → Prop) (F : Nat) : Prop := ∀ (h : pH) (a1 : Int32), I h → ∃ (q1 : (Int32 × pH)) (q2 : (Int32 × pH)), x_X7_say F h 0 a1 = some q1 ∧ x_X8_say F q1.2 68 a1 = some q2 ∧ q1.1 = q2.1 ∧ I q2.2
set_option maxRecDepth 10000 in
theorem law_say {X : pX} {G : pG} {Q : State → Prop} {b N : Nat} {xs : Nat → Int32} {I : pH → Prop} {F : Nat} (C : Cx X G RL cL_law 4 room_1 0 (some .boolean)) (S : Sx X G b N xs) (hst : st_say I F) {i3 : Int32} (w1 : vp_in (i3 + 1) N) {h : pH} (hI : I h) (kk : ∀ h2, I h2 → JL X G Q lwK h2 1040 [(0, .ref b), (1, .ref (G.1 + 0)), (2, .ref (G.1 + 68)), (3, .int i3)] []) : JL X G Q lwK h 289 [(0, .ref b), (1, .ref (G.1 + 0)), (2, .ref (G.1 + 68)), (3, .int i3)] [] := by
  obtain ⟨q1, q2, e1, e2, e3, hI2⟩ := hst h (xs (i3 + 1).toNatClampNeg) hI
  refine jl_aload_n C 1 1 dL_law_289 rfl rfl ?_
  refine jl_aload_n C 0 0 dL_law_290 rfl rfl ?_
  refine jl_iload_n C 3 3 dL_law_291 rfl rfl ?_
  refine jl_iconst (v := 1) C dL_law_292 (by decide) ?_
  refine jl_iadd C dL_law_293 ?_
  refine jl_sld C S w1 dL_law_294 ?_
  refine jl_callV (a := 0) C [.int (xs (i3 + 1).toNatClampNeg)] lk_L_28 (mc_X7_say X.2.1 G F 91 e1) (o_X7_say e1) rfl rfl (Nat.le_of_ble_eq_true rfl) ⟨Nat.le_of_ble_eq_true rfl, Nat.le_of_ble_eq_true rfl⟩ ⟨Nat.le_of_ble_eq_true rfl, Nat.le_of_ble_eq_true rfl⟩ rfl dL_law_295 (show _ = lwK from rfl) rfl ?_
  refine jl_aload_n C 2 2 dL_law_298 rfl rfl ?_
  refine jl_aload_n C 0 0 dL_law_299 rfl rfl ?_
  refine jl_iload_n C 3 3 dL_law_300 rfl rfl ?_
  refine jl_iconst (v := 1) C dL_law_301 (by decide) ?_
  refine jl_iadd C dL_law_302 ?_
  refine jl_sld C S w1 dL_law_303 ?_
  refine jl_callV (a := 68) C [.int (xs (i3 + 1).toNatClampNeg)] lk_L_32 (mc_X8_say X.2.1 G F 91 e2) (o_X8_say e2) rfl rfl (Nat.le_of_ble_eq_true rfl) ⟨Nat.le_of_ble_eq_true rfl, Nat.le_of_ble_eq_true rfl⟩ ⟨Nat.le_of_ble_eq_true rfl, Nat.le_of_ble_eq_true rfl⟩ rfl dL_law_304 (show _ = lwK from rfl) rfl ?_
  refine jl_icmp_eq (tgt := 1040) C dL_law_307 (by decide) (fun _ => kk _ hI2) (fun q => absurd e3 q)
def st_hush (I : pH → Prop) (F : Nat) : Prop := ∀ (h : pH), I h → ∃ (q1 : (Int32 × pH)) (q2 : (Int32 × pH)), x_X7_hush F h 0  = some q1 ∧ x_X8_hush F q1.2 68  = some q2 ∧ q1.1 = q2.1 ∧ I q2.2
set_option maxRecDepth 10000 in
theorem law_hush {X : pX} {G : pG} {Q : State → Prop} {b N : Nat} {xs : Nat → Int32} {I : pH → Prop} {F : Nat} (C : Cx X G RL cL_law 4 room_1 0 (some .boolean)) (S : Sx X G b N xs) (hst : st_hush I F) {i3 : Int32}  {h : pH} (hI : I h) (kk : ∀ h2, I h2 → JL X G Q lwK h2 1040 [(0, .ref b), (1, .ref (G.1 + 0)), (2, .ref (G.1 + 68)), (3, .int i3)] []) : JL X G Q lwK h 312 [(0, .ref b), (1, .ref (G.1 + 0)), (2, .ref (G.1 + 68)), (3, .int i3)] [] := by
  obtain ⟨q1, q2, e1, e2, e3, hI2⟩ := hst h  hI
  refine jl_aload_n C 1 1 dL_law_312 rfl rfl ?_
  refine jl_callV (a := 0) C [] lk_L_33 (mc_X7_hush X.2.1 G F 91 e1) (o_X7_hush e1) rfl rfl (Nat.le_of_ble_eq_true rfl) ⟨Nat.le_of_ble_eq_true rfl, Nat.le_of_ble_eq_true rfl⟩ ⟨Nat.le_of_ble_eq_true rfl, Nat.le_of_ble_eq_true rfl⟩ rfl dL_law_313 (show _ = lwK from rfl) rfl ?_
  refine jl_aload_n C 2 2 dL_law_316 rfl rfl ?_
  refine jl_callV (a := 68) C [] lk_L_37 (mc_X8_hush X.2.1 G F 91 e2) (o_X8_hush e2) rfl rfl (Nat.le_of_ble_eq_true rfl) ⟨Nat.le_of_ble_eq_true rfl, Nat.le_of_ble_eq_true rfl⟩ ⟨Nat.le_of_ble_eq_true rfl, Nat.le_of_ble_eq_true rfl⟩ rfl dL_law_317 (show _ = lwK from rfl) rfl ?_
  refine jl_icmp_eq (tgt := 1040) C dL_law_320 (by decide) (fun _ => kk _ hI2) (fun q => absurd e3 q)
def st_row (I : pH → Prop) (F : Nat) : Prop := ∀ (h : pH) (a1 a2 a3 a4 a5 : Int32), I h → ∃ (q1 : (Int32 × pH)) (q2 : (Int32 × pH)), x_X7_row F h 0 a1 a2 a3 a4 a5 = some q1 ∧ x_X8_row F q1.2 68 a1 a2 a3 a4 a5 = some q2 ∧ q1.1 = q2.1 ∧ I q2.2
set_option maxRecDepth 10000 in
theorem law_row {X : pX} {G : pG} {Q : State → Prop} {b N : Nat} {xs : Nat → Int32} {I : pH → Prop} {F : Nat} (C : Cx X G RL cL_law 4 room_1 0 (some .boolean)) (S : Sx X G b N xs) (hst : st_row I F) {i3 : Int32} (w1 : vp_in (i3 + 1) N) (w2 : vp_in (i3 + 2) N) (w3 : vp_in (i3 + 3) N) (w4 : vp_in (i3 + 4) N) (w5 : vp_in (i3 + 5) N) {h : pH} (hI : I h) (kk : ∀ h2, I h2 → JL X G Q lwK h2 1040 [(0, .ref b), (1, .ref (G.1 + 0)), (2, .ref (G.1 + 68)), (3, .int i3)] []) : JL X G Q lwK h 325 [(0, .ref b), (1, .ref (G.1 + 0)), (2, .ref (G.1 + 68)), (3, .int i3)] [] := by
  obtain ⟨q1, q2, e1, e2, e3, hI2⟩ := hst h (xs (i3 + 1).toNatClampNeg) (xs (i3 + 2).toNatClampNeg) (xs (i3 + 3).toNatClampNeg) (xs (i3 + 4).toNatClampNeg) (xs (i3 + 5).toNatClampNeg) hI
  refine jl_aload_n C 1 1 dL_law_325 rfl rfl ?_
  refine jl_aload_n C 0 0 dL_law_326 rfl rfl ?_
  refine jl_iload_n C 3 3 dL_law_327 rfl rfl ?_
  refine jl_iconst (v := 1) C dL_law_328 (by decide) ?_
  refine jl_iadd C dL_law_329 ?_
  refine jl_sld C S w1 dL_law_330 ?_
  refine jl_aload_n C 0 0 dL_law_331 rfl rfl ?_
  refine jl_iload_n C 3 3 dL_law_332 rfl rfl ?_
  refine jl_iconst (v := 2) C dL_law_333 (by decide) ?_
  refine jl_iadd C dL_law_334 ?_
  refine jl_sld C S w2 dL_law_335 ?_
  refine jl_aload_n C 0 0 dL_law_336 rfl rfl ?_
  refine jl_iload_n C 3 3 dL_law_337 rfl rfl ?_
  refine jl_iconst (v := 3) C dL_law_338 (by decide) ?_
  refine jl_iadd C dL_law_339 ?_
  refine jl_sld C S w3 dL_law_340 ?_
  refine jl_aload_n C 0 0 dL_law_341 rfl rfl ?_
  refine jl_iload_n C 3 3 dL_law_342 rfl rfl ?_
  refine jl_iconst (v := 4) C dL_law_343 (by decide) ?_
  refine jl_iadd C dL_law_344 ?_
  refine jl_sld C S w4 dL_law_345 ?_
  refine jl_aload_n C 0 0 dL_law_346 rfl rfl ?_
  refine jl_iload_n C 3 3 dL_law_347 rfl rfl ?_
  refine jl_iconst (v := 5) C dL_law_348 (by decide) ?_
  refine jl_iadd C dL_law_349 ?_
  refine jl_sld C S w5 dL_law_350 ?_
  refine jl_callV (a := 0) C [.int (xs (i3 + 1).toNatClampNeg), .int (xs (i3 + 2).toNatClampNeg), .int (xs (i3 + 3).toNatClampNeg), .int (xs (i3 + 4).toNatClampNeg), .int (xs (i3 + 5).toNatClampNeg)] lk_L_38 (mc_X7_row X.2.1 G F 91 e1) (o_X7_row e1) rfl rfl (Nat.le_of_ble_eq_true rfl) ⟨Nat.le_of_ble_eq_true rfl, Nat.le_of_ble_eq_true rfl⟩ ⟨Nat.le_of_ble_eq_true rfl, Nat.le_of_ble_eq_true rfl⟩ rfl dL_law_351 (show _ = lwK from rfl) rfl ?_
  refine jl_aload_n C 2 2 dL_law_354 rfl rfl ?_
  refine jl_aload_n C 0 0 dL_law_355 rfl rfl ?_
  refine jl_iload_n C 3 3 dL_law_356 rfl rfl ?_
  refine jl_iconst (v := 1) C dL_law_357 (by decide) ?_
  refine jl_iadd C dL_law_358 ?_
  refine jl_sld C S w1 dL_law_359 ?_
  refine jl_aload_n C 0 0 dL_law_360 rfl rfl ?_
  refine jl_iload_n C 3 3 dL_law_361 rfl rfl ?_
  refine jl_iconst (v := 2) C dL_law_362 (by decide) ?_
  refine jl_iadd C dL_law_363 ?_
  refine jl_sld C S w2 dL_law_364 ?_
  refine jl_aload_n C 0 0 dL_law_365 rfl rfl ?_
  refine jl_iload_n C 3 3 dL_law_366 rfl rfl ?_
  refine jl_iconst (v := 3) C dL_law_367 (by decide) ?_
  refine jl_iadd C dL_law_368 ?_
  refine jl_sld C S w3 dL_law_369 ?_
  refine jl_aload_n C 0 0 dL_law_370 rfl rfl ?_
  refine jl_iload_n C 3 3 dL_law_371 rfl rfl ?_
  refine jl_iconst (v := 4) C dL_law_372 (by decide) ?_
  refine jl_iadd C dL_law_373 ?_
  refine jl_sld C S w4 dL_law_374 ?_
  refine jl_aload_n C 0 0 dL_law_375 rfl rfl ?_
  refine jl_iload_n C 3 3 dL_law_376 rfl rfl ?_
  refine jl_iconst (v := 5) C dL_law_377 (by decide) ?_
  refine jl_iadd C dL_law_378 ?_
  refine jl_sld C S w5 dL_law_379 ?_
  refine jl_callV (a := 68) C [.int (xs (i3 + 1).toNatClampNeg), .int (xs (i3 + 2).toNatClampNeg), .int (xs (i3 + 3).toNatClampNeg), .int (xs (i3 + 4).toNatClampNeg), .int (xs (i3 + 5).toNatClampNeg)] lk_L_42 (mc_X8_row X.2.1 G F 91 e2) (o_X8_row e2) rfl rfl (Nat.le_of_ble_eq_true rfl) ⟨Nat.le_of_ble_eq_true rfl, Nat.le_of_ble_eq_true rfl⟩ ⟨Nat.le_of_ble_eq_true rfl, Nat.le_of_ble_eq_true rfl⟩ rfl dL_law_380 (show _ = lwK from rfl) rfl ?_
  refine jl_icmp_eq (tgt := 1040) C dL_law_383 (by decide) (fun _ => kk _ hI2) (fun q => absurd e3 q)
def st_over (I : pH → Prop) (F : Nat) : Prop := ∀ (h : pH) (a1 a2 : Int32), I h → ∃ (q1 : Int32) (q2 : Int32), x_X7_over F h 0 a1 a2 = some q1 ∧ x_X8_over F h 68 a1 a2 = some q2 ∧ q1 = q2 ∧ I h
set_option maxRecDepth 10000 in
theorem law_over {X : pX} {G : pG} {Q : State → Prop} {b N : Nat} {xs : Nat → Int32} {I : pH → Prop} {F : Nat} (C : Cx X G RL cL_law 4 room_1 0 (some .boolean)) (S : Sx X G b N xs) (hst : st_over I F) {i3 : Int32} (w1 : vp_in (i3 + 1) N) (w2 : vp_in (i3 + 2) N) {h : pH} (hI : I h) (kk : ∀ h2, I h2 → JL X G Q lwK h2 1040 [(0, .ref b), (1, .ref (G.1 + 0)), (2, .ref (G.1 + 68)), (3, .int i3)] []) : JL X G Q lwK h 388 [(0, .ref b), (1, .ref (G.1 + 0)), (2, .ref (G.1 + 68)), (3, .int i3)] [] := by
  obtain ⟨q1, q2, e1, e2, e3, hI2⟩ := hst h (xs (i3 + 1).toNatClampNeg) (xs (i3 + 2).toNatClampNeg) hI
  refine jl_aload_n C 1 1 dL_law_388 rfl rfl ?_
  refine jl_aload_n C 0 0 dL_law_389 rfl rfl ?_
  refine jl_iload_n C 3 3 dL_law_390 rfl rfl ?_
  refine jl_iconst (v := 1) C dL_law_391 (by decide) ?_
  refine jl_iadd C dL_law_392 ?_
  refine jl_sld C S w1 dL_law_393 ?_
  refine jl_aload_n C 0 0 dL_law_394 rfl rfl ?_
  refine jl_iload_n C 3 3 dL_law_395 rfl rfl ?_
  refine jl_iconst (v := 2) C dL_law_396 (by decide) ?_
  refine jl_iadd C dL_law_397 ?_
  refine jl_sld C S w2 dL_law_398 ?_
  refine jl_callV (a := 0) C [.int (xs (i3 + 1).toNatClampNeg), .int (xs (i3 + 2).toNatClampNeg)] lk_L_43 (mc_X7_over X.2.1 G F 91 e1) (o_X7_over e1) rfl rfl (Nat.le_of_ble_eq_true rfl) ⟨Nat.le_of_ble_eq_true rfl, Nat.le_of_ble_eq_true rfl⟩ ⟨Nat.le_of_ble_eq_true rfl, Nat.le_of_ble_eq_true rfl⟩ rfl dL_law_399 (show _ = lwK from rfl) rfl ?_
  refine jl_aload_n C 2 2 dL_law_402 rfl rfl ?_
  refine jl_aload_n C 0 0 dL_law_403 rfl rfl ?_
  refine jl_iload_n C 3 3 dL_law_404 rfl rfl ?_
  refine jl_iconst (v := 1) C dL_law_405 (by decide) ?_
  refine jl_iadd C dL_law_406 ?_
  refine jl_sld C S w1 dL_law_407 ?_
  refine jl_aload_n C 0 0 dL_law_408 rfl rfl ?_
  refine jl_iload_n C 3 3 dL_law_409 rfl rfl ?_
  refine jl_iconst (v := 2) C dL_law_410 (by decide) ?_
  refine jl_iadd C dL_law_411 ?_
  refine jl_sld C S w2 dL_law_412 ?_
  refine jl_callV (a := 68) C [.int (xs (i3 + 1).toNatClampNeg), .int (xs (i3 + 2).toNatClampNeg)] lk_L_46 (mc_X8_over X.2.1 G F 91 e2) (o_X8_over e2) rfl rfl (Nat.le_of_ble_eq_true rfl) ⟨Nat.le_of_ble_eq_true rfl, Nat.le_of_ble_eq_true rfl⟩ ⟨Nat.le_of_ble_eq_true rfl, Nat.le_of_ble_eq_true rfl⟩ rfl dL_law_413 (show _ = lwK from rfl) rfl ?_
  refine jl_icmp_eq (tgt := 1040) C dL_law_416 (by decide) (fun _ => kk _ hI2) (fun q => absurd e3 q)
def st_all (I : pH → Prop) (F : Nat) : Prop := ∀ (h : pH) (a1 : Int32), I h → ∃ (q1 : (Int32 × pH)) (q2 : (Int32 × pH)), x_X7_all F h 0 a1 = some q1 ∧ x_X8_all F q1.2 68 a1 = some q2 ∧ q1.1 = q2.1 ∧ I q2.2
set_option maxRecDepth 10000 in
theorem law_all {X : pX} {G : pG} {Q : State → Prop} {b N : Nat} {xs : Nat → Int32} {I : pH → Prop} {F : Nat} (C : Cx X G RL cL_law 4 room_1 0 (some .boolean)) (S : Sx X G b N xs) (hst : st_all I F) {i3 : Int32} (w1 : vp_in (i3 + 1) N) {h : pH} (hI : I h) (kk : ∀ h2, I h2 → JL X G Q lwK h2 1040 [(0, .ref b), (1, .ref (G.1 + 0)), (2, .ref (G.1 + 68)), (3, .int i3)] []) : JL X G Q lwK h 421 [(0, .ref b), (1, .ref (G.1 + 0)), (2, .ref (G.1 + 68)), (3, .int i3)] [] := by
  obtain ⟨q1, q2, e1, e2, e3, hI2⟩ := hst h (xs (i3 + 1).toNatClampNeg) hI
  refine jl_aload_n C 1 1 dL_law_421 rfl rfl ?_
  refine jl_aload_n C 0 0 dL_law_422 rfl rfl ?_
  refine jl_iload_n C 3 3 dL_law_423 rfl rfl ?_
  refine jl_iconst (v := 1) C dL_law_424 (by decide) ?_
  refine jl_iadd C dL_law_425 ?_
  refine jl_sld C S w1 dL_law_426 ?_
  refine jl_callV (a := 0) C [.int (xs (i3 + 1).toNatClampNeg)] lk_L_47 (mc_X7_all X.2.1 G F 91 e1) (o_X7_all e1) rfl rfl (Nat.le_of_ble_eq_true rfl) ⟨Nat.le_of_ble_eq_true rfl, Nat.le_of_ble_eq_true rfl⟩ ⟨Nat.le_of_ble_eq_true rfl, Nat.le_of_ble_eq_true rfl⟩ rfl dL_law_427 (show _ = lwK from rfl) rfl ?_
  refine jl_aload_n C 2 2 dL_law_430 rfl rfl ?_
  refine jl_aload_n C 0 0 dL_law_431 rfl rfl ?_
  refine jl_iload_n C 3 3 dL_law_432 rfl rfl ?_
  refine jl_iconst (v := 1) C dL_law_433 (by decide) ?_
  refine jl_iadd C dL_law_434 ?_
  refine jl_sld C S w1 dL_law_435 ?_
  refine jl_callV (a := 68) C [.int (xs (i3 + 1).toNatClampNeg)] lk_L_50 (mc_X8_all X.2.1 G F 91 e2) (o_X8_all e2) rfl rfl (Nat.le_of_ble_eq_true rfl) ⟨Nat.le_of_ble_eq_true rfl, Nat.le_of_ble_eq_true rfl⟩ ⟨Nat.le_of_ble_eq_true rfl, Nat.le_of_ble_eq_true rfl⟩ rfl dL_law_436 (show _ = lwK from rfl) rfl ?_
  refine jl_icmp_eq (tgt := 1040) C dL_law_439 (by decide) (fun _ => kk _ hI2) (fun q => absurd e3 q)
def st_have (I : pH → Prop) (F : Nat) : Prop := ∀ (h : pH) (a1 : Int32), I h → ∃ (q1 : (Int64 × pH)) (q2 : (Int64 × pH)), x_X7_have F h 0 a1 = some q1 ∧ x_X8_have F q1.2 68 a1 = some q2 ∧ q1.1 = q2.1 ∧ I q2.2
set_option maxRecDepth 10000 in
theorem law_have {X : pX} {G : pG} {Q : State → Prop} {b N : Nat} {xs : Nat → Int32} {I : pH → Prop} {F : Nat} (C : Cx X G RL cL_law 4 room_1 0 (some .boolean)) (S : Sx X G b N xs) (hst : st_have I F) {i3 : Int32} (w1 : vp_in (i3 + 1) N) {h : pH} (hI : I h) (kk : ∀ h2, I h2 → JL X G Q lwK h2 1040 [(0, .ref b), (1, .ref (G.1 + 0)), (2, .ref (G.1 + 68)), (3, .int i3)] []) : JL X G Q lwK h 444 [(0, .ref b), (1, .ref (G.1 + 0)), (2, .ref (G.1 + 68)), (3, .int i3)] [] := by
  obtain ⟨q1, q2, e1, e2, e3, hI2⟩ := hst h (xs (i3 + 1).toNatClampNeg) hI
  refine jl_aload_n C 1 1 dL_law_444 rfl rfl ?_
  refine jl_aload_n C 0 0 dL_law_445 rfl rfl ?_
  refine jl_iload_n C 3 3 dL_law_446 rfl rfl ?_
  refine jl_iconst (v := 1) C dL_law_447 (by decide) ?_
  refine jl_iadd C dL_law_448 ?_
  refine jl_sld C S w1 dL_law_449 ?_
  refine jl_callV (a := 0) C [.int (xs (i3 + 1).toNatClampNeg)] lk_L_51 (mc_X7_have X.2.1 G F 91 e1) (o_X7_have e1) rfl rfl (Nat.le_of_ble_eq_true rfl) ⟨Nat.le_of_ble_eq_true rfl, Nat.le_of_ble_eq_true rfl⟩ ⟨Nat.le_of_ble_eq_true rfl, Nat.le_of_ble_eq_true rfl⟩ rfl dL_law_450 (show _ = lwK from rfl) rfl ?_
  refine jl_aload_n C 2 2 dL_law_453 rfl rfl ?_
  refine jl_aload_n C 0 0 dL_law_454 rfl rfl ?_
  refine jl_iload_n C 3 3 dL_law_455 rfl rfl ?_
  refine jl_iconst (v := 1) C dL_law_456 (by decide) ?_
  refine jl_iadd C dL_law_457 ?_
  refine jl_sld C S w1 dL_law_458 ?_
  refine jl_callV (a := 68) C [.int (xs (i3 + 1).toNatClampNeg)] lk_L_55 (mc_X8_have X.2.1 G F 91 e2) (o_X8_have e2) rfl rfl (Nat.le_of_ble_eq_true rfl) ⟨Nat.le_of_ble_eq_true rfl, Nat.le_of_ble_eq_true rfl⟩ ⟨Nat.le_of_ble_eq_true rfl, Nat.le_of_ble_eq_true rfl⟩ rfl dL_law_459 (show _ = lwK from rfl) rfl ?_
  refine jl_lcmp C dL_law_462 ?_
  refine jl_if_eq (tgt := 1040) C dL_law_463 (by decide) (fun _ => kk _ hI2) (fun q => absurd (by rw [e3]; exact lgc_self _) q)
def st_free (I : pH → Prop) (F : Nat) : Prop := ∀ (h : pH) (a1 : Int32), I h → ∃ (q1 : (Int64 × pH)) (q2 : (Int64 × pH)), x_X7_free F h 0 a1 = some q1 ∧ x_X8_free F q1.2 68 a1 = some q2 ∧ q1.1 = q2.1 ∧ I q2.2
set_option maxRecDepth 10000 in
theorem law_free {X : pX} {G : pG} {Q : State → Prop} {b N : Nat} {xs : Nat → Int32} {I : pH → Prop} {F : Nat} (C : Cx X G RL cL_law 4 room_1 0 (some .boolean)) (S : Sx X G b N xs) (hst : st_free I F) {i3 : Int32} (w1 : vp_in (i3 + 1) N) {h : pH} (hI : I h) (kk : ∀ h2, I h2 → JL X G Q lwK h2 1040 [(0, .ref b), (1, .ref (G.1 + 0)), (2, .ref (G.1 + 68)), (3, .int i3)] []) : JL X G Q lwK h 468 [(0, .ref b), (1, .ref (G.1 + 0)), (2, .ref (G.1 + 68)), (3, .int i3)] [] := by
  obtain ⟨q1, q2, e1, e2, e3, hI2⟩ := hst h (xs (i3 + 1).toNatClampNeg) hI
  refine jl_aload_n C 1 1 dL_law_468 rfl rfl ?_
  refine jl_aload_n C 0 0 dL_law_469 rfl rfl ?_
  refine jl_iload_n C 3 3 dL_law_470 rfl rfl ?_
  refine jl_iconst (v := 1) C dL_law_471 (by decide) ?_
  refine jl_iadd C dL_law_472 ?_
  refine jl_sld C S w1 dL_law_473 ?_
  refine jl_callV (a := 0) C [.int (xs (i3 + 1).toNatClampNeg)] lk_L_56 (mc_X7_free X.2.1 G F 91 e1) (o_X7_free e1) rfl rfl (Nat.le_of_ble_eq_true rfl) ⟨Nat.le_of_ble_eq_true rfl, Nat.le_of_ble_eq_true rfl⟩ ⟨Nat.le_of_ble_eq_true rfl, Nat.le_of_ble_eq_true rfl⟩ rfl dL_law_474 (show _ = lwK from rfl) rfl ?_
  refine jl_aload_n C 2 2 dL_law_477 rfl rfl ?_
  refine jl_aload_n C 0 0 dL_law_478 rfl rfl ?_
  refine jl_iload_n C 3 3 dL_law_479 rfl rfl ?_
  refine jl_iconst (v := 1) C dL_law_480 (by decide) ?_
  refine jl_iadd C dL_law_481 ?_
  refine jl_sld C S w1 dL_law_482 ?_
  refine jl_callV (a := 68) C [.int (xs (i3 + 1).toNatClampNeg)] lk_L_59 (mc_X8_free X.2.1 G F 91 e2) (o_X8_free e2) rfl rfl (Nat.le_of_ble_eq_true rfl) ⟨Nat.le_of_ble_eq_true rfl, Nat.le_of_ble_eq_true rfl⟩ ⟨Nat.le_of_ble_eq_true rfl, Nat.le_of_ble_eq_true rfl⟩ rfl dL_law_483 (show _ = lwK from rfl) rfl ?_
  refine jl_lcmp C dL_law_486 ?_
  refine jl_if_eq (tgt := 1040) C dL_law_487 (by decide) (fun _ => kk _ hI2) (fun q => absurd (by rw [e3]; exact lgc_self _) q)
def st_longest (I : pH → Prop) (F : Nat) : Prop := ∀ (h : pH), I h → ∃ (q1 : (Int32 × pH)) (q2 : (Int32 × pH)), x_X7_longest F h 0  = some q1 ∧ x_X8_longest F q1.2 68  = some q2 ∧ q1.1 = q2.1 ∧ I q2.2
set_option maxRecDepth 10000 in
theorem law_longest {X : pX} {G : pG} {Q : State → Prop} {b N : Nat} {xs : Nat → Int32} {I : pH → Prop} {F : Nat} (C : Cx X G RL cL_law 4 room_1 0 (some .boolean)) (S : Sx X G b N xs) (hst : st_longest I F) {i3 : Int32}  {h : pH} (hI : I h) (kk : ∀ h2, I h2 → JL X G Q lwK h2 1040 [(0, .ref b), (1, .ref (G.1 + 0)), (2, .ref (G.1 + 68)), (3, .int i3)] []) : JL X G Q lwK h 492 [(0, .ref b), (1, .ref (G.1 + 0)), (2, .ref (G.1 + 68)), (3, .int i3)] [] := by
  obtain ⟨q1, q2, e1, e2, e3, hI2⟩ := hst h  hI
  refine jl_aload_n C 1 1 dL_law_492 rfl rfl ?_
  refine jl_callV (a := 0) C [] lk_L_60 (mc_X7_longest X.2.1 G F 91 e1) (o_X7_longest e1) rfl rfl (Nat.le_of_ble_eq_true rfl) ⟨Nat.le_of_ble_eq_true rfl, Nat.le_of_ble_eq_true rfl⟩ ⟨Nat.le_of_ble_eq_true rfl, Nat.le_of_ble_eq_true rfl⟩ rfl dL_law_493 (show _ = lwK from rfl) rfl ?_
  refine jl_aload_n C 2 2 dL_law_496 rfl rfl ?_
  refine jl_callV (a := 68) C [] lk_L_63 (mc_X8_longest X.2.1 G F 91 e2) (o_X8_longest e2) rfl rfl (Nat.le_of_ble_eq_true rfl) ⟨Nat.le_of_ble_eq_true rfl, Nat.le_of_ble_eq_true rfl⟩ ⟨Nat.le_of_ble_eq_true rfl, Nat.le_of_ble_eq_true rfl⟩ rfl dL_law_497 (show _ = lwK from rfl) rfl ?_
  refine jl_icmp_eq (tgt := 1040) C dL_law_500 (by decide) (fun _ => kk _ hI2) (fun q => absurd e3 q)
def st_spare (I : pH → Prop) (F : Nat) : Prop := ∀ (h : pH), I h → ∃ (q1 : (Int32 × pH)) (q2 : (Int32 × pH)), x_X7_spare F h 0  = some q1 ∧ x_X8_spare F q1.2 68  = some q2 ∧ q1.1 = q2.1 ∧ I q2.2
set_option maxRecDepth 10000 in
theorem law_spare {X : pX} {G : pG} {Q : State → Prop} {b N : Nat} {xs : Nat → Int32} {I : pH → Prop} {F : Nat} (C : Cx X G RL cL_law 4 room_1 0 (some .boolean)) (S : Sx X G b N xs) (hst : st_spare I F) {i3 : Int32}  {h : pH} (hI : I h) (kk : ∀ h2, I h2 → JL X G Q lwK h2 1040 [(0, .ref b), (1, .ref (G.1 + 0)), (2, .ref (G.1 + 68)), (3, .int i3)] []) : JL X G Q lwK h 505 [(0, .ref b), (1, .ref (G.1 + 0)), (2, .ref (G.1 + 68)), (3, .int i3)] [] := by
  obtain ⟨q1, q2, e1, e2, e3, hI2⟩ := hst h  hI
  refine jl_aload_n C 1 1 dL_law_505 rfl rfl ?_
  refine jl_callV (a := 0) C [] lk_L_64 (mc_X7_spare X.2.1 G F 91 e1) (o_X7_spare e1) rfl rfl (Nat.le_of_ble_eq_true rfl) ⟨Nat.le_of_ble_eq_true rfl, Nat.le_of_ble_eq_true rfl⟩ ⟨Nat.le_of_ble_eq_true rfl, Nat.le_of_ble_eq_true rfl⟩ rfl dL_law_506 (show _ = lwK from rfl) rfl ?_
  refine jl_aload_n C 2 2 dL_law_509 rfl rfl ?_
  refine jl_callV (a := 68) C [] lk_L_67 (mc_X8_spare X.2.1 G F 91 e2) (o_X8_spare e2) rfl rfl (Nat.le_of_ble_eq_true rfl) ⟨Nat.le_of_ble_eq_true rfl, Nat.le_of_ble_eq_true rfl⟩ ⟨Nat.le_of_ble_eq_true rfl, Nat.le_of_ble_eq_true rfl⟩ rfl dL_law_510 (show _ = lwK from rfl) rfl ?_
  refine jl_icmp_eq (tgt := 1040) C dL_law_513 (by decide) (fun _ => kk _ hI2) (fun q => absurd e3 q)
def st_reading (I : pH → Prop) (F : Nat) : Prop := ∀ (h : pH) (a1 a2 a3 a4 a5 a6 : Int32), I h → ∃ (q1 : (Int32 × pH)) (q2 : (Int32 × pH)), x_X7_reading F h 0 a1 a2 a3 a4 a5 a6 = some q1 ∧ x_X8_reading F q1.2 68 a1 a2 a3 a4 a5 a6 = some q2 ∧ q1.1 = q2.1 ∧ I q2.2
set_option maxRecDepth 10000 in
theorem law_reading {X : pX} {G : pG} {Q : State → Prop} {b N : Nat} {xs : Nat → Int32} {I : pH → Prop} {F : Nat} (C : Cx X G RL cL_law 4 room_1 0 (some .boolean)) (S : Sx X G b N xs) (hst : st_reading I F) {i3 : Int32} (w1 : vp_in (i3 + 1) N) (w2 : vp_in (i3 + 2) N) (w3 : vp_in (i3 + 3) N) (w4 : vp_in (i3 + 4) N) (w5 : vp_in (i3 + 5) N) (w6 : vp_in (i3 + 6) N) {h : pH} (hI : I h) (kk : ∀ h2, I h2 → JL X G Q lwK h2 1040 [(0, .ref b), (1, .ref (G.1 + 0)), (2, .ref (G.1 + 68)), (3, .int i3)] []) : JL X G Q lwK h 518 [(0, .ref b), (1, .ref (G.1 + 0)), (2, .ref (G.1 + 68)), (3, .int i3)] [] := by
  obtain ⟨q1, q2, e1, e2, e3, hI2⟩ := hst h (xs (i3 + 1).toNatClampNeg) (xs (i3 + 2).toNatClampNeg) (xs (i3 + 3).toNatClampNeg) (xs (i3 + 4).toNatClampNeg) (xs (i3 + 5).toNatClampNeg) (xs (i3 + 6).toNatClampNeg) hI
  refine jl_aload_n C 1 1 dL_law_518 rfl rfl ?_
  refine jl_aload_n C 0 0 dL_law_519 rfl rfl ?_
  refine jl_iload_n C 3 3 dL_law_520 rfl rfl ?_
  refine jl_iconst (v := 1) C dL_law_521 (by decide) ?_
  refine jl_iadd C dL_law_522 ?_
  refine jl_sld C S w1 dL_law_523 ?_
  refine jl_aload_n C 0 0 dL_law_524 rfl rfl ?_
  refine jl_iload_n C 3 3 dL_law_525 rfl rfl ?_
  refine jl_iconst (v := 2) C dL_law_526 (by decide) ?_
  refine jl_iadd C dL_law_527 ?_
  refine jl_sld C S w2 dL_law_528 ?_
  refine jl_aload_n C 0 0 dL_law_529 rfl rfl ?_
  refine jl_iload_n C 3 3 dL_law_530 rfl rfl ?_
  refine jl_iconst (v := 3) C dL_law_531 (by decide) ?_
  refine jl_iadd C dL_law_532 ?_
  refine jl_sld C S w3 dL_law_533 ?_
  refine jl_aload_n C 0 0 dL_law_534 rfl rfl ?_
  refine jl_iload_n C 3 3 dL_law_535 rfl rfl ?_
  refine jl_iconst (v := 4) C dL_law_536 (by decide) ?_
  refine jl_iadd C dL_law_537 ?_
  refine jl_sld C S w4 dL_law_538 ?_
  refine jl_aload_n C 0 0 dL_law_539 rfl rfl ?_
  refine jl_iload_n C 3 3 dL_law_540 rfl rfl ?_
  refine jl_iconst (v := 5) C dL_law_541 (by decide) ?_
  refine jl_iadd C dL_law_542 ?_
  refine jl_sld C S w5 dL_law_543 ?_
  refine jl_aload_n C 0 0 dL_law_544 rfl rfl ?_
  refine jl_iload_n C 3 3 dL_law_545 rfl rfl ?_
  refine jl_bipush (v := 6) C dL_law_546 (by decide) ?_
  refine jl_iadd C dL_law_548 ?_
  refine jl_sld C S w6 dL_law_549 ?_
  refine jl_callV (a := 0) C [.int (xs (i3 + 1).toNatClampNeg), .int (xs (i3 + 2).toNatClampNeg), .int (xs (i3 + 3).toNatClampNeg), .int (xs (i3 + 4).toNatClampNeg), .int (xs (i3 + 5).toNatClampNeg), .int (xs (i3 + 6).toNatClampNeg)] lk_L_68 (mc_X7_reading X.2.1 G F 91 e1) (o_X7_reading e1) rfl rfl (Nat.le_of_ble_eq_true rfl) ⟨Nat.le_of_ble_eq_true rfl, Nat.le_of_ble_eq_true rfl⟩ ⟨Nat.le_of_ble_eq_true rfl, Nat.le_of_ble_eq_true rfl⟩ rfl dL_law_550 (show _ = lwK from rfl) rfl ?_
  refine jl_aload_n C 2 2 dL_law_553 rfl rfl ?_
  refine jl_aload_n C 0 0 dL_law_554 rfl rfl ?_
  refine jl_iload_n C 3 3 dL_law_555 rfl rfl ?_
  refine jl_iconst (v := 1) C dL_law_556 (by decide) ?_
  refine jl_iadd C dL_law_557 ?_
  refine jl_sld C S w1 dL_law_558 ?_
  refine jl_aload_n C 0 0 dL_law_559 rfl rfl ?_
  refine jl_iload_n C 3 3 dL_law_560 rfl rfl ?_
  refine jl_iconst (v := 2) C dL_law_561 (by decide) ?_
  refine jl_iadd C dL_law_562 ?_
  refine jl_sld C S w2 dL_law_563 ?_
  refine jl_aload_n C 0 0 dL_law_564 rfl rfl ?_
  refine jl_iload_n C 3 3 dL_law_565 rfl rfl ?_
  refine jl_iconst (v := 3) C dL_law_566 (by decide) ?_
  refine jl_iadd C dL_law_567 ?_
  refine jl_sld C S w3 dL_law_568 ?_
  refine jl_aload_n C 0 0 dL_law_569 rfl rfl ?_
  refine jl_iload_n C 3 3 dL_law_570 rfl rfl ?_
  refine jl_iconst (v := 4) C dL_law_571 (by decide) ?_
  refine jl_iadd C dL_law_572 ?_
  refine jl_sld C S w4 dL_law_573 ?_
  refine jl_aload_n C 0 0 dL_law_574 rfl rfl ?_
  refine jl_iload_n C 3 3 dL_law_575 rfl rfl ?_
  refine jl_iconst (v := 5) C dL_law_576 (by decide) ?_
  refine jl_iadd C dL_law_577 ?_
  refine jl_sld C S w5 dL_law_578 ?_
  refine jl_aload_n C 0 0 dL_law_579 rfl rfl ?_
  refine jl_iload_n C 3 3 dL_law_580 rfl rfl ?_
  refine jl_bipush (v := 6) C dL_law_581 (by decide) ?_
  refine jl_iadd C dL_law_583 ?_
  refine jl_sld C S w6 dL_law_584 ?_
  refine jl_callV (a := 68) C [.int (xs (i3 + 1).toNatClampNeg), .int (xs (i3 + 2).toNatClampNeg), .int (xs (i3 + 3).toNatClampNeg), .int (xs (i3 + 4).toNatClampNeg), .int (xs (i3 + 5).toNatClampNeg), .int (xs (i3 + 6).toNatClampNeg)] lk_L_72 (mc_X8_reading X.2.1 G F 91 e2) (o_X8_reading e2) rfl rfl (Nat.le_of_ble_eq_true rfl) ⟨Nat.le_of_ble_eq_true rfl, Nat.le_of_ble_eq_true rfl⟩ ⟨Nat.le_of_ble_eq_true rfl, Nat.le_of_ble_eq_true rfl⟩ rfl dL_law_585 (show _ = lwK from rfl) rfl ?_
  refine jl_icmp_eq (tgt := 1040) C dL_law_588 (by decide) (fun _ => kk _ hI2) (fun q => absurd e3 q)
def st_back (I : pH → Prop) (F : Nat) : Prop := ∀ (h : pH) (a1 : Int32), I h → ∃ (q1 : (Int32 × pH)) (q2 : (Int32 × pH)), x_X7_back F h 0 a1 = some q1 ∧ x_X8_back F q1.2 68 a1 = some q2 ∧ q1.1 = q2.1 ∧ I q2.2
set_option maxRecDepth 10000 in
theorem law_back {X : pX} {G : pG} {Q : State → Prop} {b N : Nat} {xs : Nat → Int32} {I : pH → Prop} {F : Nat} (C : Cx X G RL cL_law 4 room_1 0 (some .boolean)) (S : Sx X G b N xs) (hst : st_back I F) {i3 : Int32} (w1 : vp_in (i3 + 1) N) {h : pH} (hI : I h) (kk : ∀ h2, I h2 → JL X G Q lwK h2 1040 [(0, .ref b), (1, .ref (G.1 + 0)), (2, .ref (G.1 + 68)), (3, .int i3)] []) : JL X G Q lwK h 593 [(0, .ref b), (1, .ref (G.1 + 0)), (2, .ref (G.1 + 68)), (3, .int i3)] [] := by
  obtain ⟨q1, q2, e1, e2, e3, hI2⟩ := hst h (xs (i3 + 1).toNatClampNeg) hI
  refine jl_aload_n C 1 1 dL_law_593 rfl rfl ?_
  refine jl_aload_n C 0 0 dL_law_594 rfl rfl ?_
  refine jl_iload_n C 3 3 dL_law_595 rfl rfl ?_
  refine jl_iconst (v := 1) C dL_law_596 (by decide) ?_
  refine jl_iadd C dL_law_597 ?_
  refine jl_sld C S w1 dL_law_598 ?_
  refine jl_callV (a := 0) C [.int (xs (i3 + 1).toNatClampNeg)] lk_L_73 (mc_X7_back X.2.1 G F 91 e1) (o_X7_back e1) rfl rfl (Nat.le_of_ble_eq_true rfl) ⟨Nat.le_of_ble_eq_true rfl, Nat.le_of_ble_eq_true rfl⟩ ⟨Nat.le_of_ble_eq_true rfl, Nat.le_of_ble_eq_true rfl⟩ rfl dL_law_599 (show _ = lwK from rfl) rfl ?_
  refine jl_aload_n C 2 2 dL_law_602 rfl rfl ?_
  refine jl_aload_n C 0 0 dL_law_603 rfl rfl ?_
  refine jl_iload_n C 3 3 dL_law_604 rfl rfl ?_
  refine jl_iconst (v := 1) C dL_law_605 (by decide) ?_
  refine jl_iadd C dL_law_606 ?_
  refine jl_sld C S w1 dL_law_607 ?_
  refine jl_callV (a := 68) C [.int (xs (i3 + 1).toNatClampNeg)] lk_L_76 (mc_X8_back X.2.1 G F 91 e2) (o_X8_back e2) rfl rfl (Nat.le_of_ble_eq_true rfl) ⟨Nat.le_of_ble_eq_true rfl, Nat.le_of_ble_eq_true rfl⟩ ⟨Nat.le_of_ble_eq_true rfl, Nat.le_of_ble_eq_true rfl⟩ rfl dL_law_608 (show _ = lwK from rfl) rfl ?_
  refine jl_icmp_eq (tgt := 1040) C dL_law_611 (by decide) (fun _ => kk _ hI2) (fun q => absurd e3 q)
def st_kinds (I : pH → Prop) (F : Nat) : Prop := ∀ (h : pH) (a1 : Int32), I h → ∃ (q1 : (Int32 × pH)) (q2 : (Int32 × pH)), x_X7_kinds F h 0 a1 = some q1 ∧ x_X8_kinds F q1.2 68 a1 = some q2 ∧ q1.1 = q2.1 ∧ I q2.2
set_option maxRecDepth 10000 in
theorem law_kinds {X : pX} {G : pG} {Q : State → Prop} {b N : Nat} {xs : Nat → Int32} {I : pH → Prop} {F : Nat} (C : Cx X G RL cL_law 4 room_1 0 (some .boolean)) (S : Sx X G b N xs) (hst : st_kinds I F) {i3 : Int32} (w1 : vp_in (i3 + 1) N) {h : pH} (hI : I h) (kk : ∀ h2, I h2 → JL X G Q lwK h2 1040 [(0, .ref b), (1, .ref (G.1 + 0)), (2, .ref (G.1 + 68)), (3, .int i3)] []) : JL X G Q lwK h 616 [(0, .ref b), (1, .ref (G.1 + 0)), (2, .ref (G.1 + 68)), (3, .int i3)] [] := by
  obtain ⟨q1, q2, e1, e2, e3, hI2⟩ := hst h (xs (i3 + 1).toNatClampNeg) hI
  refine jl_aload_n C 1 1 dL_law_616 rfl rfl ?_
  refine jl_aload_n C 0 0 dL_law_617 rfl rfl ?_
  refine jl_iload_n C 3 3 dL_law_618 rfl rfl ?_
  refine jl_iconst (v := 1) C dL_law_619 (by decide) ?_
  refine jl_iadd C dL_law_620 ?_
  refine jl_sld C S w1 dL_law_621 ?_
  refine jl_callV (a := 0) C [.int (xs (i3 + 1).toNatClampNeg)] lk_L_77 (mc_X7_kinds X.2.1 G F 91 e1) (o_X7_kinds e1) rfl rfl (Nat.le_of_ble_eq_true rfl) ⟨Nat.le_of_ble_eq_true rfl, Nat.le_of_ble_eq_true rfl⟩ ⟨Nat.le_of_ble_eq_true rfl, Nat.le_of_ble_eq_true rfl⟩ rfl dL_law_622 (show _ = lwK from rfl) rfl ?_
  refine jl_aload_n C 2 2 dL_law_625 rfl rfl ?_
  refine jl_aload_n C 0 0 dL_law_626 rfl rfl ?_
  refine jl_iload_n C 3 3 dL_law_627 rfl rfl ?_
  refine jl_iconst (v := 1) C dL_law_628 (by decide) ?_
  refine jl_iadd C dL_law_629 ?_
  refine jl_sld C S w1 dL_law_630 ?_
  refine jl_callV (a := 68) C [.int (xs (i3 + 1).toNatClampNeg)] lk_L_80 (mc_X8_kinds X.2.1 G F 91 e2) (o_X8_kinds e2) rfl rfl (Nat.le_of_ble_eq_true rfl) ⟨Nat.le_of_ble_eq_true rfl, Nat.le_of_ble_eq_true rfl⟩ ⟨Nat.le_of_ble_eq_true rfl, Nat.le_of_ble_eq_true rfl⟩ rfl dL_law_631 (show _ = lwK from rfl) rfl ?_
  refine jl_icmp_eq (tgt := 1040) C dL_law_634 (by decide) (fun _ => kk _ hI2) (fun q => absurd e3 q)
def st_lasts (I : pH → Prop) (F : Nat) : Prop := ∀ (h : pH) (a1 : Int32), I h → ∃ (q1 : (Int32 × pH)) (q2 : (Int32 × pH)), x_X7_lasts F h 0 a1 = some q1 ∧ x_X8_lasts F q1.2 68 a1 = some q2 ∧ q1.1 = q2.1 ∧ I q2.2
set_option maxRecDepth 10000 in
theorem law_lasts {X : pX} {G : pG} {Q : State → Prop} {b N : Nat} {xs : Nat → Int32} {I : pH → Prop} {F : Nat} (C : Cx X G RL cL_law 4 room_1 0 (some .boolean)) (S : Sx X G b N xs) (hst : st_lasts I F) {i3 : Int32} (w1 : vp_in (i3 + 1) N) {h : pH} (hI : I h) (kk : ∀ h2, I h2 → JL X G Q lwK h2 1040 [(0, .ref b), (1, .ref (G.1 + 0)), (2, .ref (G.1 + 68)), (3, .int i3)] []) : JL X G Q lwK h 639 [(0, .ref b), (1, .ref (G.1 + 0)), (2, .ref (G.1 + 68)), (3, .int i3)] [] := by
  obtain ⟨q1, q2, e1, e2, e3, hI2⟩ := hst h (xs (i3 + 1).toNatClampNeg) hI
  refine jl_aload_n C 1 1 dL_law_639 rfl rfl ?_
  refine jl_aload_n C 0 0 dL_law_640 rfl rfl ?_
  refine jl_iload_n C 3 3 dL_law_641 rfl rfl ?_
  refine jl_iconst (v := 1) C dL_law_642 (by decide) ?_
  refine jl_iadd C dL_law_643 ?_
  refine jl_sld C S w1 dL_law_644 ?_
  refine jl_callV (a := 0) C [.int (xs (i3 + 1).toNatClampNeg)] lk_L_81 (mc_X7_lasts X.2.1 G F 91 e1) (o_X7_lasts e1) rfl rfl (Nat.le_of_ble_eq_true rfl) ⟨Nat.le_of_ble_eq_true rfl, Nat.le_of_ble_eq_true rfl⟩ ⟨Nat.le_of_ble_eq_true rfl, Nat.le_of_ble_eq_true rfl⟩ rfl dL_law_645 (show _ = lwK from rfl) rfl ?_
  refine jl_aload_n C 2 2 dL_law_648 rfl rfl ?_
  refine jl_aload_n C 0 0 dL_law_649 rfl rfl ?_
  refine jl_iload_n C 3 3 dL_law_650 rfl rfl ?_
  refine jl_iconst (v := 1) C dL_law_651 (by decide) ?_
  refine jl_iadd C dL_law_652 ?_
  refine jl_sld C S w1 dL_law_653 ?_
  refine jl_callV (a := 68) C [.int (xs (i3 + 1).toNatClampNeg)] lk_L_84 (mc_X8_lasts X.2.1 G F 91 e2) (o_X8_lasts e2) rfl rfl (Nat.le_of_ble_eq_true rfl) ⟨Nat.le_of_ble_eq_true rfl, Nat.le_of_ble_eq_true rfl⟩ ⟨Nat.le_of_ble_eq_true rfl, Nat.le_of_ble_eq_true rfl⟩ rfl dL_law_654 (show _ = lwK from rfl) rfl ?_
  refine jl_icmp_eq (tgt := 1040) C dL_law_657 (by decide) (fun _ => kk _ hI2) (fun q => absurd e3 q)
def st_odds (I : pH → Prop) (F : Nat) : Prop := ∀ (h : pH) (a1 a2 : Int32), I h → ∃ (q1 : (Int64 × pH)) (q2 : (Int64 × pH)), x_X7_odds F h 0 a1 a2 = some q1 ∧ x_X8_odds F q1.2 68 a1 a2 = some q2 ∧ q1.1 = q2.1 ∧ I q2.2
set_option maxRecDepth 10000 in
theorem law_odds {X : pX} {G : pG} {Q : State → Prop} {b N : Nat} {xs : Nat → Int32} {I : pH → Prop} {F : Nat} (C : Cx X G RL cL_law 4 room_1 0 (some .boolean)) (S : Sx X G b N xs) (hst : st_odds I F) {i3 : Int32} (w1 : vp_in (i3 + 1) N) (w2 : vp_in (i3 + 2) N) {h : pH} (hI : I h) (kk : ∀ h2, I h2 → JL X G Q lwK h2 1040 [(0, .ref b), (1, .ref (G.1 + 0)), (2, .ref (G.1 + 68)), (3, .int i3)] []) : JL X G Q lwK h 662 [(0, .ref b), (1, .ref (G.1 + 0)), (2, .ref (G.1 + 68)), (3, .int i3)] [] := by
  obtain ⟨q1, q2, e1, e2, e3, hI2⟩ := hst h (xs (i3 + 1).toNatClampNeg) (xs (i3 + 2).toNatClampNeg) hI
  refine jl_aload_n C 1 1 dL_law_662 rfl rfl ?_
  refine jl_aload_n C 0 0 dL_law_663 rfl rfl ?_
  refine jl_iload_n C 3 3 dL_law_664 rfl rfl ?_
  refine jl_iconst (v := 1) C dL_law_665 (by decide) ?_
  refine jl_iadd C dL_law_666 ?_
  refine jl_sld C S w1 dL_law_667 ?_
  refine jl_aload_n C 0 0 dL_law_668 rfl rfl ?_
  refine jl_iload_n C 3 3 dL_law_669 rfl rfl ?_
  refine jl_iconst (v := 2) C dL_law_670 (by decide) ?_
  refine jl_iadd C dL_law_671 ?_
  refine jl_sld C S w2 dL_law_672 ?_
  refine jl_callV (a := 0) C [.int (xs (i3 + 1).toNatClampNeg), .int (xs (i3 + 2).toNatClampNeg)] lk_L_85 (mc_X7_odds X.2.1 G F 91 e1) (o_X7_odds e1) rfl rfl (Nat.le_of_ble_eq_true rfl) ⟨Nat.le_of_ble_eq_true rfl, Nat.le_of_ble_eq_true rfl⟩ ⟨Nat.le_of_ble_eq_true rfl, Nat.le_of_ble_eq_true rfl⟩ rfl dL_law_673 (show _ = lwK from rfl) rfl ?_
  refine jl_aload_n C 2 2 dL_law_676 rfl rfl ?_
  refine jl_aload_n C 0 0 dL_law_677 rfl rfl ?_
  refine jl_iload_n C 3 3 dL_law_678 rfl rfl ?_
  refine jl_iconst (v := 1) C dL_law_679 (by decide) ?_
  refine jl_iadd C dL_law_680 ?_
  refine jl_sld C S w1 dL_law_681 ?_
  refine jl_aload_n C 0 0 dL_law_682 rfl rfl ?_
  refine jl_iload_n C 3 3 dL_law_683 rfl rfl ?_
  refine jl_iconst (v := 2) C dL_law_684 (by decide) ?_
  refine jl_iadd C dL_law_685 ?_
  refine jl_sld C S w2 dL_law_686 ?_
  refine jl_callV (a := 68) C [.int (xs (i3 + 1).toNatClampNeg), .int (xs (i3 + 2).toNatClampNeg)] lk_L_89 (mc_X8_odds X.2.1 G F 91 e2) (o_X8_odds e2) rfl rfl (Nat.le_of_ble_eq_true rfl) ⟨Nat.le_of_ble_eq_true rfl, Nat.le_of_ble_eq_true rfl⟩ ⟨Nat.le_of_ble_eq_true rfl, Nat.le_of_ble_eq_true rfl⟩ rfl dL_law_687 (show _ = lwK from rfl) rfl ?_
  refine jl_lcmp C dL_law_690 ?_
  refine jl_if_eq (tgt := 1040) C dL_law_691 (by decide) (fun _ => kk _ hI2) (fun q => absurd (by rw [e3]; exact lgc_self _) q)
def st_sheet (I : pH → Prop) (F : Nat) : Prop := ∀ (h : pH) (a1 a2 a3 : Int32), I h → ∃ (q1 : (Int32 × pH)) (q2 : (Int32 × pH)), x_X7_sheet F h 0 a1 a2 a3 = some q1 ∧ x_X8_sheet F q1.2 68 a1 a2 a3 = some q2 ∧ q1.1 = q2.1 ∧ I q2.2
set_option maxRecDepth 10000 in
theorem law_sheet {X : pX} {G : pG} {Q : State → Prop} {b N : Nat} {xs : Nat → Int32} {I : pH → Prop} {F : Nat} (C : Cx X G RL cL_law 4 room_1 0 (some .boolean)) (S : Sx X G b N xs) (hst : st_sheet I F) {i3 : Int32} (w1 : vp_in (i3 + 1) N) (w2 : vp_in (i3 + 2) N) (w3 : vp_in (i3 + 3) N) {h : pH} (hI : I h) (kk : ∀ h2, I h2 → JL X G Q lwK h2 1040 [(0, .ref b), (1, .ref (G.1 + 0)), (2, .ref (G.1 + 68)), (3, .int i3)] []) : JL X G Q lwK h 696 [(0, .ref b), (1, .ref (G.1 + 0)), (2, .ref (G.1 + 68)), (3, .int i3)] [] := by
  obtain ⟨q1, q2, e1, e2, e3, hI2⟩ := hst h (xs (i3 + 1).toNatClampNeg) (xs (i3 + 2).toNatClampNeg) (xs (i3 + 3).toNatClampNeg) hI
  refine jl_aload_n C 1 1 dL_law_696 rfl rfl ?_
  refine jl_aload_n C 0 0 dL_law_697 rfl rfl ?_
  refine jl_iload_n C 3 3 dL_law_698 rfl rfl ?_
  refine jl_iconst (v := 1) C dL_law_699 (by decide) ?_
  refine jl_iadd C dL_law_700 ?_
  refine jl_sld C S w1 dL_law_701 ?_
  refine jl_aload_n C 0 0 dL_law_702 rfl rfl ?_
  refine jl_iload_n C 3 3 dL_law_703 rfl rfl ?_
  refine jl_iconst (v := 2) C dL_law_704 (by decide) ?_
  refine jl_iadd C dL_law_705 ?_
  refine jl_sld C S w2 dL_law_706 ?_
  refine jl_aload_n C 0 0 dL_law_707 rfl rfl ?_
  refine jl_iload_n C 3 3 dL_law_708 rfl rfl ?_
  refine jl_iconst (v := 3) C dL_law_709 (by decide) ?_
  refine jl_iadd C dL_law_710 ?_
  refine jl_sld C S w3 dL_law_711 ?_
  refine jl_callV (a := 0) C [.int (xs (i3 + 1).toNatClampNeg), .int (xs (i3 + 2).toNatClampNeg), .int (xs (i3 + 3).toNatClampNeg)] lk_L_90 (mc_X7_sheet X.2.1 G F 91 e1) (o_X7_sheet e1) rfl rfl (Nat.le_of_ble_eq_true rfl) ⟨Nat.le_of_ble_eq_true rfl, Nat.le_of_ble_eq_true rfl⟩ ⟨Nat.le_of_ble_eq_true rfl, Nat.le_of_ble_eq_true rfl⟩ rfl dL_law_712 (show _ = lwK from rfl) rfl ?_
  refine jl_aload_n C 2 2 dL_law_715 rfl rfl ?_
  refine jl_aload_n C 0 0 dL_law_716 rfl rfl ?_
  refine jl_iload_n C 3 3 dL_law_717 rfl rfl ?_
  refine jl_iconst (v := 1) C dL_law_718 (by decide) ?_
  refine jl_iadd C dL_law_719 ?_
  refine jl_sld C S w1 dL_law_720 ?_
  refine jl_aload_n C 0 0 dL_law_721 rfl rfl ?_
  refine jl_iload_n C 3 3 dL_law_722 rfl rfl ?_
  refine jl_iconst (v := 2) C dL_law_723 (by decide) ?_
  refine jl_iadd C dL_law_724 ?_
  refine jl_sld C S w2 dL_law_725 ?_
  refine jl_aload_n C 0 0 dL_law_726 rfl rfl ?_
  refine jl_iload_n C 3 3 dL_law_727 rfl rfl ?_
  refine jl_iconst (v := 3) C dL_law_728 (by decide) ?_
  refine jl_iadd C dL_law_729 ?_
  refine jl_sld C S w3 dL_law_730 ?_
  refine jl_callV (a := 68) C [.int (xs (i3 + 1).toNatClampNeg), .int (xs (i3 + 2).toNatClampNeg), .int (xs (i3 + 3).toNatClampNeg)] lk_L_93 (mc_X8_sheet X.2.1 G F 91 e2) (o_X8_sheet e2) rfl rfl (Nat.le_of_ble_eq_true rfl) ⟨Nat.le_of_ble_eq_true rfl, Nat.le_of_ble_eq_true rfl⟩ ⟨Nat.le_of_ble_eq_true rfl, Nat.le_of_ble_eq_true rfl⟩ rfl dL_law_731 (show _ = lwK from rfl) rfl ?_
  refine jl_icmp_eq (tgt := 1040) C dL_law_734 (by decide) (fun _ => kk _ hI2) (fun q => absurd e3 q)
def st_lose (I : pH → Prop) (F : Nat) : Prop := ∀ (h : pH) (a1 : Int32), I h → ∃ (q1 : (Int32 × pH)) (q2 : (Int32 × pH)), x_X7_lose F h 0 a1 = some q1 ∧ x_X8_lose F q1.2 68 a1 = some q2 ∧ q1.1 = q2.1 ∧ I q2.2
set_option maxRecDepth 10000 in
theorem law_lose {X : pX} {G : pG} {Q : State → Prop} {b N : Nat} {xs : Nat → Int32} {I : pH → Prop} {F : Nat} (C : Cx X G RL cL_law 4 room_1 0 (some .boolean)) (S : Sx X G b N xs) (hst : st_lose I F) {i3 : Int32} (w1 : vp_in (i3 + 1) N) {h : pH} (hI : I h) (kk : ∀ h2, I h2 → JL X G Q lwK h2 1040 [(0, .ref b), (1, .ref (G.1 + 0)), (2, .ref (G.1 + 68)), (3, .int i3)] []) : JL X G Q lwK h 739 [(0, .ref b), (1, .ref (G.1 + 0)), (2, .ref (G.1 + 68)), (3, .int i3)] [] := by
  obtain ⟨q1, q2, e1, e2, e3, hI2⟩ := hst h (xs (i3 + 1).toNatClampNeg) hI
  refine jl_aload_n C 1 1 dL_law_739 rfl rfl ?_
  refine jl_aload_n C 0 0 dL_law_740 rfl rfl ?_
  refine jl_iload_n C 3 3 dL_law_741 rfl rfl ?_
  refine jl_iconst (v := 1) C dL_law_742 (by decide) ?_
  refine jl_iadd C dL_law_743 ?_
  refine jl_sld C S w1 dL_law_744 ?_
  refine jl_callV (a := 0) C [.int (xs (i3 + 1).toNatClampNeg)] lk_L_94 (mc_X7_lose X.2.1 G F 91 e1) (o_X7_lose e1) rfl rfl (Nat.le_of_ble_eq_true rfl) ⟨Nat.le_of_ble_eq_true rfl, Nat.le_of_ble_eq_true rfl⟩ ⟨Nat.le_of_ble_eq_true rfl, Nat.le_of_ble_eq_true rfl⟩ rfl dL_law_745 (show _ = lwK from rfl) rfl ?_
  refine jl_aload_n C 2 2 dL_law_748 rfl rfl ?_
  refine jl_aload_n C 0 0 dL_law_749 rfl rfl ?_
  refine jl_iload_n C 3 3 dL_law_750 rfl rfl ?_
  refine jl_iconst (v := 1) C dL_law_751 (by decide) ?_
  refine jl_iadd C dL_law_752 ?_
  refine jl_sld C S w1 dL_law_753 ?_
  refine jl_callV (a := 68) C [.int (xs (i3 + 1).toNatClampNeg)] lk_L_97 (mc_X8_lose X.2.1 G F 91 e2) (o_X8_lose e2) rfl rfl (Nat.le_of_ble_eq_true rfl) ⟨Nat.le_of_ble_eq_true rfl, Nat.le_of_ble_eq_true rfl⟩ ⟨Nat.le_of_ble_eq_true rfl, Nat.le_of_ble_eq_true rfl⟩ rfl dL_law_754 (show _ = lwK from rfl) rfl ?_
  refine jl_icmp_eq (tgt := 1040) C dL_law_757 (by decide) (fun _ => kk _ hI2) (fun q => absurd e3 q)
def st_put (I : pH → Prop) (F : Nat) : Prop := ∀ (h : pH) (a1 a2 a3 : Int32), I h → ∃ (q1 : (Int32 × pH)) (q2 : (Int32 × pH)), x_X7_put F h 0 a1 a2 a3 = some q1 ∧ x_X8_put F q1.2 68 a1 a2 a3 = some q2 ∧ q1.1 = q2.1 ∧ I q2.2
set_option maxRecDepth 10000 in
theorem law_put {X : pX} {G : pG} {Q : State → Prop} {b N : Nat} {xs : Nat → Int32} {I : pH → Prop} {F : Nat} (C : Cx X G RL cL_law 4 room_1 0 (some .boolean)) (S : Sx X G b N xs) (hst : st_put I F) {i3 : Int32} (w1 : vp_in (i3 + 1) N) (w2 : vp_in (i3 + 2) N) (w3 : vp_in (i3 + 3) N) {h : pH} (hI : I h) (kk : ∀ h2, I h2 → JL X G Q lwK h2 1040 [(0, .ref b), (1, .ref (G.1 + 0)), (2, .ref (G.1 + 68)), (3, .int i3)] []) : JL X G Q lwK h 762 [(0, .ref b), (1, .ref (G.1 + 0)), (2, .ref (G.1 + 68)), (3, .int i3)] [] := by
  obtain ⟨q1, q2, e1, e2, e3, hI2⟩ := hst h (xs (i3 + 1).toNatClampNeg) (xs (i3 + 2).toNatClampNeg) (xs (i3 + 3).toNatClampNeg) hI
  refine jl_aload_n C 1 1 dL_law_762 rfl rfl ?_
  refine jl_aload_n C 0 0 dL_law_763 rfl rfl ?_
  refine jl_iload_n C 3 3 dL_law_764 rfl rfl ?_
  refine jl_iconst (v := 1) C dL_law_765 (by decide) ?_
  refine jl_iadd C dL_law_766 ?_
  refine jl_sld C S w1 dL_law_767 ?_
  refine jl_aload_n C 0 0 dL_law_768 rfl rfl ?_
  refine jl_iload_n C 3 3 dL_law_769 rfl rfl ?_
  refine jl_iconst (v := 2) C dL_law_770 (by decide) ?_
  refine jl_iadd C dL_law_771 ?_
  refine jl_sld C S w2 dL_law_772 ?_
  refine jl_aload_n C 0 0 dL_law_773 rfl rfl ?_
  refine jl_iload_n C 3 3 dL_law_774 rfl rfl ?_
  refine jl_iconst (v := 3) C dL_law_775 (by decide) ?_
  refine jl_iadd C dL_law_776 ?_
  refine jl_sld C S w3 dL_law_777 ?_
  refine jl_callV (a := 0) C [.int (xs (i3 + 1).toNatClampNeg), .int (xs (i3 + 2).toNatClampNeg), .int (xs (i3 + 3).toNatClampNeg)] lk_L_98 (mc_X7_put X.2.1 G F 91 e1) (o_X7_put e1) rfl rfl (Nat.le_of_ble_eq_true rfl) ⟨Nat.le_of_ble_eq_true rfl, Nat.le_of_ble_eq_true rfl⟩ ⟨Nat.le_of_ble_eq_true rfl, Nat.le_of_ble_eq_true rfl⟩ rfl dL_law_778 (show _ = lwK from rfl) rfl ?_
  refine jl_aload_n C 2 2 dL_law_781 rfl rfl ?_
  refine jl_aload_n C 0 0 dL_law_782 rfl rfl ?_
  refine jl_iload_n C 3 3 dL_law_783 rfl rfl ?_
  refine jl_iconst (v := 1) C dL_law_784 (by decide) ?_
  refine jl_iadd C dL_law_785 ?_
  refine jl_sld C S w1 dL_law_786 ?_
  refine jl_aload_n C 0 0 dL_law_787 rfl rfl ?_
  refine jl_iload_n C 3 3 dL_law_788 rfl rfl ?_
  refine jl_iconst (v := 2) C dL_law_789 (by decide) ?_
  refine jl_iadd C dL_law_790 ?_
  refine jl_sld C S w2 dL_law_791 ?_
  refine jl_aload_n C 0 0 dL_law_792 rfl rfl ?_
  refine jl_iload_n C 3 3 dL_law_793 rfl rfl ?_
  refine jl_iconst (v := 3) C dL_law_794 (by decide) ?_
  refine jl_iadd C dL_law_795 ?_
  refine jl_sld C S w3 dL_law_796 ?_
  refine jl_callV (a := 68) C [.int (xs (i3 + 1).toNatClampNeg), .int (xs (i3 + 2).toNatClampNeg), .int (xs (i3 + 3).toNatClampNeg)] lk_L_101 (mc_X8_put X.2.1 G F 91 e2) (o_X8_put e2) rfl rfl (Nat.le_of_ble_eq_true rfl) ⟨Nat.le_of_ble_eq_true rfl, Nat.le_of_ble_eq_true rfl⟩ ⟨Nat.le_of_ble_eq_true rfl, Nat.le_of_ble_eq_true rfl⟩ rfl dL_law_797 (show _ = lwK from rfl) rfl ?_
  refine jl_icmp_eq (tgt := 1040) C dL_law_800 (by decide) (fun _ => kk _ hI2) (fun q => absurd e3 q)
def st_cell (I : pH → Prop) (F : Nat) : Prop := ∀ (h : pH) (a1 a2 a3 : Int32), I h → ∃ (q1 : (Int64 × pH)) (q2 : (Int64 × pH)), x_X7_cell F h 0 a1 a2 a3 = some q1 ∧ x_X8_cell F q1.2 68 a1 a2 a3 = some q2 ∧ q1.1 = q2.1 ∧ I q2.2
set_option maxRecDepth 10000 in
theorem law_cell {X : pX} {G : pG} {Q : State → Prop} {b N : Nat} {xs : Nat → Int32} {I : pH → Prop} {F : Nat} (C : Cx X G RL cL_law 4 room_1 0 (some .boolean)) (S : Sx X G b N xs) (hst : st_cell I F) {i3 : Int32} (w1 : vp_in (i3 + 1) N) (w2 : vp_in (i3 + 2) N) (w3 : vp_in (i3 + 3) N) {h : pH} (hI : I h) (kk : ∀ h2, I h2 → JL X G Q lwK h2 1040 [(0, .ref b), (1, .ref (G.1 + 0)), (2, .ref (G.1 + 68)), (3, .int i3)] []) : JL X G Q lwK h 805 [(0, .ref b), (1, .ref (G.1 + 0)), (2, .ref (G.1 + 68)), (3, .int i3)] [] := by
  obtain ⟨q1, q2, e1, e2, e3, hI2⟩ := hst h (xs (i3 + 1).toNatClampNeg) (xs (i3 + 2).toNatClampNeg) (xs (i3 + 3).toNatClampNeg) hI
  refine jl_aload_n C 1 1 dL_law_805 rfl rfl ?_
  refine jl_aload_n C 0 0 dL_law_806 rfl rfl ?_
  refine jl_iload_n C 3 3 dL_law_807 rfl rfl ?_
  refine jl_iconst (v := 1) C dL_law_808 (by decide) ?_
  refine jl_iadd C dL_law_809 ?_
  refine jl_sld C S w1 dL_law_810 ?_
  refine jl_aload_n C 0 0 dL_law_811 rfl rfl ?_
  refine jl_iload_n C 3 3 dL_law_812 rfl rfl ?_
  refine jl_iconst (v := 2) C dL_law_813 (by decide) ?_
  refine jl_iadd C dL_law_814 ?_
  refine jl_sld C S w2 dL_law_815 ?_
  refine jl_aload_n C 0 0 dL_law_816 rfl rfl ?_
  refine jl_iload_n C 3 3 dL_law_817 rfl rfl ?_
  refine jl_iconst (v := 3) C dL_law_818 (by decide) ?_
  refine jl_iadd C dL_law_819 ?_
  refine jl_sld C S w3 dL_law_820 ?_
  refine jl_callV (a := 0) C [.int (xs (i3 + 1).toNatClampNeg), .int (xs (i3 + 2).toNatClampNeg), .int (xs (i3 + 3).toNatClampNeg)] lk_L_102 (mc_X7_cell X.2.1 G F 91 e1) (o_X7_cell e1) rfl rfl (Nat.le_of_ble_eq_true rfl) ⟨Nat.le_of_ble_eq_true rfl, Nat.le_of_ble_eq_true rfl⟩ ⟨Nat.le_of_ble_eq_true rfl, Nat.le_of_ble_eq_true rfl⟩ rfl dL_law_821 (show _ = lwK from rfl) rfl ?_
  refine jl_aload_n C 2 2 dL_law_824 rfl rfl ?_
  refine jl_aload_n C 0 0 dL_law_825 rfl rfl ?_
  refine jl_iload_n C 3 3 dL_law_826 rfl rfl ?_
  refine jl_iconst (v := 1) C dL_law_827 (by decide) ?_
  refine jl_iadd C dL_law_828 ?_
  refine jl_sld C S w1 dL_law_829 ?_
  refine jl_aload_n C 0 0 dL_law_830 rfl rfl ?_
  refine jl_iload_n C 3 3 dL_law_831 rfl rfl ?_
  refine jl_iconst (v := 2) C dL_law_832 (by decide) ?_
  refine jl_iadd C dL_law_833 ?_
  refine jl_sld C S w2 dL_law_834 ?_
  refine jl_aload_n C 0 0 dL_law_835 rfl rfl ?_
  refine jl_iload_n C 3 3 dL_law_836 rfl rfl ?_
  refine jl_iconst (v := 3) C dL_law_837 (by decide) ?_
  refine jl_iadd C dL_law_838 ?_
  refine jl_sld C S w3 dL_law_839 ?_
  refine jl_callV (a := 68) C [.int (xs (i3 + 1).toNatClampNeg), .int (xs (i3 + 2).toNatClampNeg), .int (xs (i3 + 3).toNatClampNeg)] lk_L_106 (mc_X8_cell X.2.1 G F 91 e2) (o_X8_cell e2) rfl rfl (Nat.le_of_ble_eq_true rfl) ⟨Nat.le_of_ble_eq_true rfl, Nat.le_of_ble_eq_true rfl⟩ ⟨Nat.le_of_ble_eq_true rfl, Nat.le_of_ble_eq_true rfl⟩ rfl dL_law_840 (show _ = lwK from rfl) rfl ?_
  refine jl_lcmp C dL_law_843 ?_
  refine jl_if_eq (tgt := 1040) C dL_law_844 (by decide) (fun _ => kk _ hI2) (fun q => absurd (by rw [e3]; exact lgc_self _) q)
def st_copy (I : pH → Prop) (F : Nat) : Prop := ∀ (h : pH) (a1 a2 a3 a4 a5 : Int32), I h → ∃ (q1 : (Int32 × pH)) (q2 : (Int32 × pH)), x_X7_copy F h 0 a1 a2 a3 a4 a5 = some q1 ∧ x_X8_copy F q1.2 68 a1 a2 a3 a4 a5 = some q2 ∧ q1.1 = q2.1 ∧ I q2.2
set_option maxRecDepth 10000 in
theorem law_copy {X : pX} {G : pG} {Q : State → Prop} {b N : Nat} {xs : Nat → Int32} {I : pH → Prop} {F : Nat} (C : Cx X G RL cL_law 4 room_1 0 (some .boolean)) (S : Sx X G b N xs) (hst : st_copy I F) {i3 : Int32} (w1 : vp_in (i3 + 1) N) (w2 : vp_in (i3 + 2) N) (w3 : vp_in (i3 + 3) N) (w4 : vp_in (i3 + 4) N) (w5 : vp_in (i3 + 5) N) {h : pH} (hI : I h) (kk : ∀ h2, I h2 → JL X G Q lwK h2 1040 [(0, .ref b), (1, .ref (G.1 + 0)), (2, .ref (G.1 + 68)), (3, .int i3)] []) : JL X G Q lwK h 849 [(0, .ref b), (1, .ref (G.1 + 0)), (2, .ref (G.1 + 68)), (3, .int i3)] [] := by
  obtain ⟨q1, q2, e1, e2, e3, hI2⟩ := hst h (xs (i3 + 1).toNatClampNeg) (xs (i3 + 2).toNatClampNeg) (xs (i3 + 3).toNatClampNeg) (xs (i3 + 4).toNatClampNeg) (xs (i3 + 5).toNatClampNeg) hI
  refine jl_aload_n C 1 1 dL_law_849 rfl rfl ?_
  refine jl_aload_n C 0 0 dL_law_850 rfl rfl ?_
  refine jl_iload_n C 3 3 dL_law_851 rfl rfl ?_
  refine jl_iconst (v := 1) C dL_law_852 (by decide) ?_
  refine jl_iadd C dL_law_853 ?_
  refine jl_sld C S w1 dL_law_854 ?_
  refine jl_aload_n C 0 0 dL_law_855 rfl rfl ?_
  refine jl_iload_n C 3 3 dL_law_856 rfl rfl ?_
  refine jl_iconst (v := 2) C dL_law_857 (by decide) ?_
  refine jl_iadd C dL_law_858 ?_
  refine jl_sld C S w2 dL_law_859 ?_
  refine jl_aload_n C 0 0 dL_law_860 rfl rfl ?_
  refine jl_iload_n C 3 3 dL_law_861 rfl rfl ?_
  refine jl_iconst (v := 3) C dL_law_862 (by decide) ?_
  refine jl_iadd C dL_law_863 ?_
  refine jl_sld C S w3 dL_law_864 ?_
  refine jl_aload_n C 0 0 dL_law_865 rfl rfl ?_
  refine jl_iload_n C 3 3 dL_law_866 rfl rfl ?_
  refine jl_iconst (v := 4) C dL_law_867 (by decide) ?_
  refine jl_iadd C dL_law_868 ?_
  refine jl_sld C S w4 dL_law_869 ?_
  refine jl_aload_n C 0 0 dL_law_870 rfl rfl ?_
  refine jl_iload_n C 3 3 dL_law_871 rfl rfl ?_
  refine jl_iconst (v := 5) C dL_law_872 (by decide) ?_
  refine jl_iadd C dL_law_873 ?_
  refine jl_sld C S w5 dL_law_874 ?_
  refine jl_callV (a := 0) C [.int (xs (i3 + 1).toNatClampNeg), .int (xs (i3 + 2).toNatClampNeg), .int (xs (i3 + 3).toNatClampNeg), .int (xs (i3 + 4).toNatClampNeg), .int (xs (i3 + 5).toNatClampNeg)] lk_L_107 (mc_X7_copy X.2.1 G F 91 e1) (o_X7_copy e1) rfl rfl (Nat.le_of_ble_eq_true rfl) ⟨Nat.le_of_ble_eq_true rfl, Nat.le_of_ble_eq_true rfl⟩ ⟨Nat.le_of_ble_eq_true rfl, Nat.le_of_ble_eq_true rfl⟩ rfl dL_law_875 (show _ = lwK from rfl) rfl ?_
  refine jl_aload_n C 2 2 dL_law_878 rfl rfl ?_
  refine jl_aload_n C 0 0 dL_law_879 rfl rfl ?_
  refine jl_iload_n C 3 3 dL_law_880 rfl rfl ?_
  refine jl_iconst (v := 1) C dL_law_881 (by decide) ?_
  refine jl_iadd C dL_law_882 ?_
  refine jl_sld C S w1 dL_law_883 ?_
  refine jl_aload_n C 0 0 dL_law_884 rfl rfl ?_
  refine jl_iload_n C 3 3 dL_law_885 rfl rfl ?_
  refine jl_iconst (v := 2) C dL_law_886 (by decide) ?_
  refine jl_iadd C dL_law_887 ?_
  refine jl_sld C S w2 dL_law_888 ?_
  refine jl_aload_n C 0 0 dL_law_889 rfl rfl ?_
  refine jl_iload_n C 3 3 dL_law_890 rfl rfl ?_
  refine jl_iconst (v := 3) C dL_law_891 (by decide) ?_
  refine jl_iadd C dL_law_892 ?_
  refine jl_sld C S w3 dL_law_893 ?_
  refine jl_aload_n C 0 0 dL_law_894 rfl rfl ?_
  refine jl_iload_n C 3 3 dL_law_895 rfl rfl ?_
  refine jl_iconst (v := 4) C dL_law_896 (by decide) ?_
  refine jl_iadd C dL_law_897 ?_
  refine jl_sld C S w4 dL_law_898 ?_
  refine jl_aload_n C 0 0 dL_law_899 rfl rfl ?_
  refine jl_iload_n C 3 3 dL_law_900 rfl rfl ?_
  refine jl_iconst (v := 5) C dL_law_901 (by decide) ?_
  refine jl_iadd C dL_law_902 ?_
  refine jl_sld C S w5 dL_law_903 ?_
  refine jl_callV (a := 68) C [.int (xs (i3 + 1).toNatClampNeg), .int (xs (i3 + 2).toNatClampNeg), .int (xs (i3 + 3).toNatClampNeg), .int (xs (i3 + 4).toNatClampNeg), .int (xs (i3 + 5).toNatClampNeg)] lk_L_110 (mc_X8_copy X.2.1 G F 91 e2) (o_X8_copy e2) rfl rfl (Nat.le_of_ble_eq_true rfl) ⟨Nat.le_of_ble_eq_true rfl, Nat.le_of_ble_eq_true rfl⟩ ⟨Nat.le_of_ble_eq_true rfl, Nat.le_of_ble_eq_true rfl⟩ rfl dL_law_904 (show _ = lwK from rfl) rfl ?_
  refine jl_icmp_eq (tgt := 1040) C dL_law_907 (by decide) (fun _ => kk _ hI2) (fun q => absurd e3 q)
def st_tell (I : pH → Prop) (F : Nat) : Prop := ∀ (h : pH) (a1 : Int32), I h → ∃ (q1 : (Int32 × pH)) (q2 : (Int32 × pH)), x_X7_tell F h 0 a1 = some q1 ∧ x_X8_tell F q1.2 68 a1 = some q2 ∧ q1.1 = q2.1 ∧ I q2.2
set_option maxRecDepth 10000 in
theorem law_tell {X : pX} {G : pG} {Q : State → Prop} {b N : Nat} {xs : Nat → Int32} {I : pH → Prop} {F : Nat} (C : Cx X G RL cL_law 4 room_1 0 (some .boolean)) (S : Sx X G b N xs) (hst : st_tell I F) {i3 : Int32} (w1 : vp_in (i3 + 1) N) {h : pH} (hI : I h) (kk : ∀ h2, I h2 → JL X G Q lwK h2 1040 [(0, .ref b), (1, .ref (G.1 + 0)), (2, .ref (G.1 + 68)), (3, .int i3)] []) : JL X G Q lwK h 912 [(0, .ref b), (1, .ref (G.1 + 0)), (2, .ref (G.1 + 68)), (3, .int i3)] [] := by
  obtain ⟨q1, q2, e1, e2, e3, hI2⟩ := hst h (xs (i3 + 1).toNatClampNeg) hI
  refine jl_aload_n C 1 1 dL_law_912 rfl rfl ?_
  refine jl_aload_n C 0 0 dL_law_913 rfl rfl ?_
  refine jl_iload_n C 3 3 dL_law_914 rfl rfl ?_
  refine jl_iconst (v := 1) C dL_law_915 (by decide) ?_
  refine jl_iadd C dL_law_916 ?_
  refine jl_sld C S w1 dL_law_917 ?_
  refine jl_callV (a := 0) C [.int (xs (i3 + 1).toNatClampNeg)] lk_L_111 (mc_X7_tell X.2.1 G F 91 e1) (o_X7_tell e1) rfl rfl (Nat.le_of_ble_eq_true rfl) ⟨Nat.le_of_ble_eq_true rfl, Nat.le_of_ble_eq_true rfl⟩ ⟨Nat.le_of_ble_eq_true rfl, Nat.le_of_ble_eq_true rfl⟩ rfl dL_law_918 (show _ = lwK from rfl) rfl ?_
  refine jl_aload_n C 2 2 dL_law_921 rfl rfl ?_
  refine jl_aload_n C 0 0 dL_law_922 rfl rfl ?_
  refine jl_iload_n C 3 3 dL_law_923 rfl rfl ?_
  refine jl_iconst (v := 1) C dL_law_924 (by decide) ?_
  refine jl_iadd C dL_law_925 ?_
  refine jl_sld C S w1 dL_law_926 ?_
  refine jl_callV (a := 68) C [.int (xs (i3 + 1).toNatClampNeg)] lk_L_114 (mc_X8_tell X.2.1 G F 91 e2) (o_X8_tell e2) rfl rfl (Nat.le_of_ble_eq_true rfl) ⟨Nat.le_of_ble_eq_true rfl, Nat.le_of_ble_eq_true rfl⟩ ⟨Nat.le_of_ble_eq_true rfl, Nat.le_of_ble_eq_true rfl⟩ rfl dL_law_927 (show _ = lwK from rfl) rfl ?_
  refine jl_icmp_eq (tgt := 1040) C dL_law_930 (by decide) (fun _ => kk _ hI2) (fun q => absurd e3 q)
def st_spelt (I : pH → Prop) (F : Nat) : Prop := ∀ (h : pH) (a1 : Int32), I h → ∃ (q1 : (Int32 × pH)) (q2 : (Int32 × pH)), x_X7_spelt F h 0 a1 = some q1 ∧ x_X8_spelt F q1.2 68 a1 = some q2 ∧ q1.1 = q2.1 ∧ I q2.2
set_option maxRecDepth 10000 in
theorem law_spelt {X : pX} {G : pG} {Q : State → Prop} {b N : Nat} {xs : Nat → Int32} {I : pH → Prop} {F : Nat} (C : Cx X G RL cL_law 4 room_1 0 (some .boolean)) (S : Sx X G b N xs) (hst : st_spelt I F) {i3 : Int32} (w1 : vp_in (i3 + 1) N) {h : pH} (hI : I h) (kk : ∀ h2, I h2 → JL X G Q lwK h2 1040 [(0, .ref b), (1, .ref (G.1 + 0)), (2, .ref (G.1 + 68)), (3, .int i3)] []) : JL X G Q lwK h 935 [(0, .ref b), (1, .ref (G.1 + 0)), (2, .ref (G.1 + 68)), (3, .int i3)] [] := by
  obtain ⟨q1, q2, e1, e2, e3, hI2⟩ := hst h (xs (i3 + 1).toNatClampNeg) hI
  refine jl_aload_n C 1 1 dL_law_935 rfl rfl ?_
  refine jl_aload_n C 0 0 dL_law_936 rfl rfl ?_
  refine jl_iload_n C 3 3 dL_law_937 rfl rfl ?_
  refine jl_iconst (v := 1) C dL_law_938 (by decide) ?_
  refine jl_iadd C dL_law_939 ?_
  refine jl_sld C S w1 dL_law_940 ?_
  refine jl_callV (a := 0) C [.int (xs (i3 + 1).toNatClampNeg)] lk_L_115 (mc_X7_spelt X.2.1 G F 91 e1) (o_X7_spelt e1) rfl rfl (Nat.le_of_ble_eq_true rfl) ⟨Nat.le_of_ble_eq_true rfl, Nat.le_of_ble_eq_true rfl⟩ ⟨Nat.le_of_ble_eq_true rfl, Nat.le_of_ble_eq_true rfl⟩ rfl dL_law_941 (show _ = lwK from rfl) rfl ?_
  refine jl_aload_n C 2 2 dL_law_944 rfl rfl ?_
  refine jl_aload_n C 0 0 dL_law_945 rfl rfl ?_
  refine jl_iload_n C 3 3 dL_law_946 rfl rfl ?_
  refine jl_iconst (v := 1) C dL_law_947 (by decide) ?_
  refine jl_iadd C dL_law_948 ?_
  refine jl_sld C S w1 dL_law_949 ?_
  refine jl_callV (a := 68) C [.int (xs (i3 + 1).toNatClampNeg)] lk_L_118 (mc_X8_spelt X.2.1 G F 91 e2) (o_X8_spelt e2) rfl rfl (Nat.le_of_ble_eq_true rfl) ⟨Nat.le_of_ble_eq_true rfl, Nat.le_of_ble_eq_true rfl⟩ ⟨Nat.le_of_ble_eq_true rfl, Nat.le_of_ble_eq_true rfl⟩ rfl dL_law_950 (show _ = lwK from rfl) rfl ?_
  refine jl_icmp_eq (tgt := 1040) C dL_law_953 (by decide) (fun _ => kk _ hI2) (fun q => absurd e3 q)
def st_as (I : pH → Prop) (F : Nat) : Prop := ∀ (h : pH) (a1 a2 : Int32), I h → ∃ (q1 : (Int32 × pH)) (q2 : (Int32 × pH)), x_X7_as F h 0 a1 a2 = some q1 ∧ x_X8_as F q1.2 68 a1 a2 = some q2 ∧ q1.1 = q2.1 ∧ I q2.2
set_option maxRecDepth 10000 in
theorem law_as {X : pX} {G : pG} {Q : State → Prop} {b N : Nat} {xs : Nat → Int32} {I : pH → Prop} {F : Nat} (C : Cx X G RL cL_law 4 room_1 0 (some .boolean)) (S : Sx X G b N xs) (hst : st_as I F) {i3 : Int32} (w1 : vp_in (i3 + 1) N) (w2 : vp_in (i3 + 2) N) {h : pH} (hI : I h) (kk : ∀ h2, I h2 → JL X G Q lwK h2 1040 [(0, .ref b), (1, .ref (G.1 + 0)), (2, .ref (G.1 + 68)), (3, .int i3)] []) : JL X G Q lwK h 958 [(0, .ref b), (1, .ref (G.1 + 0)), (2, .ref (G.1 + 68)), (3, .int i3)] [] := by
  obtain ⟨q1, q2, e1, e2, e3, hI2⟩ := hst h (xs (i3 + 1).toNatClampNeg) (xs (i3 + 2).toNatClampNeg) hI
  refine jl_aload_n C 1 1 dL_law_958 rfl rfl ?_
  refine jl_aload_n C 0 0 dL_law_959 rfl rfl ?_
  refine jl_iload_n C 3 3 dL_law_960 rfl rfl ?_
  refine jl_iconst (v := 1) C dL_law_961 (by decide) ?_
  refine jl_iadd C dL_law_962 ?_
  refine jl_sld C S w1 dL_law_963 ?_
  refine jl_aload_n C 0 0 dL_law_964 rfl rfl ?_
  refine jl_iload_n C 3 3 dL_law_965 rfl rfl ?_
  refine jl_iconst (v := 2) C dL_law_966 (by decide) ?_
  refine jl_iadd C dL_law_967 ?_
  refine jl_sld C S w2 dL_law_968 ?_
  refine jl_callV (a := 0) C [.int (xs (i3 + 1).toNatClampNeg), .int (xs (i3 + 2).toNatClampNeg)] lk_L_119 (mc_X7_as X.2.1 G F 91 e1) (o_X7_as e1) rfl rfl (Nat.le_of_ble_eq_true rfl) ⟨Nat.le_of_ble_eq_true rfl, Nat.le_of_ble_eq_true rfl⟩ ⟨Nat.le_of_ble_eq_true rfl, Nat.le_of_ble_eq_true rfl⟩ rfl dL_law_969 (show _ = lwK from rfl) rfl ?_
  refine jl_aload_n C 2 2 dL_law_972 rfl rfl ?_
  refine jl_aload_n C 0 0 dL_law_973 rfl rfl ?_
  refine jl_iload_n C 3 3 dL_law_974 rfl rfl ?_
  refine jl_iconst (v := 1) C dL_law_975 (by decide) ?_
  refine jl_iadd C dL_law_976 ?_
  refine jl_sld C S w1 dL_law_977 ?_
  refine jl_aload_n C 0 0 dL_law_978 rfl rfl ?_
  refine jl_iload_n C 3 3 dL_law_979 rfl rfl ?_
  refine jl_iconst (v := 2) C dL_law_980 (by decide) ?_
  refine jl_iadd C dL_law_981 ?_
  refine jl_sld C S w2 dL_law_982 ?_
  refine jl_callV (a := 68) C [.int (xs (i3 + 1).toNatClampNeg), .int (xs (i3 + 2).toNatClampNeg)] lk_L_122 (mc_X8_as X.2.1 G F 91 e2) (o_X8_as e2) rfl rfl (Nat.le_of_ble_eq_true rfl) ⟨Nat.le_of_ble_eq_true rfl, Nat.le_of_ble_eq_true rfl⟩ ⟨Nat.le_of_ble_eq_true rfl, Nat.le_of_ble_eq_true rfl⟩ rfl dL_law_983 (show _ = lwK from rfl) rfl ?_
  refine jl_icmp_eq (tgt := 1040) C dL_law_986 (by decide) (fun _ => kk _ hI2) (fun q => absurd e3 q)
def st_trace (I : pH → Prop) (F : Nat) : Prop := ∀ (h : pH), I h → ∃ (q1 : Int32) (q2 : Int32), x_X7_trace F h 0  = some q1 ∧ x_X8_trace F h 68  = some q2 ∧ q1 = q2 ∧ I h
set_option maxRecDepth 10000 in
theorem law_trace {X : pX} {G : pG} {Q : State → Prop} {b N : Nat} {xs : Nat → Int32} {I : pH → Prop} {F : Nat} (C : Cx X G RL cL_law 4 room_1 0 (some .boolean)) (S : Sx X G b N xs) (hst : st_trace I F) {i3 : Int32}  {h : pH} (hI : I h) (kk : ∀ h2, I h2 → JL X G Q lwK h2 1040 [(0, .ref b), (1, .ref (G.1 + 0)), (2, .ref (G.1 + 68)), (3, .int i3)] []) : JL X G Q lwK h 991 [(0, .ref b), (1, .ref (G.1 + 0)), (2, .ref (G.1 + 68)), (3, .int i3)] [] := by
  obtain ⟨q1, q2, e1, e2, e3, hI2⟩ := hst h  hI
  refine jl_aload_n C 1 1 dL_law_991 rfl rfl ?_
  refine jl_callV (a := 0) C [] lk_L_123 (mc_X7_trace X.2.1 G F 91 e1) (o_X7_trace e1) rfl rfl (Nat.le_of_ble_eq_true rfl) ⟨Nat.le_of_ble_eq_true rfl, Nat.le_of_ble_eq_true rfl⟩ ⟨Nat.le_of_ble_eq_true rfl, Nat.le_of_ble_eq_true rfl⟩ rfl dL_law_992 (show _ = lwK from rfl) rfl ?_
  refine jl_aload_n C 2 2 dL_law_995 rfl rfl ?_
  refine jl_callV (a := 68) C [] lk_L_126 (mc_X8_trace X.2.1 G F 91 e2) (o_X8_trace e2) rfl rfl (Nat.le_of_ble_eq_true rfl) ⟨Nat.le_of_ble_eq_true rfl, Nat.le_of_ble_eq_true rfl⟩ ⟨Nat.le_of_ble_eq_true rfl, Nat.le_of_ble_eq_true rfl⟩ rfl dL_law_996 (show _ = lwK from rfl) rfl ?_
  refine jl_icmp_eq (tgt := 1040) C dL_law_999 (by decide) (fun _ => kk _ hI2) (fun q => absurd e3 q)
def st_fault (I : pH → Prop) (F : Nat) : Prop := ∀ (h : pH), I h → ∃ (q1 : Int32) (q2 : Int32), x_X7_fault F h 0  = some q1 ∧ x_X8_fault F h 68  = some q2 ∧ q1 = q2 ∧ I h
set_option maxRecDepth 10000 in
theorem law_fault {X : pX} {G : pG} {Q : State → Prop} {b N : Nat} {xs : Nat → Int32} {I : pH → Prop} {F : Nat} (C : Cx X G RL cL_law 4 room_1 0 (some .boolean)) (S : Sx X G b N xs) (hst : st_fault I F) {i3 : Int32}  {h : pH} (hI : I h) (kk : ∀ h2, I h2 → JL X G Q lwK h2 1040 [(0, .ref b), (1, .ref (G.1 + 0)), (2, .ref (G.1 + 68)), (3, .int i3)] []) : JL X G Q lwK h 1004 [(0, .ref b), (1, .ref (G.1 + 0)), (2, .ref (G.1 + 68)), (3, .int i3)] [] := by
  obtain ⟨q1, q2, e1, e2, e3, hI2⟩ := hst h  hI
  refine jl_aload_n C 1 1 dL_law_1004 rfl rfl ?_
  refine jl_callV (a := 0) C [] lk_L_127 (mc_X7_fault X.2.1 G F 91 e1) (o_X7_fault e1) rfl rfl (Nat.le_of_ble_eq_true rfl) ⟨Nat.le_of_ble_eq_true rfl, Nat.le_of_ble_eq_true rfl⟩ ⟨Nat.le_of_ble_eq_true rfl, Nat.le_of_ble_eq_true rfl⟩ rfl dL_law_1005 (show _ = lwK from rfl) rfl ?_
  refine jl_aload_n C 2 2 dL_law_1008 rfl rfl ?_
  refine jl_callV (a := 68) C [] lk_L_130 (mc_X8_fault X.2.1 G F 91 e2) (o_X8_fault e2) rfl rfl (Nat.le_of_ble_eq_true rfl) ⟨Nat.le_of_ble_eq_true rfl, Nat.le_of_ble_eq_true rfl⟩ ⟨Nat.le_of_ble_eq_true rfl, Nat.le_of_ble_eq_true rfl⟩ rfl dL_law_1009 (show _ = lwK from rfl) rfl ?_
  refine jl_icmp_eq (tgt := 1040) C dL_law_1012 (by decide) (fun _ => kk _ hI2) (fun q => absurd e3 q)
def st_many (I : pH → Prop) (F : Nat) : Prop := ∀ (h : pH) (a1 : Int32), I h → ∃ (q1 : Int32) (q2 : (Int32 × pH)), x_X7_many F h 0 a1 = some q1 ∧ x_X8_many F h 68 a1 = some q2 ∧ q1 = q2.1 ∧ I q2.2
set_option maxRecDepth 10000 in
theorem law_many {X : pX} {G : pG} {Q : State → Prop} {b N : Nat} {xs : Nat → Int32} {I : pH → Prop} {F : Nat} (C : Cx X G RL cL_law 4 room_1 0 (some .boolean)) (S : Sx X G b N xs) (hst : st_many I F) {i3 : Int32} (w1 : vp_in (i3 + 1) N) {h : pH} (hI : I h) (kk : ∀ h2, I h2 → JL X G Q lwK h2 1040 [(0, .ref b), (1, .ref (G.1 + 0)), (2, .ref (G.1 + 68)), (3, .int i3)] []) : JL X G Q lwK h 1017 [(0, .ref b), (1, .ref (G.1 + 0)), (2, .ref (G.1 + 68)), (3, .int i3)] [] := by
  obtain ⟨q1, q2, e1, e2, e3, hI2⟩ := hst h (xs (i3 + 1).toNatClampNeg) hI
  refine jl_aload_n C 1 1 dL_law_1017 rfl rfl ?_
  refine jl_aload_n C 0 0 dL_law_1018 rfl rfl ?_
  refine jl_iload_n C 3 3 dL_law_1019 rfl rfl ?_
  refine jl_iconst (v := 1) C dL_law_1020 (by decide) ?_
  refine jl_iadd C dL_law_1021 ?_
  refine jl_sld C S w1 dL_law_1022 ?_
  refine jl_callV (a := 0) C [.int (xs (i3 + 1).toNatClampNeg)] lk_L_131 (mc_X7_many X.2.1 G F 91 e1) (o_X7_many e1) rfl rfl (Nat.le_of_ble_eq_true rfl) ⟨Nat.le_of_ble_eq_true rfl, Nat.le_of_ble_eq_true rfl⟩ ⟨Nat.le_of_ble_eq_true rfl, Nat.le_of_ble_eq_true rfl⟩ rfl dL_law_1023 (show _ = lwK from rfl) rfl ?_
  refine jl_aload_n C 2 2 dL_law_1026 rfl rfl ?_
  refine jl_aload_n C 0 0 dL_law_1027 rfl rfl ?_
  refine jl_iload_n C 3 3 dL_law_1028 rfl rfl ?_
  refine jl_iconst (v := 1) C dL_law_1029 (by decide) ?_
  refine jl_iadd C dL_law_1030 ?_
  refine jl_sld C S w1 dL_law_1031 ?_
  refine jl_callV (a := 68) C [.int (xs (i3 + 1).toNatClampNeg)] lk_L_134 (mc_X8_many X.2.1 G F 91 e2) (o_X8_many e2) rfl rfl (Nat.le_of_ble_eq_true rfl) ⟨Nat.le_of_ble_eq_true rfl, Nat.le_of_ble_eq_true rfl⟩ ⟨Nat.le_of_ble_eq_true rfl, Nat.le_of_ble_eq_true rfl⟩ rfl dL_law_1032 (show _ = lwK from rfl) rfl ?_
  refine jl_icmp_eq (tgt := 1040) C dL_law_1035 (by decide) (fun _ => kk _ hI2) (fun q => absurd e3 q)
def okAll (I : pH → Prop) (F : Nat) : Prop := st_words I F ∧ st_ofWord I F ∧ st_spell I F ∧ st_say I F ∧ st_hush I F ∧ st_row I F ∧ st_over I F ∧ st_all I F ∧ st_have I F ∧ st_free I F ∧ st_longest I F ∧ st_spare I F ∧ st_reading I F ∧ st_back I F ∧ st_kinds I F ∧ st_lasts I F ∧ st_odds I F ∧ st_sheet I F ∧ st_lose I F ∧ st_put I F ∧ st_cell I F ∧ st_copy I F ∧ st_tell I F ∧ st_spelt I F ∧ st_as I F ∧ st_trace I F ∧ st_fault I F ∧ st_many I F
theorem tb_out28 {x : Int32} (q0 : ¬ x = 0) (q1 : ¬ x = 1) (q2 : ¬ x = 2) (q3 : ¬ x = 3) (q4 : ¬ x = 4) (q5 : ¬ x = 5) (q6 : ¬ x = 6) (q7 : ¬ x = 7) (q8 : ¬ x = 8) (q9 : ¬ x = 9) (q10 : ¬ x = 10) (q11 : ¬ x = 11) (q12 : ¬ x = 12) (q13 : ¬ x = 13) (q14 : ¬ x = 14) (q15 : ¬ x = 15) (q16 : ¬ x = 16) (q17 : ¬ x = 17) (q18 : ¬ x = 18) (q19 : ¬ x = 19) (q20 : ¬ x = 20) (q21 : ¬ x = 21) (q22 : ¬ x = 22) (q23 : ¬ x = 23) (q24 : ¬ x = 24) (q25 : ¬ x = 25) (q26 : ¬ x = 26) (q27 : ¬ x = 27) : x.toInt < 0 ∨ 27 < x.toInt := by
  have h0 : x.toInt ≠ 0 := i32_ne q0
  have h1 : x.toInt ≠ 1 := i32_ne q1
  have h2 : x.toInt ≠ 2 := i32_ne q2
  have h3 : x.toInt ≠ 3 := i32_ne q3
  have h4 : x.toInt ≠ 4 := i32_ne q4
  have h5 : x.toInt ≠ 5 := i32_ne q5
  have h6 : x.toInt ≠ 6 := i32_ne q6
  have h7 : x.toInt ≠ 7 := i32_ne q7
  have h8 : x.toInt ≠ 8 := i32_ne q8
  have h9 : x.toInt ≠ 9 := i32_ne q9
  have h10 : x.toInt ≠ 10 := i32_ne q10
  have h11 : x.toInt ≠ 11 := i32_ne q11
  have h12 : x.toInt ≠ 12 := i32_ne q12
  have h13 : x.toInt ≠ 13 := i32_ne q13
  have h14 : x.toInt ≠ 14 := i32_ne q14
  have h15 : x.toInt ≠ 15 := i32_ne q15
  have h16 : x.toInt ≠ 16 := i32_ne q16
  have h17 : x.toInt ≠ 17 := i32_ne q17
  have h18 : x.toInt ≠ 18 := i32_ne q18
  have h19 : x.toInt ≠ 19 := i32_ne q19
  have h20 : x.toInt ≠ 20 := i32_ne q20
  have h21 : x.toInt ≠ 21 := i32_ne q21
  have h22 : x.toInt ≠ 22 := i32_ne q22
  have h23 : x.toInt ≠ 23 := i32_ne q23
  have h24 : x.toInt ≠ 24 := i32_ne q24
  have h25 : x.toInt ≠ 25 := i32_ne q25
  have h26 : x.toInt ≠ 26 := i32_ne q26
  have h27 : x.toInt ≠ 27 := i32_ne q27
  omega
set_option maxRecDepth 10000 in
set_option maxHeartbeats 1000000 in
theorem law_loop {X : pX} {G : pG} {Q : State → Prop} {b N : Nat} {xs : Nat → Int32} {I : pH → Prop} {F : Nat} (C : Cx X G RL cL_law 4 room_1 0 (some .boolean)) (S : Sx X G b N xs) (hN : N ≤ 3584) (hst : okAll I F) (hend : ∀ (h : pH) (i3 : Int32), JL X G Q lwK h 1046 [(0, .ref b), (1, .ref (G.1 + 0)), (2, .ref (G.1 + 68)), (3, .int i3)] []) :
    ∀ (n k : Nat) (i3 : Int32) (h : pH), i3 = nI k → k ≤ N → N + 1 ≤ k + n → I h → JL X G Q lwK h 18 [(0, .ref b), (1, .ref (G.1 + 0)), (2, .ref (G.1 + 68)), (3, .int i3)] [] := by
  intro n
  induction n with
  | zero => intro k i3 h _ h1 h2; omega
  | succ n ih =>
    intro k i3 h ei hk hn hI
    obtain ⟨s0, s1, s2, s3, s4, s5, s6, s7, s8, s9, s10, s11, s12, s13, s14, s15, s16, s17, s18, s19, s20, s21, s22, s23, s24, s25, s26, s27⟩ := hst
    refine jl_iload_n C 3 3 dL_law_18 rfl rfl ?_
    refine jl_aload_n C 0 0 dL_law_19 rfl rfl ?_
    refine jl_slen C S dL_law_20 ?_
    refine jl_bipush (v := 7) C dL_law_21 (by decide) ?_
    refine jl_isub C dL_law_23 ?_
    refine jl_icmp_gt (tgt := 1046) C dL_law_24 (by decide) (fun _ => hend h i3) (fun q => ?_)
    have hle : k + 7 ≤ N := by
      rcases Nat.lt_or_ge N (k + 7) with z | z
      · exfalso
        apply q
        rw [ei]
        rw [Int32.lt_iff_toInt_lt, nI_toInt (by omega)]
        have e7 : (Int32.ofNat N - 7).toInt = (N : Int) - 7 := pk_sub_toInt (a := N) (b := 7) (by omega) (by omega)
        rw [e7]
        omega
      · exact z
    have wj : ∀ j : Nat, j ≤ 6 → vp_in (i3 + nI j) N := by
      intro j hj
      rw [ei, nI_add]
      exact vp_in_nI (by omega) (by omega)
    have w0 : vp_in i3 N := by rw [ei]; exact vp_in_nI (by omega) (by omega)
    have w1 : vp_in (i3 + 1) N := wj 1 (by omega)
    have w2 : vp_in (i3 + 2) N := wj 2 (by omega)
    have w3 : vp_in (i3 + 3) N := wj 3 (by omega)
    have w4 : vp_in (i3 + 4) N := wj 4 (by omega)
    have w5 : vp_in (i3 + 5) N := wj 5 (by omega)
    have w6 : vp_in (i3 + 6) N := wj 6 (by omega)
    have kk : ∀ h2, I h2 → JL X G Q lwK h2 1040 [(0, .ref b), (1, .ref (G.1 + 0)), (2, .ref (G.1 + 68)), (3, .int i3)] [] := by
      intro h2 hI2
      refine jl_iinc (v := i3 + 7) C 3 3 dL_law_1040 rfl rfl rfl (by decide) ?_
      refine jl_goto (tgt := 18) C dL_law_1043 (by decide) ?_
      refine jl_perm [1, 2, 3, 0] rfl ?_
      exact ih (k + 7) (i3 + 7) h2 (by rw [ei]; exact nI_add k 7) hle (by omega) hI2
    refine jl_aload_n C 0 0 dL_law_27 rfl rfl ?_
    refine jl_iload_n C 3 3 dL_law_28 rfl rfl ?_
    refine jl_sld C S w0 dL_law_29 ?_
    refine jl_bipush (v := 31) C dL_law_30 (by decide) ?_
    refine jl_iand C dL_law_32 ?_
    by_cases c0 : xs i3.toNatClampNeg &&& 31 = 0
    · exact jl_table (tgt := 160) C dL_law_33 0 c0 (by decide) (by decide) rfl (by decide) (law_words C S s0 w1 w2 w3 w4 hI kk)
    by_cases c1 : xs i3.toNatClampNeg &&& 31 = 1
    · exact jl_table (tgt := 213) C dL_law_33 1 c1 (by decide) (by decide) rfl (by decide) (law_ofWord C S s1 w1 w2 hI kk)
    by_cases c2 : xs i3.toNatClampNeg &&& 31 = 2
    · exact jl_table (tgt := 246) C dL_law_33 2 c2 (by decide) (by decide) rfl (by decide) (law_spell C S s2 w1 w2 w3 hI kk)
    by_cases c3 : xs i3.toNatClampNeg &&& 31 = 3
    · exact jl_table (tgt := 289) C dL_law_33 3 c3 (by decide) (by decide) rfl (by decide) (law_say C S s3 w1 hI kk)
    by_cases c4 : xs i3.toNatClampNeg &&& 31 = 4
    · exact jl_table (tgt := 312) C dL_law_33 4 c4 (by decide) (by decide) rfl (by decide) (law_hush C S s4  hI kk)
    by_cases c5 : xs i3.toNatClampNeg &&& 31 = 5
    · exact jl_table (tgt := 325) C dL_law_33 5 c5 (by decide) (by decide) rfl (by decide) (law_row C S s5 w1 w2 w3 w4 w5 hI kk)
    by_cases c6 : xs i3.toNatClampNeg &&& 31 = 6
    · exact jl_table (tgt := 388) C dL_law_33 6 c6 (by decide) (by decide) rfl (by decide) (law_over C S s6 w1 w2 hI kk)
    by_cases c7 : xs i3.toNatClampNeg &&& 31 = 7
    · exact jl_table (tgt := 421) C dL_law_33 7 c7 (by decide) (by decide) rfl (by decide) (law_all C S s7 w1 hI kk)
    by_cases c8 : xs i3.toNatClampNeg &&& 31 = 8
    · exact jl_table (tgt := 444) C dL_law_33 8 c8 (by decide) (by decide) rfl (by decide) (law_have C S s8 w1 hI kk)
    by_cases c9 : xs i3.toNatClampNeg &&& 31 = 9
    · exact jl_table (tgt := 468) C dL_law_33 9 c9 (by decide) (by decide) rfl (by decide) (law_free C S s9 w1 hI kk)
    by_cases c10 : xs i3.toNatClampNeg &&& 31 = 10
    · exact jl_table (tgt := 492) C dL_law_33 10 c10 (by decide) (by decide) rfl (by decide) (law_longest C S s10  hI kk)
    by_cases c11 : xs i3.toNatClampNeg &&& 31 = 11
    · exact jl_table (tgt := 505) C dL_law_33 11 c11 (by decide) (by decide) rfl (by decide) (law_spare C S s11  hI kk)
    by_cases c12 : xs i3.toNatClampNeg &&& 31 = 12
    · exact jl_table (tgt := 518) C dL_law_33 12 c12 (by decide) (by decide) rfl (by decide) (law_reading C S s12 w1 w2 w3 w4 w5 w6 hI kk)
    by_cases c13 : xs i3.toNatClampNeg &&& 31 = 13
    · exact jl_table (tgt := 593) C dL_law_33 13 c13 (by decide) (by decide) rfl (by decide) (law_back C S s13 w1 hI kk)
    by_cases c14 : xs i3.toNatClampNeg &&& 31 = 14
    · exact jl_table (tgt := 616) C dL_law_33 14 c14 (by decide) (by decide) rfl (by decide) (law_kinds C S s14 w1 hI kk)
    by_cases c15 : xs i3.toNatClampNeg &&& 31 = 15
    · exact jl_table (tgt := 639) C dL_law_33 15 c15 (by decide) (by decide) rfl (by decide) (law_lasts C S s15 w1 hI kk)
    by_cases c16 : xs i3.toNatClampNeg &&& 31 = 16
    · exact jl_table (tgt := 662) C dL_law_33 16 c16 (by decide) (by decide) rfl (by decide) (law_odds C S s16 w1 w2 hI kk)
    by_cases c17 : xs i3.toNatClampNeg &&& 31 = 17
    · exact jl_table (tgt := 696) C dL_law_33 17 c17 (by decide) (by decide) rfl (by decide) (law_sheet C S s17 w1 w2 w3 hI kk)
    by_cases c18 : xs i3.toNatClampNeg &&& 31 = 18
    · exact jl_table (tgt := 739) C dL_law_33 18 c18 (by decide) (by decide) rfl (by decide) (law_lose C S s18 w1 hI kk)
    by_cases c19 : xs i3.toNatClampNeg &&& 31 = 19
    · exact jl_table (tgt := 762) C dL_law_33 19 c19 (by decide) (by decide) rfl (by decide) (law_put C S s19 w1 w2 w3 hI kk)
    by_cases c20 : xs i3.toNatClampNeg &&& 31 = 20
    · exact jl_table (tgt := 805) C dL_law_33 20 c20 (by decide) (by decide) rfl (by decide) (law_cell C S s20 w1 w2 w3 hI kk)
    by_cases c21 : xs i3.toNatClampNeg &&& 31 = 21
    · exact jl_table (tgt := 849) C dL_law_33 21 c21 (by decide) (by decide) rfl (by decide) (law_copy C S s21 w1 w2 w3 w4 w5 hI kk)
    by_cases c22 : xs i3.toNatClampNeg &&& 31 = 22
    · exact jl_table (tgt := 912) C dL_law_33 22 c22 (by decide) (by decide) rfl (by decide) (law_tell C S s22 w1 hI kk)
    by_cases c23 : xs i3.toNatClampNeg &&& 31 = 23
    · exact jl_table (tgt := 935) C dL_law_33 23 c23 (by decide) (by decide) rfl (by decide) (law_spelt C S s23 w1 hI kk)
    by_cases c24 : xs i3.toNatClampNeg &&& 31 = 24
    · exact jl_table (tgt := 958) C dL_law_33 24 c24 (by decide) (by decide) rfl (by decide) (law_as C S s24 w1 w2 hI kk)
    by_cases c25 : xs i3.toNatClampNeg &&& 31 = 25
    · exact jl_table (tgt := 991) C dL_law_33 25 c25 (by decide) (by decide) rfl (by decide) (law_trace C S s25  hI kk)
    by_cases c26 : xs i3.toNatClampNeg &&& 31 = 26
    · exact jl_table (tgt := 1004) C dL_law_33 26 c26 (by decide) (by decide) rfl (by decide) (law_fault C S s26  hI kk)
    by_cases c27 : xs i3.toNatClampNeg &&& 31 = 27
    · exact jl_table (tgt := 1017) C dL_law_33 27 c27 (by decide) (by decide) rfl (by decide) (law_many C S s27 w1 hI kk)
    exact jl_tableOut (tgt := 1040) C dL_law_33 (tb_out28 c0 c1 c2 c3 c4 c5 c6 c7 c8 c9 c10 c11 c12 c13 c14 c15 c16 c17 c18 c19 c20 c21 c22 c23 c24 c25 c26 c27) (by decide) (kk h hI)
