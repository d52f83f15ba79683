/-! new cells, calls, returns, the entry -/
theorem pW_push {G : pG} {n : Nat} {h : pH} {H H1 : Heap} {e : pE} (hW : pW G n h H) (hz : H.size = G.1 + n) (ho : ∀ q, q < G.1 + n → H1[q]? = H[q]?) (he : va_at G.2.1 vwCl (G.1 + n, tE G e) H1) : pW G (n + 1) (va_up h n e) H1 := by
  refine ⟨?_, wf_push hW.2 e⟩
  rw [← wd_push]
  refine va_P.app (hW.1.kept (fun k q hk => ho _ (by rw [← hz]; exact (hW.1 k q hk).lt))) (fun k q hk => ?_)
  have hz : k < 1 := (List.getElem?_eq_some_iff.mp hk).1
  rw [show k = 0 by omega] at hk
  cases hk
  exact he
theorem sz_of {p : Program} {l : Launch} {e : Env} {R : Room} {s : State} {m : MethodId} {args : Array Value} {below : List Frame} {meth : Method} {c : Code} {T : State} {locs : List Loc} {cells slots : Nat} {G : pG} {n n0 : Nat} {h : pH} {H : Heap} (hT : T.heap = H) (X : Stand p l e R s m args below meth c T locs cells slots) (hlo : s.heap.size = G.1 + n0) (hW : pW G n h H) (hS : s.heap.size ≤ H.size) (hn : n = n0 + cells) : H.size = G.1 + n := by
  have h1 : T.heap.size ≤ s.heap.size + cells := X.same.2.2.1
  rw [hT] at h1
  rcases Nat.eq_zero_or_pos n with q | q
  · omega
  · have h2 := (hW.1 (n - 1) _ (wd_at (by omega))).lt
    have h3 : G.1 + (n - 1) < H.size := h2
    omega
section JN
variable {X : pX} {G : pG} {Z : pZ} {K K2 : pK} {h h2 : pH} {pc : Nat} {L : List (Nat × Value)} {st st2 st3 : List Value} {own : String} {cc : ByteArray} {nL n0 : Nat} {rm : Room} {rt : Option FieldType}
theorem jj_new (C : Cx X G own cc nL rm n0 rt) {idx ci N : Nat} {Cn : String} {T : u_T} {ty0 : Nat → FieldType} (hc : vwCl[ci]? = some (Cn, T, N)) (hu : ∀ w ∈ u_ws Cn T N, w ∈ bigW) (hty : ∀ k, k < N → parseFieldDescriptor (T k).2.2.1 = some (ty0 k)) (hcl : Cond.classLink own idx Cn ∈ bigW) (hin : Cond.instantiable Cn N ∈ bigW) (hini : Cond.initialized Cn ∈ bigW) (fs : List Value) (hfs : ∀ j, j < N → defaultValue (ty0 j) = vp_V fs j) (htv : fs.map (tV G.1) = fs)
    (hn : K.2.2 = n0 + K.1) (hcells : K.1 + 1 ≤ rm.cells) (hslots : K.2.1 + N ≤ rm.slots) (hd : decode cc pc = .ok (.new idx, 3)) (hK2 : (K.1 + 1, K.2.1 + N, K.2.2 + 1) = K2) {a : Nat} (ha2 : K.2.2 = a) (hh : va_up h K.2.2 (.inr (ci, fs)) = h2) (kk : J X G Z K2 h2 (pc + 3) L (.ref a :: st)) : J X G Z K h pc L st := by
  obtain ⟨p, l, e, R, s, m, args, below, meth, c⟩ := X
  obtain ⟨hx, hb, hown, hts, hK, hlo, hlk, hm, hR, hrt⟩ := C
  intro H locs ls hW hS hl S0 hT XT
  have hsz := sz_of hT XT hlo hW hS.1 hn
  subst hK2
  subst hR
  subst ha2
  subst hh
  have hKn := hK.1 ci _ hc
  refine W.newcK hx hb hown (hts _ hcl) (hts _ hin) (hts _ hini) (g := F0 m pc ls (st.map (tV G.1))) rfl hd hcells hslots hKn.2.1 hsz (fun H1 kC hkC e1 z1 o1 => ?_) S0 hT XT
  refine kk H1 locs ls (pW_push hW hsz o1 ?_) ⟨Nat.le_trans hS.1 (by omega), fun x h1 h2 => (o1 x (by omega)).trans (hS.2.1 x h1 h2), hS.2.2⟩ hl
  refine ⟨_, hc, (u_born ty0 hts hu hKn hkC e1 hty).to ?_⟩
  show ∀ k, k < N → defaultValue (ty0 k) = vp_V (fs.map (tV G.1)) k
  rw [htv]
  exact hfs
theorem jj_newa (C : Cx X G own cc nL rm n0 rt) (t : Nat) {atype : ArrayType} {ty : FieldType} (hty : newarray.typeOf atype = ty) (hac : Cond.arrayClass ty ∈ bigW) (ht : (tyL G.2.2)[t]? = some (G.2.2 t, ty)) (hra : ∀ (U : State) (cA : ClassId), va_RA U cA ty → U.vm.findClass ("[" ++ ty.toString) = some cA) {n : Int32} {N : Nat} (a0 : vp_A) (ha : ∀ cA : ClassId, vp_cell cA a0 = arrV cA N (fun _ => defaultValue ty)) (hta : tA G.1 a0 = a0) (hn0 : ¬ n < 0) (hN : n.toNatClampNeg = N) (hby : N * componentBytes ty ≤ 536870912)
    (hn : K.2.2 = n0 + K.1) (hcells : K.1 + 1 ≤ rm.cells) (hslots : K.2.1 + N ≤ rm.slots) (hd : decode cc pc = .ok (.newarray atype, 2)) (hK2 : (K.1 + 1, K.2.1 + N, K.2.2 + 1) = K2) {a : Nat} (ha2 : K.2.2 = a) (hh : va_up h K.2.2 (.inl (t, a0)) = h2) (kk : J X G Z K2 h2 (pc + 2) L (.ref a :: st)) : J X G Z K h pc L (.int n :: st) := by
  obtain ⟨p, l, e, R, s, m, args, below, meth, c⟩ := X
  obtain ⟨hx, hb, hown, hts, hK, hlo, hlk, hm, hR, hrt⟩ := C
  intro H locs ls hW hS hl S0 hT XT
  have hsz := sz_of hT XT hlo hW hS.1 hn
  subst hK2
  subst hR
  subst hty
  subst ha2
  subst hh
  refine va_newaK hx hb (hts _ hac) (g := F0 m pc ls (.int n :: st.map (tV G.1))) rfl hd rfl hn0 hN hby hcells hslots hsz (fun H1 cA e1 z1 o1 hAr hNm => ?_) S0 hT XT
  have hcA : cA = G.2.2 t := Option.some.inj (hNm.symm.trans (hra s _ (hK.2 t _ ht).2))
  subst hcA
  refine kk H1 locs ls (pW_push hW hsz o1 ?_) ⟨Nat.le_trans hS.1 (by omega), fun x h1 h2 => (o1 x (by omega)).trans (hS.2.1 x h1 h2), hS.2.2⟩ hl
  show H1[G.1 + K.2.2]? = some (vp_cell (G.2.2 t) (tA G.1 a0))
  rw [hta, ha]
  exact e1
theorem jj_anew (C : Cx X G own cc nL rm n0 rt) (t : Nat) {idx : Nat} {Cn : String} (hcl : Cond.classLink own idx Cn ∈ bigW) (hao : Cond.arrayOver (.object Cn) ∈ bigW) (ht : (tyL G.2.2)[t]? = some (G.2.2 t, .object Cn)) {n : Int32} {N : Nat} (hn0 : ¬ n < 0) (hN : n.toNatClampNeg = N) (hby : N * 4 ≤ 536870912)
    (hn : K.2.2 = n0 + K.1) (hcells : K.1 + 1 ≤ rm.cells) (hslots : K.2.1 + N ≤ rm.slots) (hd : decode cc pc = .ok (.anewarray idx, 3)) (hK2 : (K.1 + 1, K.2.1 + N, K.2.2 + 1) = K2) {a : Nat} (ha2 : K.2.2 = a) (hh : va_up h K.2.2 (.inl (t, N, .inr (.inr (.inr (.inr (fun _ => none)))))) = h2) (kk : J X G Z K2 h2 (pc + 3) L (.ref a :: st)) : J X G Z K h pc L (.int n :: st) := by
  obtain ⟨p, l, e, R, s, m, args, below, meth, c⟩ := X
  obtain ⟨hx, hb, hown, hts, hK, hlo, hlk, hm, hR, hrt⟩ := C
  intro H locs ls hW hS hl S0 hT XT
  have hsz := sz_of hT XT hlo hW hS.1 hn
  subst hK2
  subst hR
  subst hN
  subst ha2
  subst hh
  refine W.anew hx hb hown (hts _ hcl) (hts _ hao) (g := F0 m pc ls (.int n :: st.map (tV G.1))) rfl hd rfl hn0 hby hcells hslots (fun cA kA comp f1 f2 f3 f4 => ?_) S0 hT XT
  have hcA : cA = G.2.2 t := by
    obtain ⟨kA2, comp2, g1, g2, g3, g4⟩ := (hK.2 t _ ht).2
    exact Option.some.inj (f1.symm.trans g4)
  subst hcA
  generalize hH1 : H.push ({ cls := G.2.2 t, slots := Array.replicate n.toNatClampNeg .null, vm := .none } : Cell) = H1
  have z1 : H1.size = H.size + 1 := by rw [← hH1, Array.size_push]
  have e1 : H1[H.size]? = some (arrV (G.2.2 t) n.toNatClampNeg (fun _ => .null)) := by rw [← hH1, Array.getElem?_push_size, ← arrV_new]
  have o1 : ∀ q : Nat, q < H.size → H1[q]? = H[q]? := fun q hq => by rw [← hH1, Array.getElem?_push, if_neg (Nat.ne_of_lt hq)]
  rw [hsz] at e1 o1 ⊢
  refine kk H1 locs ls (pW_push hW hsz o1 ?_) ⟨Nat.le_trans hS.1 (by omega), fun x h1 h2 => (o1 x (by omega)).trans (hS.2.1 x h1 h2), hS.2.2⟩ hl
  exact e1
theorem jj_objInit (C : Cx X G own cc nL rm n0 rt) {idx a : Nat} (hml : Cond.methodLink own idx objectInit ∈ bigW) (hfr : 1 ≤ rm.frames) (hlc : (st.map fun v => v.category).sum + 12 ≤ rm.locals) (hd : decode cc pc = .ok (.invokespecial idx, 3)) (kk : J X G Z K h (pc + 3) L st) : J X G Z K h pc L (.ref a :: st) := by
  obtain ⟨p, l, e, R, s, m, args, below, meth, c⟩ := X
  obtain ⟨hx, hb, hown, hts, hK, hlo, hlk, hm, hR, hrt⟩ := C
  intro H locs ls hW hS hl
  subst hR
  refine W.objInit hx hb hown (hts _ hml) (hts _ im_objectInit) (hts _ co_objectInit) (g := F0 m pc ls (.ref (G.1 + a) :: st.map (tV G.1))) rfl hl.1 rfl hd hfr ?_ (kk H locs ls hW hS hl)
  rw [tV_cats]
  show 2 * 0 + _ + 12 ≤ _
  omega
/-! ## calls -/
theorem jj_back {p : Program} {l : Launch} {e : Env} {R : Room} {s : State} {m : MethodId} {args : Array Value} {below : List Frame} {meth : Method} {c : Code} {H : Heap} {locs : List Loc} {cells slots mc ms : Nat} {Q : State → Prop} {ls : Array Slot} {rest st0 : List Value} {a : Array Value} {r : Option Value} {n1 : Nat} {h1 : pH}
    (hr : va_Run p l e R s m args below meth c H locs cells slots mc ms (F0 m pc ls st0) rest (QR G r n1 h1 a) (fun q => G.1 ≤ q)) (hS : va_S (fun q => G.1 ≤ q) s.heap H locs)
    (kk : ∀ (H1 : Heap) (locs1 : List Loc), pW G n1 h1 H1 → va_S (fun q => G.1 ≤ q) s.heap H1 locs1 → W p l e R s m args below meth c H1 locs1 (cells + mc) (slots + ms) Q (F0 m (pc + 3) ls ((r.map (tV G.1)).toList ++ rest))) : W p l e R s m args below meth c H locs cells slots Q (F0 m pc ls st0) := by
  intro T hT X
  obtain ⟨v, st₀, t, T', Lx, h0, X', hL, e1, e2, ⟨hv, hp, hz, hk⟩, sx⟩ := hr T hT X
  cases hv
  rw [h0] at hz hk
  obtain ⟨t2, a1, b1⟩ := kk T'.heap (locs ++ Lx) (by rw [e1]; exact hp) ⟨Nat.le_trans hS.1 (by rw [e1]; exact hz), fun q h1 h2 => by rw [e1, hk q (Nat.lt_of_lt_of_le h1 hS.1) h2]; exact hS.2.1 q h1 h2, fun q hq => by
      rcases List.mem_append.mp hq with h | h
      · exact hS.2.2 q h
      · exact hL q h⟩ T' rfl X'
  exact ⟨t2, sx t2 a1, b1⟩
def okD (y : MethodName) (np : Nat) : Prop := y.cls ≠ "java/lang/invoke/MethodHandle" ∧ y.cls ≠ "java/lang/invoke/VarHandle" ∧ (parseMethodDescriptor y.desc).map (fun d => d.parameters.length) = some np
def lkV (own : String) (idx ci : Nat) (y : MethodName) (b : ByteArray) (mL : Nat) (ret : Option FieldType) (np : Nat) : Prop := Cond.methodLink own idx y ∈ bigW ∧ Cond.instanceMethod y ∈ bigW ∧ Cond.selects y.cls y y ∈ bigW ∧ Cond.initialized y.cls ∈ bigW ∧ Cond.code y b mL ret ∈ bigW ∧ okD y np ∧ ∃ q : vw_C, vwCl[ci]? = some q ∧ q.1 = y.cls
def lkS (own : String) (idx : Nat) (y : MethodName) (b : ByteArray) (mL : Nat) (ret : Option FieldType) (np : Nat) : Prop := Cond.methodLink own idx y ∈ bigW ∧ Cond.static y ∈ bigW ∧ Cond.initialized y.cls ∈ bigW ∧ Cond.code y b mL ret ∈ bigW ∧ okD y np
def lkSN (own : String) (idx : Nat) (y : MethodName) (b : ByteArray) (mL : Nat) (ret : Option FieldType) (np : Nat) : Prop := (∃ host : String, Cond.methodLinkNest own idx y host ∈ bigW) ∧ Cond.static y ∈ bigW ∧ Cond.initialized y.cls ∈ bigW ∧ Cond.code y b mL ret ∈ bigW ∧ okD y np
def lkI (own : String) (idx : Nat) (y : MethodName) (b : ByteArray) (mL np : Nat) : Prop := Cond.methodLink own idx y ∈ bigW ∧ Cond.instanceMethod y ∈ bigW ∧ Cond.initialized y.cls ∈ bigW ∧ Cond.code y b mL none ∈ bigW ∧ okD y np ∧ y.name = "<init>"
def lkIN (own : String) (idx : Nat) (y : MethodName) (b : ByteArray) (mL np : Nat) : Prop := (∃ host : String, Cond.methodLinkNest own idx y host ∈ bigW) ∧ Cond.instanceMethod y ∈ bigW ∧ Cond.initialized y.cls ∈ bigW ∧ Cond.code y b mL none ∈ bigW ∧ okD y np ∧ y.name = "<init>"
theorem cb_of {R : Room} {s : State} {args : Array Value} {own : String} {idx : Nat} {y : MethodName} {b : ByteArray} {mL : Nat} {ret : Option FieldType} {rm2 : Room} {np : Nat} (hts : ∀ w ∈ bigW, w.before args s = true) (hco : Cond.code y b mL ret ∈ bigW) (hini : Cond.initialized y.cls ∈ bigW) (hml : Cond.methodLink own idx y ∈ bigW) (hd : okD y np) (hR : rm2.frames + 1 ≤ R.frames ∧ 8 + (mL + 11) + rm2.locals ≤ R.locals) : CallB R s args own idx y b mL ret [Cond.code y b mL ret] rm2 rm2.cells rm2.slots np := by
  refine ⟨rfl, rfl, hR.1, hR.2, fun w hw a' U hW => ?_, List.mem_cons_self, hts _ hco, hts _ hini, ⟨hd.1, hd.2.1⟩, fun sig hs => ?_, hts _ hml⟩
  · obtain rfl := List.mem_singleton.mp hw
    exact word_at hW (Or.inl rfl) (hts _ hco)
  · have h2 := hd.2.2
    rw [hs] at h2
    exact (Option.some.inj h2).symm
theorem cn_of {R : Room} {s : State} {args : Array Value} {own host : String} {idx : Nat} {y : MethodName} {b : ByteArray} {mL : Nat} {ret : Option FieldType} {rm2 : Room} {np : Nat} (hts : ∀ w ∈ bigW, w.before args s = true) (hco : Cond.code y b mL ret ∈ bigW) (hini : Cond.initialized y.cls ∈ bigW) (hml : Cond.methodLinkNest own idx y host ∈ bigW) (hd : okD y np) (hR : rm2.frames + 1 ≤ R.frames ∧ 8 + (mL + 11) + rm2.locals ≤ R.locals) : va_CN R s args own idx y host b mL ret [Cond.code y b mL ret] rm2 rm2.cells rm2.slots np := by
  refine ⟨⟨rfl, rfl, hR.1, hR.2, fun w hw a' U hW => ?_, List.mem_cons_self⟩, hts _ hco, hts _ hini, ⟨hd.1, hd.2.1⟩, fun sig hs => ?_, hts _ hml⟩
  · obtain rfl := List.mem_singleton.mp hw
    exact word_at hW (Or.inl rfl) (hts _ hco)
  · have h2 := hd.2.2
    rw [hs] at h2
    exact (Option.some.inj h2).symm
theorem pu_of {s U : State} {args : Array Value} {n : Nat} {H : Heap} (hts : ∀ w ∈ bigW, w.before args s = true) (hK : va_K G.2.1 vwCl (tyL G.2.2) s) (hW : pW G n h H) (hsz : H.size = G.1 + n) (hU : U.heap = H) (hWm : s.WarmedH U.vm) : PU G n h U :=
  ⟨⟨by rw [hU]; exact hW, by rw [hU]; exact hsz⟩, va_K.moved hWm.alike hK, fun w hw => nw_warm hw hWm (nw_of hw (hts w hw))⟩
section CA
variable {idx ci a np mL n1 : Nat} {y : MethodName} {b : ByteArray} {ret : Option FieldType} {rm2 : Room} {r : Option Value} {h1 : pH}
theorem jj_callV (C : Cx X G own cc nL rm n0 rt) (As : List Value) (k : lkV own idx ci y b mL ret np) (M : MC X.2.1 y b mL ret rm2 G (.ref a :: As) K.2.2 h r n1 h1) (hO : chk ci h a = some ()) (hst : As.reverse ++ .ref a :: st = st2) (hnp : As.length = np) (hcat : (st.map fun v => v.category).sum ≤ 8) (hR2 : rm2.frames + 1 ≤ rm.frames ∧ 8 + (mL + 11) + rm2.locals ≤ rm.locals) (hroom : K.1 + rm2.cells ≤ rm.cells ∧ K.2.1 + rm2.slots ≤ rm.slots) (hn : K.2.2 = n0 + K.1) (hd : decode cc pc = .ok (.invokevirtual idx, 3)) (hK2 : (K.1 + rm2.cells, K.2.1 + rm2.slots, n1) = K2) (hs3 : r.toList ++ st = st3) (kk : J X G Z K2 h1 (pc + 3) L st3) : J X G Z K h pc L st2 := by
  obtain ⟨p, l, e, R, s, m, args, below, meth, c⟩ := X
  obtain ⟨hx, hb, hown, hts, hK, hlo, hlk, hm, hR, hrt⟩ := C
  obtain ⟨k1, k2, k3, k4, k5, k6, q, k7, k8⟩ := k
  intro H locs ls hW hS hl S0 hT XT
  have hsz := sz_of hT XT hlo hW hS.1 hn
  obtain ⟨fs, e4⟩ := chk_inv hO
  have ha : a < K.2.2 := wf_lt hW.2 (by rw [e4]; exact pj_cl k7 fs)
  subst hK2
  subst hR
  subst hst
  subst hs3
  refine jj_back (va_runV (Ts := bigW) (C := y.cls) (As := As.map (tV G.1)) (rest := st.map (tV G.1)) (b := G.1 + a) ⟨hx, hb, rfl, hown, hts⟩ M ⟨cb_of hts k5 k4 k1 k6 hR2, hts _ k2, hts _ k3⟩ ⟨PU_blind G K.2.2 h _, ?_, fun U hU hWm => ⟨rfl, pu_of hts hK hW hsz hU hWm⟩⟩ rfl (by rw [List.length_map]; exact hnp) hl.1 (by simp [tV, List.map_reverse]) (lv_room (by rw [tV_cats]; exact hcat)) hd hroom) hS (fun H1 locs1 hP1 hS1 => ?_) S0 hT XT
  · rw [← k8]
    exact va_recv (q0 := a) (fs := fs.map (tV G.1)) hK hW.1 k7 (by rw [wd_at ha, e4]; rfl)
  · have := kk H1 locs1 ls hP1 hS1 hl
    rw [List.map_append] at this
    rw [show (Option.map (tV G.1) r).toList = r.toList.map (tV G.1) from by cases r <;> rfl]
    exact this
theorem jj_callS (C : Cx X G own cc nL rm n0 rt) (As : List Value) (k : lkS own idx y b mL ret np) (M : MC X.2.1 y b mL ret rm2 G As K.2.2 h r n1 h1) (hst : As.reverse ++ st = st2) (hnp : As.length = np) (hcat : (st.map fun v => v.category).sum ≤ 8) (hR2 : rm2.frames + 1 ≤ rm.frames ∧ 8 + (mL + 11) + rm2.locals ≤ rm.locals) (hroom : K.1 + rm2.cells ≤ rm.cells ∧ K.2.1 + rm2.slots ≤ rm.slots) (hn : K.2.2 = n0 + K.1) (hd : decode cc pc = .ok (.invokestatic idx, 3)) (hK2 : (K.1 + rm2.cells, K.2.1 + rm2.slots, n1) = K2) (hs3 : r.toList ++ st = st3) (kk : J X G Z K2 h1 (pc + 3) L st3) : J X G Z K h pc L st2 := by
  obtain ⟨p, l, e, R, s, m, args, below, meth, c⟩ := X
  obtain ⟨hx, hb, hown, hts, hK, hlo, hlk, hm, hR, hrt⟩ := C
  obtain ⟨k1, k2, k4, k5, k6⟩ := k
  intro H locs ls hW hS hl S0 hT XT
  have hsz := sz_of hT XT hlo hW hS.1 hn
  subst hK2
  subst hR
  subst hst
  subst hs3
  refine jj_back (va_runS (Ts := bigW) (As := As.map (tV G.1)) (rest := st.map (tV G.1)) ⟨hx, hb, rfl, hown, hts⟩ M ⟨cb_of hts k5 k4 k1 k6 hR2, hts _ k2⟩ ⟨PU_blind G K.2.2 h _, fun U hU hWm => ⟨rfl, pu_of hts hK hW hsz hU hWm⟩⟩ rfl (by rw [List.length_map]; exact hnp) hl.1 (by simp [List.map_reverse]) (lv_room (by rw [tV_cats]; exact hcat)) hd hroom) hS (fun H1 locs1 hP1 hS1 => ?_) S0 hT XT
  have := kk H1 locs1 ls hP1 hS1 hl
  rw [List.map_append] at this
  rw [show (Option.map (tV G.1) r).toList = r.toList.map (tV G.1) from by cases r <;> rfl]
  exact this
theorem jj_callSN (C : Cx X G own cc nL rm n0 rt) (As : List Value) (k : lkSN own idx y b mL ret np) (M : MC X.2.1 y b mL ret rm2 G As K.2.2 h r n1 h1) (hst : As.reverse ++ st = st2) (hnp : As.length = np) (hcat : (st.map fun v => v.category).sum ≤ 8) (hR2 : rm2.frames + 1 ≤ rm.frames ∧ 8 + (mL + 11) + rm2.locals ≤ rm.locals) (hroom : K.1 + rm2.cells ≤ rm.cells ∧ K.2.1 + rm2.slots ≤ rm.slots) (hn : K.2.2 = n0 + K.1) (hd : decode cc pc = .ok (.invokestatic idx, 3)) (hK2 : (K.1 + rm2.cells, K.2.1 + rm2.slots, n1) = K2) (hs3 : r.toList ++ st = st3) (kk : J X G Z K2 h1 (pc + 3) L st3) : J X G Z K h pc L st2 := by
  obtain ⟨p, l, e, R, s, m, args, below, meth, c⟩ := X
  obtain ⟨hx, hb, hown, hts, hK, hlo, hlk, hm, hR, hrt⟩ := C
  obtain ⟨⟨host, k1⟩, k2, k4, k5, k6⟩ := k
  intro H locs ls hW hS hl S0 hT XT
  have hsz := sz_of hT XT hlo hW hS.1 hn
  subst hK2
  subst hR
  subst hst
  subst hs3
  refine jj_back (va_runSN (Ts := bigW) (As := As.map (tV G.1)) (rest := st.map (tV G.1)) ⟨hx, hb, rfl, hown, hts⟩ M ⟨cn_of hts k5 k4 k1 k6 hR2, hts _ k2, trivial⟩ ⟨PU_blind G K.2.2 h _, fun U hU hWm => ⟨rfl, pu_of hts hK hW hsz hU hWm⟩⟩ rfl (by rw [List.length_map]; exact hnp) hl.1 (by simp [List.map_reverse]) (lv_room (by rw [tV_cats]; exact hcat)) hd hroom) hS (fun H1 locs1 hP1 hS1 => ?_) S0 hT XT
  have := kk H1 locs1 ls hP1 hS1 hl
  rw [List.map_append] at this
  rw [show (Option.map (tV G.1) r).toList = r.toList.map (tV G.1) from by cases r <;> rfl]
  exact this
theorem jj_callI (C : Cx X G own cc nL rm n0 rt) (As : List Value) (k : lkI own idx y b mL np) (M : MC X.2.1 y b mL none rm2 G (.ref a :: As) K.2.2 h r n1 h1) (hst : As.reverse ++ .ref a :: st = st2) (hnp : As.length = np) (hcat : (st.map fun v => v.category).sum ≤ 8) (hR2 : rm2.frames + 1 ≤ rm.frames ∧ 8 + (mL + 11) + rm2.locals ≤ rm.locals) (hroom : K.1 + rm2.cells ≤ rm.cells ∧ K.2.1 + rm2.slots ≤ rm.slots) (hn : K.2.2 = n0 + K.1) (hd : decode cc pc = .ok (.invokespecial idx, 3)) (hK2 : (K.1 + rm2.cells, K.2.1 + rm2.slots, n1) = K2) (hs3 : r.toList ++ st = st3) (kk : J X G Z K2 h1 (pc + 3) L st3) : J X G Z K h pc L st2 := by
  obtain ⟨p, l, e, R, s, m, args, below, meth, c⟩ := X
  obtain ⟨hx, hb, hown, hts, hK, hlo, hlk, hm, hR, hrt⟩ := C
  obtain ⟨k1, k2, k4, k5, k6, k7⟩ := k
  intro H locs ls hW hS hl S0 hT XT
  have hsz := sz_of hT XT hlo hW hS.1 hn
  subst hK2
  subst hR
  subst hst
  subst hs3
  refine jj_back (va_runI (Ts := bigW) (As := As.map (tV G.1)) (rest := st.map (tV G.1)) (b := G.1 + a) ⟨hx, hb, rfl, hown, hts⟩ M ⟨cb_of hts k5 k4 k1 k6 hR2, k7, hts _ k2⟩ ⟨PU_blind G K.2.2 h _, fun U hU hWm => ⟨rfl, pu_of hts hK hW hsz hU hWm⟩⟩ rfl (by rw [List.length_map]; exact hnp) hl.1 (by simp [tV, List.map_reverse]) (lv_room (by rw [tV_cats]; exact hcat)) hd hroom) hS (fun H1 locs1 hP1 hS1 => ?_) S0 hT XT
  have := kk H1 locs1 ls hP1 hS1 hl
  rw [List.map_append] at this
  rw [show (Option.map (tV G.1) r).toList = r.toList.map (tV G.1) from by cases r <;> rfl]
  exact this
theorem jj_callIN (C : Cx X G own cc nL rm n0 rt) (As : List Value) (k : lkIN own idx y b mL np) (M : MC X.2.1 y b mL none rm2 G (.ref a :: As) K.2.2 h r n1 h1) (hst : As.reverse ++ .ref a :: st = st2) (hnp : As.length = np) (hcat : (st.map fun v => v.category).sum ≤ 8) (hR2 : rm2.frames + 1 ≤ rm.frames ∧ 8 + (mL + 11) + rm2.locals ≤ rm.locals) (hroom : K.1 + rm2.cells ≤ rm.cells ∧ K.2.1 + rm2.slots ≤ rm.slots) (hn : K.2.2 = n0 + K.1) (hd : decode cc pc = .ok (.invokespecial idx, 3)) (hK2 : (K.1 + rm2.cells, K.2.1 + rm2.slots, n1) = K2) (hs3 : r.toList ++ st = st3) (kk : J X G Z K2 h1 (pc + 3) L st3) : J X G Z K h pc L st2 := by
  obtain ⟨p, l, e, R, s, m, args, below, meth, c⟩ := X
  obtain ⟨hx, hb, hown, hts, hK, hlo, hlk, hm, hR, hrt⟩ := C
  obtain ⟨⟨host, k1⟩, k2, k4, k5, k6, k7⟩ := k
  intro H locs ls hW hS hl S0 hT XT
  have hsz := sz_of hT XT hlo hW hS.1 hn
  subst hK2
  subst hR
  subst hst
  subst hs3
  refine jj_back (va_runIN (Ts := bigW) (As := As.map (tV G.1)) (rest := st.map (tV G.1)) (b := G.1 + a) ⟨hx, hb, rfl, hown, hts⟩ M ⟨cn_of hts k5 k4 k1 k6 hR2, k7, hts _ k2⟩ ⟨PU_blind G K.2.2 h _, fun U hU hWm => ⟨rfl, pu_of hts hK hW hsz hU hWm⟩⟩ rfl (by rw [List.length_map]; exact hnp) hl.1 (by simp [tV, List.map_reverse]) (lv_room (by rw [tV_cats]; exact hcat)) hd hroom) hS (fun H1 locs1 hP1 hS1 => ?_) S0 hT XT
  have := kk H1 locs1 ls hP1 hS1 hl
  rw [List.map_append] at this
  rw [show (Option.map (tV G.1) r).toList = r.toList.map (tV G.1) from by cases r <;> rfl]
  exact this
end CA
/-! ## returns -/
theorem jj_iret (C : Cx X G own cc nL rm n0 (some .int)) {v : Int32} (hd : decode cc pc = .ok (.ireturn, 1)) (hZ : Z = (K.1, K.2.1, some (.int v), K.2.2, h)) : J X G Z K h pc L [.int v] := by
  obtain ⟨p, l, e, R, s, m, args, below, meth, c⟩ := X
  obtain ⟨hx, hb, hown, hts, hK, hlo, hlk, hm, hR, hrt⟩ := C
  subst hZ
  intro H locs ls hW hS hl
  exact W.iret hx hb hrt (fun t ht hWm => ⟨rfl, by rw [ht]; exact hW, hS.F ht⟩) hS.2.2 hd hlk
theorem jj_zret (C : Cx X G own cc nL rm n0 (some .boolean)) {v : Int32} (hv : v = 0 ∨ v = 1) (hd : decode cc pc = .ok (.ireturn, 1)) (hZ : Z = (K.1, K.2.1, some (.int v), K.2.2, h)) : J X G Z K h pc L [.int v] := by
  obtain ⟨p, l, e, R, s, m, args, below, meth, c⟩ := X
  obtain ⟨hx, hb, hown, hts, hK, hlo, hlk, hm, hR, hrt⟩ := C
  subst hZ
  intro H locs ls hW hS hl
  exact W.zret hx hb hrt (by rcases hv with rfl | rfl <;> rfl) (fun t ht hWm => ⟨rfl, by rw [ht]; exact hW, hS.F ht⟩) hS.2.2 hd hlk
theorem jj_lret (C : Cx X G own cc nL rm n0 (some .long)) {v : Int64} (hd : decode cc pc = .ok (.lreturn, 1)) (hZ : Z = (K.1, K.2.1, some (.long v), K.2.2, h)) : J X G Z K h pc L [.long v] := by
  obtain ⟨p, l, e, R, s, m, args, below, meth, c⟩ := X
  obtain ⟨hx, hb, hown, hts, hK, hlo, hlk, hm, hR, hrt⟩ := C
  subst hZ
  intro H locs ls hW hS hl
  exact W.lret hx hb hrt (fun t ht hWm => ⟨rfl, by rw [ht]; exact hW, hS.F ht⟩) hS.2.2 hd hlk
theorem jj_vret (C : Cx X G own cc nL rm n0 none) (hd : decode cc pc = .ok (.return_, 1)) (hZ : Z = (K.1, K.2.1, none, K.2.2, h)) : J X G Z K h pc L [] := by
  obtain ⟨p, l, e, R, s, m, args, below, meth, c⟩ := X
  obtain ⟨hx, hb, hown, hts, hK, hlo, hlk, hm, hR, hrt⟩ := C
  subst hZ
  intro H locs ls hW hS hl
  exact W.vret hx hb hrt (fun t ht hWm => ⟨rfl, by rw [ht]; exact hW, hS.F ht⟩) hS.2.2 hd hlk
theorem jj_aret {ft : FieldType} (C : Cx X G own cc nL rm n0 (some ft)) (hft : (∃ q, ft = .object q) ∨ ∃ t, ft = .array t) {v : Nat} (hd : decode cc pc = .ok (.areturn, 1)) (hZ : Z = (K.1, K.2.1, some (.ref v), K.2.2, h)) : J X G Z K h pc L [.ref v] := by
  obtain ⟨p, l, e, R, s, m, args, below, meth, c⟩ := X
  obtain ⟨hx, hb, hown, hts, hK, hlo, hlk, hm, hR, hrt⟩ := C
  subst hZ
  intro H locs ls hW hS hl
  exact W.aret hx hb hrt hft (Or.inr ⟨_, rfl⟩) (fun t ht hWm => ⟨rfl, by rw [ht]; exact hW, hS.F ht⟩) hS.2.2 hd hlk
end JN
/-! ## the entry -/
theorem lv_args_tV (lo : Nat) : ∀ (vs : List Value) (i : Nat), lv_args i (vs.map (tV lo)) = (lv_args i vs).map fun q => (q.1, tV lo q.2)
  | [], i => rfl
  | v :: vs, i => by
    show (i, tV lo v) :: lv_args (if (tV lo v).category = 2 then i + 2 else i + 1) (vs.map (tV lo)) = (i, tV lo v) :: (lv_args (if v.category = 2 then i + 2 else i + 1) vs).map _
    rw [tV_cat, lv_args_tV lo vs]
theorem jj_entry {l : Launch} {y : MethodName} {b : ByteArray} {mL : Nat} {ret : Option FieldType} {rm : Room} {G : pG} {As : List Value} {n : Nat} {h : pH} {r : Option Value} {n1 : Nat} {h1 : pH} (own : String) (ho : y.cls = own) (hy : plainName own = true) (hlen : (lg_sl (As.map (tV G.1))).length ≤ mL)
    (body : ∀ X : pX, X.2.1 = l → X.2.2.2.2.2.2.2.2.1.name = y.name → Cx X G own b mL rm n ret → J X G (rm.cells, rm.slots, r, n1, h1) (0, 0, n) h 0 (lv_args 0 As) []) : MC l y b mL ret rm G As n h r n1 h1 := by
  subst ho
  refine Met.ofW (cc := b) (maxL := mL) (ret := ret) hy rfl ?_
  intro p e s m args below meth c s₁ B hml hv
  obtain ⟨rfl, ⟨hW, hsz⟩, hK, hNw⟩ := hv
  have hown : s.vm.findClass y.cls = some m.cls := findClass_of_methodNamed B.named
  have hname : meth.name = y.name := (name_of_methodNamed B.named B.method).1
  have hl := lv_entry (As.map (tV G.1)) (n := mL) hlen
  rw [lg_entry_eq]
  refine body (p, l, e, _, s, m, _, below, meth, c) rfl hname ⟨B.exec, B.bytes, hown, fun w hw => nw_use hw (hNw w hw), hK, hsz, B.notSynchronized, hml, rfl, B.returns⟩ s.heap [] _ hW va_S.rf ?_
  rw [hml, ← lv_args_tV]
  exact hl
