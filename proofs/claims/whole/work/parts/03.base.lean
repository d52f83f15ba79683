/-! The machine's worlds as one pure heap: place k of the pure heap is the cell lo + k. J: from here the method returns as Z says. -/
abbrev pE : Type := (Nat × vp_A) ⊕ (Nat × List Value)
abbrev pH : Type := Nat → pE
abbrev pG : Type := Nat × va_G × (Nat → ClassId)
abbrev pX : Type := Program × Launch × Env × Room × State × MethodId × Array Value × List Frame × Method × Code
abbrev pZ : Type := Nat × Nat × Option Value × Nat × pH
abbrev pK : Type := Nat × Nat × Nat
def tV (lo : Nat) (v : Value) : Value := match v with
  | .ref a => .ref (lo + a)
  | v => v
def tA (lo : Nat) (x : vp_A) : vp_A := match x with
  | (n, .inr (.inr (.inr (.inr f)))) => (n, .inr (.inr (.inr (.inr (fun i => (f i).map (fun a => lo + a))))))
  | x => x
def tE (G : pG) (e : pE) : va_E := match e with
  | .inl x => .inl (G.2.2 x.1, tA G.1 x.2)
  | .inr o => .inr (o.1, o.2.map (tV G.1))
def wd (G : pG) (n : Nat) (h : pH) : va_W := (List.range n).map (fun k => (G.1 + k, tE G (h k)))
def pj : pE := .inr (999, [])
def wf (n : Nat) (h : pH) : Prop := ∀ k, n ≤ k → h k = pj
def tyL (f : Nat → ClassId) : List (ClassId × FieldType) := [(f 0, .int), (f 1, .long), (f 2, .boolean), (f 3, .object RX4), (f 4, .object RX6), (f 5, .object RX3)]
def pW (G : pG) (n : Nat) (h : pH) (H : Heap) : Prop := va_P G.2.1 vwCl (wd G n h) H ∧ wf n h
def QR (G : pG) (r : Option Value) (n : Nat) (h : pH) : Array Value → State → Outcome → State → Prop := fun _ st o t => o = .returned (r.map (tV G.1)) ∧ pW G n h t.heap ∧ va_F (fun q => G.1 ≤ q) st t
def Cx (X : pX) (G : pG) (own : String) (cc : ByteArray) (nL : Nat) (rm : Room) (n0 : Nat) (rt : Option FieldType) : Prop := match X with
  | (p, _, _, R, s, m, args, _, meth, c) => p.tables.exec = Jvm.exec ∧ c.code = cc ∧ s.vm.findClass own = some m.cls ∧ (∀ w ∈ bigW, w.before args s = true) ∧ va_K G.2.1 vwCl (tyL G.2.2) s ∧ s.heap.size = G.1 + n0 ∧ meth.locks = false ∧ c.maxLocals = nL ∧ R = rm ∧ meth.sig.returnType = rt
def J (X : pX) (G : pG) (Z : pZ) (K : pK) (h : pH) (pc : Nat) (L : List (Nat × Value)) (st : List Value) : Prop := match X with
  | (p, l, e, R, s, m, args, below, meth, c) => ∀ (H : Heap) (locs : List Loc) (ls : Array Slot), pW G K.2.2 h H → va_S (fun q => G.1 ≤ q) s.heap H locs → lv_has ls c.maxLocals (L.map fun q => (q.1, tV G.1 q.2)) →
    W p l e R s m args below meth c H locs K.1 K.2.1 (MQ below (QR G Z.2.2.1 Z.2.2.2.1 Z.2.2.2.2) args s Z.1 Z.2.1 (fun q => G.1 ≤ q)) (F0 m pc ls (st.map (tV G.1)))
/-! ## the world of the pure heap -/
theorem wd_at {G : pG} {n : Nat} {h : pH} {a : Nat} (ha : a < n) : (wd G n h)[a]? = some (G.1 + a, tE G (h a)) := by
  simp [wd, ha]
theorem wd_set {G : pG} {n : Nat} {h : pH} {a : Nat} {e : pE} (ha : a < n) : (wd G n h).set a (G.1 + a, tE G e) = wd G n (va_up h a e) := by
  apply List.ext_getElem?
  intro k
  by_cases hk : k = a
  · subst hk
    rw [wd_at ha, List.getElem?_set_self (by simp [wd, ha])]
    simp [va_up]
  · rw [List.getElem?_set_ne (Ne.symm hk)]
    by_cases hn : k < n
    · rw [wd_at hn, wd_at hn]
      simp [va_up, hk]
    · simp [wd, hn]
theorem wd_push {G : pG} {n : Nat} {h : pH} {e : pE} : wd G n h ++ [(G.1 + n, tE G e)] = wd G (n + 1) (va_up h n e) := by
  unfold wd
  rw [List.range_succ, List.map_append]
  congr 1
  · apply List.map_congr_left
    intro k hk
    have := List.mem_range.mp hk
    simp [va_up, Nat.ne_of_lt this]
  · simp [va_up]
theorem wd_D (G : pG) (n : Nat) (h : pH) : va_D (fun q => G.1 ≤ q) (wd G n h) := by
  have key : ∀ (k : Nat) (q : Nat × va_E), (wd G n h)[k]? = some q → q.1 = G.1 + k := by
    intro k q hk
    by_cases hn : k < n
    · rw [wd_at hn] at hk
      cases hk
      rfl
    · simp [wd, hn] at hk
  refine ⟨fun i j x y hi hj hxy => ?_, fun k q hk => ?_⟩
  · have h1 := key i x hi
    have h2 := key j y hj
    omega
  · have := key k q hk
    show G.1 ≤ q.1
    omega
theorem wf_lt {n : Nat} {h : pH} (w : wf n h) {a : Nat} (hj : h a ≠ pj) : a < n := by
  rcases Nat.lt_or_ge a n with q | q
  · exact q
  · exact absurd (w a q) hj
theorem wf_up {n : Nat} {h : pH} (w : wf n h) {a : Nat} (ha : a < n) (e : pE) : wf n (va_up h a e) := by
  intro k hk
  have : k ≠ a := by omega
  simp [va_up, this, w k hk]
theorem wf_push {n : Nat} {h : pH} (w : wf n h) (e : pE) : wf (n + 1) (va_up h n e) := by
  intro k hk
  have : k ≠ n := by omega
  simp [va_up, this, w k (by omega)]
theorem tV_cat (lo : Nat) (v : Value) : (tV lo v).category = v.category := by cases v <;> rfl
theorem tV_cats (lo : Nat) (st : List Value) : ((st.map (tV lo)).map fun v => v.category).sum = (st.map fun v => v.category).sum := by
  rw [List.map_map]
  congr 1
  apply List.map_congr_left
  intro v _
  exact tV_cat lo v
/-! ## words -/
theorem nw_use {w : Cond} (hw : w ∈ bigW) {A : Array Value} {U : State} (h : va_Nw w U) : w.before A U = true := by
  have ho := (List.mem_filter.mp hw).2
  cases w <;> first | exact va_Nw.use rfl h | exact h | (simp [okW, goodWord, Cond.onTables] at ho)
theorem nw_of {w : Cond} (hw : w ∈ bigW) {A : Array Value} {U : State} (h : w.before A U = true) : va_Nw w U := by
  have ho := (List.mem_filter.mp hw).2
  cases w <;> first | exact va_Nw.of rfl h | exact h | (simp [okW, goodWord, Cond.onTables] at ho)
theorem nw_warm {w : Cond} (hw : w ∈ bigW) {s U : State} (hW : s.WarmedH U.vm) (h : va_Nw w s) : va_Nw w U := by
  have ho := (List.mem_filter.mp hw).2
  by_cases hg : goodWord w = true
  · exact word_at hW (good_of_word hg) h
  · cases w <;> first | exact absurd ho hg | exact va_Nw.warmM hW h | (rename_i ty; cases ty <;> first | exact absurd ho hg | exact va_AO.moved hW.alike h)
def PU (G : pG) (n : Nat) (h : pH) (U : State) : Prop := (pW G n h U.heap ∧ U.heap.size = G.1 + n) ∧ va_K G.2.1 vwCl (tyL G.2.2) U ∧ ∀ w ∈ bigW, va_Nw w U
def MC (l : Launch) (y : MethodName) (b : ByteArray) (mL : Nat) (ret : Option FieldType) (rm : Room) (G : pG) (As : List Value) (n : Nat) (h : pH) (r : Option Value) (n' : Nat) (h' : pH) : Prop :=
  Met l y [Cond.code y b mL ret] rm (va_Pc (As.map (tV G.1)) (PU G n h)) (QR G r n' h') rm.cells rm.slots (fun q => G.1 ≤ q)
theorem PU_blind (G : pG) (n : Nat) (h : pH) (av : List Value) : FrameBlind (va_Pc av (PU G n h)) := by
  intro a U g mk q
  obtain ⟨q0, q1, q2, q3⟩ := q
  exact ⟨q0, q1, va_K.moved (u := U) (U := U.calling g mk a) (Vm.Alike.refl U.vm) q2, fun w hw => nw_of (A := #[]) hw (by
    have := q3 w hw
    have ho := (List.mem_filter.mp hw).2
    cases w <;> first | exact va_tabs rfl rfl this | exact this | (simp [okW, goodWord, Cond.onTables] at ho))⟩
def rmD (d c s : Nat) : Room := { frames := d, cells := c, slots := s, locals := 33 * d }
