/-! fields, rows (arrays), new cells, calls, returns over the pure heap -/
def inb (i : Int32) (n : Nat) : Bool := !(decide (i < 0)) && decide (i.toNatClampNeg < n)
theorem inb_in {i : Int32} {n : Nat} (h : inb i n = true) : vp_in i n := by
  simp only [inb, Bool.and_eq_true, Bool.not_eq_true', decide_eq_false_iff_not, decide_eq_true_eq] at h
  rintro (q | q)
  · exact h.1 q
  · omega
def getI (ci : Nat) (h : pH) (a k : Nat) : Option Int32 := match h a with
  | .inr o => if o.1 = ci then (match o.2[k]? with | some (.int v) => some v | _ => none) else none
  | _ => none
def getR (ci : Nat) (h : pH) (a k : Nat) : Option Nat := match h a with
  | .inr o => if o.1 = ci then (match o.2[k]? with | some (.ref v) => some v | _ => none) else none
  | _ => none
def putV (ci : Nat) (h : pH) (a k : Nat) (v : Value) : Option pH := match h a with
  | .inr o => if o.1 = ci ∧ k < o.2.length then some (va_up h a (.inr (o.1, o.2.set k v))) else none
  | _ => none
def putZ (ci : Nat) (h : pH) (a k : Nat) (v : Int32) : Option pH := if v = 0 ∨ v = 1 then putV ci h a k (.int v) else none
def retZ (v : Int32) : Option Int32 := if v = 0 ∨ v = 1 then some v else none
def chk (ci : Nat) (h : pH) (a : Nat) : Option Unit := match h a with
  | .inr o => if o.1 = ci then some () else none
  | _ => none
def aldI (t : Nat) (h : pH) (a : Nat) (i : Int32) : Option Int32 := match h a with
  | .inl (u, n, .inl f) => if u = t ∧ inb i n = true then some (f i.toNatClampNeg) else none
  | _ => none
def astI (t : Nat) (h : pH) (a : Nat) (i x : Int32) : Option pH := match h a with
  | .inl (u, n, .inl f) => if u = t ∧ inb i n = true then some (va_up h a (.inl (u, n, .inl (upd f i.toNatClampNeg x)))) else none
  | _ => none
def aldL (h : pH) (a : Nat) (i : Int32) : Option Int64 := match h a with
  | .inl (u, n, .inr (.inl f)) => if u = 1 ∧ inb i n = true then some (f i.toNatClampNeg) else none
  | _ => none
def astL (h : pH) (a : Nat) (i : Int32) (x : Int64) : Option pH := match h a with
  | .inl (u, n, .inr (.inl f)) => if u = 1 ∧ inb i n = true then some (va_up h a (.inl (u, n, .inr (.inl (vp_updL f i.toNatClampNeg x))))) else none
  | _ => none
def aldR (t : Nat) (h : pH) (a : Nat) (i : Int32) : Option Nat := match h a with
  | .inl (u, n, .inr (.inr (.inr (.inr f)))) => if u = t ∧ inb i n = true then f i.toNatClampNeg else none
  | _ => none
def astR (t ci : Nat) (h : pH) (a : Nat) (i : Int32) (b : Nat) : Option pH := match h a with
  | .inl (u, n, .inr (.inr (.inr (.inr f)))) => if u = t ∧ inb i n = true ∧ chk ci h b = some () then some (va_up h a (.inl (u, n, .inr (.inr (.inr (.inr (va_up f i.toNatClampNeg (some b)))))))) else none
  | _ => none
def alen (h : pH) (a : Nat) : Option Int32 := match h a with
  | .inl x => if x.1 < 6 then some (Int32.ofNat x.2.1) else none
  | _ => none
def acpI (h : pH) (a : Nat) (sp : Int32) (b : Nat) (dp n : Int32) : Option pH := match h a, h b with
  | .inl (u, k, .inl f), .inl (v, k2, .inl g) => if u = 0 ∧ v = 0 ∧ ¬ sp < 0 ∧ ¬ dp < 0 ∧ ¬ n < 0 ∧ sp.toNatClampNeg + n.toNatClampNeg ≤ k ∧ dp.toNatClampNeg + n.toNatClampNeg ≤ k2 then some (va_up h b (.inl (v, k2, .inl (va_cpy f g sp.toNatClampNeg dp.toNatClampNeg n.toNatClampNeg)))) else none
  | _, _ => none
/-! ## what an answer says -/
theorem getI_inv {ci : Nat} {h : pH} {a k : Nat} {v : Int32} (q : getI ci h a k = some v) : ∃ fs, h a = .inr (ci, fs) ∧ fs[k]? = some (.int v) := by
  unfold getI at q
  split at q
  · rename_i o e
    split at q
    · rename_i e2
      split at q
      · rename_i w e3
        cases q
        exact ⟨o.2, by rw [e, ← e2], e3⟩
      · cases q
    · cases q
  · cases q
theorem getR_inv {ci : Nat} {h : pH} {a k : Nat} {v : Nat} (q : getR ci h a k = some v) : ∃ fs, h a = .inr (ci, fs) ∧ fs[k]? = some (.ref v) := by
  unfold getR at q
  split at q
  · rename_i o e
    split at q
    · rename_i e2
      split at q
      · rename_i w e3
        cases q
        exact ⟨o.2, by rw [e, ← e2], e3⟩
      · cases q
    · cases q
  · cases q
theorem putV_inv {ci : Nat} {h : pH} {a k : Nat} {v : Value} {h2 : pH} (q : putV ci h a k v = some h2) : ∃ fs, h a = .inr (ci, fs) ∧ k < fs.length ∧ h2 = va_up h a (.inr (ci, fs.set k v)) := by
  unfold putV at q
  split at q
  · rename_i o e
    split at q
    · rename_i e2
      cases q
      obtain ⟨rfl, e3⟩ := e2
      exact ⟨o.2, e, e3, rfl⟩
    · cases q
  · cases q
theorem putZ_inv {ci : Nat} {h : pH} {a k : Nat} {v : Int32} {h2 : pH} (q : putZ ci h a k v = some h2) : (v = 0 ∨ v = 1) ∧ putV ci h a k (.int v) = some h2 := by
  unfold putZ at q
  split at q
  · rename_i e
    exact ⟨e, q⟩
  · cases q
theorem retZ_inv {v r : Int32} (q : retZ v = some r) : (v = 0 ∨ v = 1) ∧ v = r := by
  unfold retZ at q
  split at q
  · rename_i e
    cases q
    exact ⟨e, rfl⟩
  · cases q
theorem chk_inv {ci : Nat} {h : pH} {a : Nat} {u : Unit} (q : chk ci h a = some u) : ∃ fs, h a = .inr (ci, fs) := by
  unfold chk at q
  split at q
  · rename_i o e
    split at q
    · rename_i e2
      exact ⟨o.2, by rw [e, ← e2]⟩
    · cases q
  · cases q
theorem aldI_inv {t : Nat} {h : pH} {a : Nat} {i v : Int32} (q : aldI t h a i = some v) : ∃ n f, h a = .inl (t, n, .inl f) ∧ vp_in i n ∧ v = f i.toNatClampNeg := by
  unfold aldI at q
  split at q
  · rename_i u n f e
    split at q
    · rename_i e2
      cases q
      exact ⟨n, f, by rw [e, ← e2.1], inb_in e2.2, rfl⟩
    · cases q
  · cases q
theorem astI_inv {t : Nat} {h : pH} {a : Nat} {i x : Int32} {h2 : pH} (q : astI t h a i x = some h2) : ∃ n f, h a = .inl (t, n, .inl f) ∧ vp_in i n ∧ h2 = va_up h a (.inl (t, n, .inl (upd f i.toNatClampNeg x))) := by
  unfold astI at q
  split at q
  · rename_i u n f e
    split at q
    · rename_i e2
      cases q
      obtain ⟨rfl, e3⟩ := e2
      exact ⟨n, f, e, inb_in e3, rfl⟩
    · cases q
  · cases q
theorem aldL_inv {h : pH} {a : Nat} {i : Int32} {v : Int64} (q : aldL h a i = some v) : ∃ n f, h a = .inl (1, n, .inr (.inl f)) ∧ vp_in i n ∧ v = f i.toNatClampNeg := by
  unfold aldL at q
  split at q
  · rename_i u n f e
    split at q
    · rename_i e2
      cases q
      exact ⟨n, f, by rw [e, ← e2.1], inb_in e2.2, rfl⟩
    · cases q
  · cases q
theorem astL_inv {h : pH} {a : Nat} {i : Int32} {x : Int64} {h2 : pH} (q : astL h a i x = some h2) : ∃ n f, h a = .inl (1, n, .inr (.inl f)) ∧ vp_in i n ∧ h2 = va_up h a (.inl (1, n, .inr (.inl (vp_updL f i.toNatClampNeg x)))) := by
  unfold astL at q
  split at q
  · rename_i u n f e
    split at q
    · rename_i e2
      cases q
      obtain ⟨rfl, e3⟩ := e2
      exact ⟨n, f, e, inb_in e3, rfl⟩
    · cases q
  · cases q
theorem aldR_inv {t : Nat} {h : pH} {a : Nat} {i : Int32} {v : Nat} (q : aldR t h a i = some v) : ∃ n f, h a = .inl (t, n, .inr (.inr (.inr (.inr f)))) ∧ vp_in i n ∧ f i.toNatClampNeg = some v := by
  unfold aldR at q
  split at q
  · rename_i u n f e
    split at q
    · rename_i e2
      exact ⟨n, f, by rw [e, ← e2.1], inb_in e2.2, q⟩
    · cases q
  · cases q
theorem astR_inv {t ci : Nat} {h : pH} {a : Nat} {i : Int32} {b : Nat} {h2 : pH} (q : astR t ci h a i b = some h2) : ∃ n f, h a = .inl (t, n, .inr (.inr (.inr (.inr f)))) ∧ vp_in i n ∧ chk ci h b = some () ∧ h2 = va_up h a (.inl (t, n, .inr (.inr (.inr (.inr (va_up f i.toNatClampNeg (some b))))))) := by
  unfold astR at q
  split at q
  · rename_i u n f e
    split at q
    · rename_i e2
      cases q
      obtain ⟨rfl, e3, e4⟩ := e2
      exact ⟨n, f, e, inb_in e3, e4, rfl⟩
    · cases q
  · cases q
theorem alen_inv {h : pH} {a : Nat} {v : Int32} (q : alen h a = some v) : ∃ t x, h a = .inl (t, x) ∧ t < 6 ∧ v = Int32.ofNat x.1 := by
  unfold alen at q
  split at q
  · rename_i x e
    split at q
    · rename_i e2
      cases q
      exact ⟨x.1, x.2, e, e2, rfl⟩
    · cases q
  · cases q
theorem acpI_inv {h : pH} {a : Nat} {sp : Int32} {b : Nat} {dp n : Int32} {h2 : pH} (q : acpI h a sp b dp n = some h2) : ∃ k f k2 g, h a = .inl (0, k, .inl f) ∧ h b = .inl (0, k2, .inl g) ∧ ¬ sp < 0 ∧ ¬ dp < 0 ∧ ¬ n < 0 ∧ sp.toNatClampNeg + n.toNatClampNeg ≤ k ∧ dp.toNatClampNeg + n.toNatClampNeg ≤ k2 ∧ h2 = va_up h b (.inl (0, k2, .inl (va_cpy f g sp.toNatClampNeg dp.toNatClampNeg n.toNatClampNeg))) := by
  unfold acpI at q
  split at q
  · rename_i u k f v k2 g e e'
    split at q
    · rename_i e2
      cases q
      obtain ⟨rfl, rfl, e3, e4, e5, e6, e7⟩ := e2
      exact ⟨k, f, k2, g, e, e', e3, e4, e5, e6, e7, rfl⟩
    · cases q
  · cases q
theorem pj_inl {x : Nat × vp_A} : (.inl x : pE) ≠ pj := fun q => by cases q
/-! ## fields -/
def fdl (own : String) (idx ci k : Nat) (ty : FieldType) (fin : Bool) : Prop := ∃ (Cn : String) (T : u_T) (N : Nat) (ty0 : Nat → FieldType), vwCl[ci]? = some (Cn, T, N) ∧ (∀ w ∈ u_ws Cn T N, w ∈ bigW) ∧ k < N ∧ Cond.fieldLink own idx (T k).1 (T k).2.1 (T k).2.2.1 ∈ bigW ∧ (∀ k, k < N → parseFieldDescriptor (T k).2.2.1 = some (ty0 k)) ∧ (∀ a, a < N → ∀ b, b < N → a ≠ b → (T a).2.1 ≠ (T b).2.1) ∧ ty0 k = ty ∧ (T k).2.2.2 = fin ∧ (T k).1 = Cn
theorem pj_cl {ci : Nat} {q : vw_C} (h : vwCl[ci]? = some q) (fs : List Value) : (.inr (ci, fs) : pE) ≠ pj := by
  intro e
  cases e
  rw [show vwCl[999]? = none from rfl] at h
  cases h
section JH
variable {X : pX} {G : pG} {Z : pZ} {K : pK} {h h2 : pH} {pc : Nat} {L : List (Nat × Value)} {st : List Value} {own : String} {cc : ByteArray} {nL n0 : Nat} {rm : Room} {rt : Option FieldType}
theorem jj_getI (C : Cx X G own cc nL rm n0 rt) {idx ci k a : Nat} {ty : FieldType} {fin : Bool} {v : Int32} (F : fdl own idx ci k ty fin) (hd : decode cc pc = .ok (.getfield idx, 3)) (hv : getI ci h a k = some v) (kk : J X G Z K h (pc + 3) L (.int v :: st)) : J X G Z K h pc L (.ref a :: st) := by
  obtain ⟨p, l, e, R, s, m, args, below, meth, c⟩ := X
  obtain ⟨hx, hb, hown, hts, hK, hlo, hlk, hm, hR, hrt⟩ := C
  intro H locs ls hW hS hl
  obtain ⟨fs, e1, e2⟩ := getI_inv hv
  obtain ⟨Cn, T, N, ty0, hc, hu, hk, hf, hty, hnm, -, -, -⟩ := F
  have ha : a < K.2.2 := wf_lt hW.2 (by rw [e1]; exact pj_cl hc fs)
  exact va_get (D := G.2.1) (ci := ci) (v := .int v) (C := Cn) (T := T) (N := N) (fs := fs.map (tV G.1)) hx hb hts hu hown hK hW.1 a (by rw [wd_at ha, e1]; rfl) hc k hk (hts _ hf) (fun _ q => q) (by rw [List.getElem?_map, e2]; rfl) hd (kk H locs ls hW hS hl)
theorem jj_getR (C : Cx X G own cc nL rm n0 rt) {idx ci k a : Nat} {ty : FieldType} {fin : Bool} {v : Nat} (F : fdl own idx ci k ty fin) (hd : decode cc pc = .ok (.getfield idx, 3)) (hv : getR ci h a k = some v) (kk : J X G Z K h (pc + 3) L (.ref v :: st)) : J X G Z K h pc L (.ref a :: st) := by
  obtain ⟨p, l, e, R, s, m, args, below, meth, c⟩ := X
  obtain ⟨hx, hb, hown, hts, hK, hlo, hlk, hm, hR, hrt⟩ := C
  intro H locs ls hW hS hl
  obtain ⟨fs, e1, e2⟩ := getR_inv hv
  obtain ⟨Cn, T, N, ty0, hc, hu, hk, hf, hty, hnm, -, -, -⟩ := F
  have ha : a < K.2.2 := wf_lt hW.2 (by rw [e1]; exact pj_cl hc fs)
  exact va_get (D := G.2.1) (ci := ci) (v := .ref (G.1 + v)) (C := Cn) (T := T) (N := N) (fs := fs.map (tV G.1)) hx hb hts hu hown hK hW.1 a (by rw [wd_at ha, e1]; rfl) hc k hk (hts _ hf) (fun _ q => q) (by rw [List.getElem?_map, e2]; rfl) hd (kk H locs ls hW hS hl)
theorem jj_put (C : Cx X G own cc nL rm n0 rt) {idx ci k a : Nat} {ty : FieldType} {v : Value} (F : fdl own idx ci k ty false) (hn : narrow ty (tV G.1 v) = tV G.1 v) (hfit : fits ty (tV G.1 v) = true) (hd : decode cc pc = .ok (.putfield idx, 3)) (hv : putV ci h a k v = some h2) (kk : J X G Z K h2 (pc + 3) L st) : J X G Z K h pc L (v :: .ref a :: st) := by
  obtain ⟨p, l, e, R, s, m, args, below, meth, c⟩ := X
  obtain ⟨hx, hb, hown, hts, hK, hlo, hlk, hm, hR, hrt⟩ := C
  intro H locs ls hW hS hl
  obtain ⟨fs, e1, e2, rfl⟩ := putV_inv hv
  obtain ⟨Cn, T, N, ty0, hc, hu, hk, hf, hty, hnm, hte, hfin, -⟩ := F
  have ha : a < K.2.2 := wf_lt hW.2 (by rw [e1]; exact pj_cl hc fs)
  refine va_put (D := G.2.1) (ci := ci) (v := tV G.1 v) (ty := ty) (C := Cn) (T := T) (N := N) (fs := fs.map (tV G.1)) hx hb hts hu ty0 hty hnm hown hK hW.1 (wd_D G K.2.2 h) hS a (by rw [wd_at ha, e1]; rfl) hc k hk (hts _ hf) (fun _ q => q) hfin (by rw [hty k hk, hte]) hn hfit (by rw [List.length_map]; exact e2) hd (fun H1 locs1 hP1 _ hS1 => ?_)
  refine kk H1 locs1 ls ⟨?_, wf_up hW.2 ha _⟩ hS1 hl
  rw [← wd_set ha]
  have e3 : tE G (.inr (ci, fs.set k v)) = .inr (ci, (fs.map (tV G.1)).set k (tV G.1 v)) := by show Sum.inr (ci, (fs.set k v).map (tV G.1)) = _; rw [List.map_set]
  rw [e3]
  exact hP1
theorem jj_putF (C : Cx X G own cc nL rm n0 rt) {idx ci k a : Nat} {ty : FieldType} {v : Value} (F : fdl own idx ci k ty true) (hO : vwCl[ci]? = some (own, (vwCl.getD ci ("", fun _ => ("", "", "", false), 0)).2)) (hin : X.2.2.2.2.2.2.2.2.1.name = "<init>") (hn : narrow ty (tV G.1 v) = tV G.1 v) (hfit : fits ty (tV G.1 v) = true) (hd : decode cc pc = .ok (.putfield idx, 3)) (hv : putV ci h a k v = some h2) (kk : J X G Z K h2 (pc + 3) L st) : J X G Z K h pc L (v :: .ref a :: st) := by
  obtain ⟨p, l, e, R, s, m, args, below, meth, c⟩ := X
  obtain ⟨hx, hb, hown, hts, hK, hlo, hlk, hm, hR, hrt⟩ := C
  intro H locs ls hW hS hl
  obtain ⟨fs, e1, e2, rfl⟩ := putV_inv hv
  obtain ⟨Cn, T, N, ty0, hc, hu, hk, hf, hty, hnm, hte, hfin, hcn⟩ := F
  have hoc : Cn = own := congrArg (fun q : vw_C => q.1) (Option.some.inj (hc.symm.trans hO))
  have ha : a < K.2.2 := wf_lt hW.2 (by rw [e1]; exact pj_cl hc fs)
  refine va_putF (D := G.2.1) (ci := ci) (v := tV G.1 v) (ty := ty) (C := Cn) (T := T) (N := N) (fs := fs.map (tV G.1)) hx hb hts hu ty0 hty hnm hown hK hW.1 (wd_D G K.2.2 h) hS a (by rw [wd_at ha, e1]; rfl) hc k hk (hts _ hf) (fun _ q => q) hfin hin (by rw [hcn, hoc]) (by rw [hty k hk, hte]) hn hfit (by rw [List.length_map]; exact e2) hd (fun H1 locs1 hP1 _ hS1 => ?_)
  refine kk H1 locs1 ls ⟨?_, wf_up hW.2 ha _⟩ hS1 hl
  rw [← wd_set ha]
  have e3 : tE G (.inr (ci, fs.set k v)) = .inr (ci, (fs.map (tV G.1)).set k (tV G.1 v)) := by show Sum.inr (ci, (fs.set k v).map (tV G.1)) = _; rw [List.map_set]
  rw [e3]
  exact hP1
/-! ## arrays -/
theorem jj_iald (C : Cx X G own cc nL rm n0 rt) {a : Nat} {i v : Int32} (hd : decode cc pc = .ok (.iaload, 1)) (hv : aldI 0 h a i = some v) (kk : J X G Z K h (pc + 1) L (.int v :: st)) : J X G Z K h pc L (.int i :: .ref a :: st) := by
  obtain ⟨p, l, e, R, s, m, args, below, meth, c⟩ := X
  obtain ⟨hx, hb, hown, hts, hK, hlo, hlk, hm, hR, hrt⟩ := C
  intro H locs ls hW hS hl
  obtain ⟨n, f, e1, e2, rfl⟩ := aldI_inv hv
  have ha : a < K.2.2 := wf_lt hW.2 (by rw [e1]; exact pj_inl)
  exact va_iald (D := G.2.1) hx hb hK hW.1 a 0 (by rw [wd_at ha, e1]; rfl) rfl e2 hd (kk H locs ls hW hS hl)
theorem jj_zald (C : Cx X G own cc nL rm n0 rt) {a : Nat} {i v : Int32} (hd : decode cc pc = .ok (.baload, 1)) (hv : aldI 2 h a i = some v) (kk : J X G Z K h (pc + 1) L (.int v :: st)) : J X G Z K h pc L (.int i :: .ref a :: st) := by
  obtain ⟨p, l, e, R, s, m, args, below, meth, c⟩ := X
  obtain ⟨hx, hb, hown, hts, hK, hlo, hlk, hm, hR, hrt⟩ := C
  intro H locs ls hW hS hl
  obtain ⟨n, f, e1, e2, rfl⟩ := aldI_inv hv
  have ha : a < K.2.2 := wf_lt hW.2 (by rw [e1]; exact pj_inl)
  exact va_zald (D := G.2.1) hx hb hK hW.1 a 2 (by rw [wd_at ha, e1]; rfl) rfl e2 hd (kk H locs ls hW hS hl)
theorem jj_lald (C : Cx X G own cc nL rm n0 rt) {a : Nat} {i : Int32} {v : Int64} (hd : decode cc pc = .ok (.laload, 1)) (hv : aldL h a i = some v) (kk : J X G Z K h (pc + 1) L (.long v :: st)) : J X G Z K h pc L (.int i :: .ref a :: st) := by
  obtain ⟨p, l, e, R, s, m, args, below, meth, c⟩ := X
  obtain ⟨hx, hb, hown, hts, hK, hlo, hlk, hm, hR, hrt⟩ := C
  intro H locs ls hW hS hl
  obtain ⟨n, f, e1, e2, rfl⟩ := aldL_inv hv
  have ha : a < K.2.2 := wf_lt hW.2 (by rw [e1]; exact pj_inl)
  exact va_lald (D := G.2.1) hx hb hK hW.1 a 1 (by rw [wd_at ha, e1]; rfl) rfl e2 hd (kk H locs ls hW hS hl)
theorem jj_aald (C : Cx X G own cc nL rm n0 rt) {a : Nat} {i : Int32} {v : Nat} (t : Nat) {Cn : String} (ht : (tyL G.2.2)[t]? = some (G.2.2 t, .object Cn)) (hd : decode cc pc = .ok (.aaload, 1)) (hv : aldR t h a i = some v) (kk : J X G Z K h (pc + 1) L (.ref v :: st)) : J X G Z K h pc L (.int i :: .ref a :: st) := by
  obtain ⟨p, l, e, R, s, m, args, below, meth, c⟩ := X
  obtain ⟨hx, hb, hown, hts, hK, hlo, hlk, hm, hR, hrt⟩ := C
  intro H locs ls hW hS hl
  obtain ⟨n, f, e1, e2, e3⟩ := aldR_inv hv
  have ha : a < K.2.2 := wf_lt hW.2 (by rw [e1]; exact pj_inl)
  refine va_aldq (D := G.2.1) (f := fun i => (f i).map (fun a => G.1 + a)) hx hb hK hW.1 a t (by rw [wd_at ha, e1]; rfl) ht e2 hd ?_
  rw [e3]
  exact kk H locs ls hW hS hl
theorem jj_alen (C : Cx X G own cc nL rm n0 rt) {a : Nat} {v : Int32} (hd : decode cc pc = .ok (.arraylength, 1)) (hv : alen h a = some v) (kk : J X G Z K h (pc + 1) L (.int v :: st)) : J X G Z K h pc L (.ref a :: st) := by
  obtain ⟨p, l, e, R, s, m, args, below, meth, c⟩ := X
  obtain ⟨hx, hb, hown, hts, hK, hlo, hlk, hm, hR, hrt⟩ := C
  intro H locs ls hW hS hl
  obtain ⟨t, x, e1, e2, rfl⟩ := alen_inv hv
  have ha : a < K.2.2 := wf_lt hW.2 (by rw [e1]; exact pj_inl)
  obtain ⟨ty, ht⟩ : ∃ ty, (tyL G.2.2)[t]? = some (G.2.2 t, ty) := by
    match t, e2 with
    | 0, _ => exact ⟨_, rfl⟩
    | 1, _ => exact ⟨_, rfl⟩
    | 2, _ => exact ⟨_, rfl⟩
    | 3, _ => exact ⟨_, rfl⟩
    | 4, _ => exact ⟨_, rfl⟩
    | 5, _ => exact ⟨_, rfl⟩
    | t + 6, q => exact absurd q (by omega)
  refine va_alen (D := G.2.1) (x := tA G.1 x) hx hb hK hW.1 a t (by rw [wd_at ha, e1]; rfl) ht ?_ hd (kk H locs ls hW hS hl)
  obtain ⟨n, f | f | f | f | f⟩ := x <;> rfl
theorem jj_iast (C : Cx X G own cc nL rm n0 rt) {a : Nat} {i x : Int32} (hd : decode cc pc = .ok (.iastore, 1)) (hv : astI 0 h a i x = some h2) (kk : J X G Z K h2 (pc + 1) L st) : J X G Z K h pc L (.int x :: .int i :: .ref a :: st) := by
  obtain ⟨p, l, e, R, s, m, args, below, meth, c⟩ := X
  obtain ⟨hx, hb, hown, hts, hK, hlo, hlk, hm, hR, hrt⟩ := C
  intro H locs ls hW hS hl
  obtain ⟨n, f, e1, e2, rfl⟩ := astI_inv hv
  have ha : a < K.2.2 := wf_lt hW.2 (by rw [e1]; exact pj_inl)
  refine va_iast (D := G.2.1) hx hb hK hW.1 (wd_D G K.2.2 h) hS a 0 (by rw [wd_at ha, e1]; rfl) rfl e2 hd (fun H1 locs1 hP1 _ hS1 => ?_)
  refine kk H1 locs1 ls ⟨?_, wf_up hW.2 ha _⟩ hS1 hl
  rw [← wd_set ha]
  exact hP1
theorem jj_zast (C : Cx X G own cc nL rm n0 rt) {a : Nat} {i x : Int32} (hd : decode cc pc = .ok (.bastore, 1)) (hv : astI 2 h a i (vp_nar .boolean x) = some h2) (kk : J X G Z K h2 (pc + 1) L st) : J X G Z K h pc L (.int x :: .int i :: .ref a :: st) := by
  obtain ⟨p, l, e, R, s, m, args, below, meth, c⟩ := X
  obtain ⟨hx, hb, hown, hts, hK, hlo, hlk, hm, hR, hrt⟩ := C
  intro H locs ls hW hS hl
  obtain ⟨n, f, e1, e2, rfl⟩ := astI_inv hv
  have ha : a < K.2.2 := wf_lt hW.2 (by rw [e1]; exact pj_inl)
  refine va_zast (D := G.2.1) hx hb hK hW.1 (wd_D G K.2.2 h) hS a 2 (by rw [wd_at ha, e1]; rfl) rfl e2 hd (fun H1 locs1 hP1 _ hS1 => ?_)
  refine kk H1 locs1 ls ⟨?_, wf_up hW.2 ha _⟩ hS1 hl
  rw [← wd_set ha]
  exact hP1
theorem jj_last (C : Cx X G own cc nL rm n0 rt) {a : Nat} {i : Int32} {x : Int64} (hd : decode cc pc = .ok (.lastore, 1)) (hv : astL h a i x = some h2) (kk : J X G Z K h2 (pc + 1) L st) : J X G Z K h pc L (.long x :: .int i :: .ref a :: st) := by
  obtain ⟨p, l, e, R, s, m, args, below, meth, c⟩ := X
  obtain ⟨hx, hb, hown, hts, hK, hlo, hlk, hm, hR, hrt⟩ := C
  intro H locs ls hW hS hl
  obtain ⟨n, f, e1, e2, rfl⟩ := astL_inv hv
  have ha : a < K.2.2 := wf_lt hW.2 (by rw [e1]; exact pj_inl)
  refine va_last (D := G.2.1) hx hb hK hW.1 (wd_D G K.2.2 h) hS a 1 (by rw [wd_at ha, e1]; rfl) rfl e2 hd (fun H1 locs1 hP1 _ hS1 => ?_)
  refine kk H1 locs1 ls ⟨?_, wf_up hW.2 ha _⟩ hS1 hl
  rw [← wd_set ha]
  exact hP1
theorem jj_aast (C : Cx X G own cc nL rm n0 rt) {a b : Nat} {i : Int32} (t ci : Nat) {q : vw_C} (hc : vwCl[ci]? = some q) (ht : (tyL G.2.2)[t]? = some (G.2.2 t, .object q.1)) (hd : decode cc pc = .ok (.aastore, 1)) (hv : astR t ci h a i b = some h2) (kk : J X G Z K h2 (pc + 1) L st) : J X G Z K h pc L (.ref b :: .int i :: .ref a :: st) := by
  obtain ⟨p, l, e, R, s, m, args, below, meth, c⟩ := X
  obtain ⟨hx, hb, hown, hts, hK, hlo, hlk, hm, hR, hrt⟩ := C
  intro H locs ls hW hS hl
  obtain ⟨n, f, e1, e2, e3, rfl⟩ := astR_inv hv
  obtain ⟨fs, e4⟩ := chk_inv e3
  have ha : a < K.2.2 := wf_lt hW.2 (by rw [e1]; exact pj_inl)
  have hb2 : b < K.2.2 := wf_lt hW.2 (by rw [e4]; exact pj_cl hc fs)
  refine va_astq (D := G.2.1) (f := fun i => (f i).map (fun a => G.1 + a)) (v := G.1 + b) hx hb hK hW.1 (wd_D G K.2.2 h) hS a t b ci (r := q) (vs := fs.map (tV G.1)) (by rw [wd_at ha, e1]; rfl) ht (by rw [wd_at hb2, e4]; rfl) hc e2 hd (fun H1 locs1 hP1 _ hS1 => ?_)
  refine kk H1 locs1 ls ⟨?_, wf_up hW.2 ha _⟩ hS1 hl
  rw [← wd_set ha]
  have e5 : (fun j => ((va_up f i.toNatClampNeg (some b)) j).map (fun a => G.1 + a)) = va_up (fun j => (f j).map (fun a => G.1 + a)) i.toNatClampNeg (some (G.1 + b)) := by
    funext j
    by_cases hj : j = i.toNatClampNeg
    · simp [va_up, hj]
    · simp [va_up, hj]
  have e6 : tE G (.inl (t, n, .inr (.inr (.inr (.inr (va_up f i.toNatClampNeg (some b))))))) = .inl (G.2.2 t, n, .inr (.inr (.inr (.inr (va_up (fun j => (f j).map (fun a => G.1 + a)) i.toNatClampNeg (some (G.1 + b))))))) := by rw [← e5]; rfl
  rw [e6]
  exact hP1
theorem jj_acp (C : Cx X G own cc nL rm n0 rt) {idx a b : Nat} {sp dp n : Int32} (hlk : Cond.methodLink own idx arraycopyName ∈ bigW) (hfr : 1 ≤ rm.frames) (hlc : (st.map fun v => v.category).sum + (nativeFrameWords "java/lang/System" "arraycopy" 5 + 11) ≤ rm.locals) (hd : decode cc pc = .ok (.invokestatic idx, 3)) (hv : acpI h a sp b dp n = some h2) (kk : J X G Z K h2 (pc + 3) L st) : J X G Z K h pc L (.int n :: .int dp :: .ref b :: .int sp :: .ref a :: st) := by
  obtain ⟨p, l, e, R, s, m, args, below, meth, c⟩ := X
  obtain ⟨hx, hb, hown, hts, hK, hlo, hlk0, hm, hR, hrt⟩ := C
  intro H locs ls hW hS hl
  obtain ⟨k, f, k2, g, e1, e2, e3, e4, e5, e6, e7, rfl⟩ := acpI_inv hv
  have ha : a < K.2.2 := wf_lt hW.2 (by rw [e1]; exact pj_inl)
  have hb2 : b < K.2.2 := wf_lt hW.2 (by rw [e2]; exact pj_inl)
  refine va_copyi (D := G.2.1) (ty := .int) hx hb hl.1.symm hown (hts _ hlk) (hts _ na_arraycopyName) (hts _ st_arraycopyName) (hts _ ini_J10) hK hW.1 (wd_D G K.2.2 h) hS a b 0 0 (by rw [wd_at ha, e1]; rfl) (by rw [wd_at hb2, e2]; rfl) rfl rfl rfl e3 e4 e5 e6 e7 (fun _ _ => rfl) (by rw [hR]; exact hfr) (by rw [hR, tV_cats]; exact hlc) hd (fun H1 locs1 hP1 _ hS1 => ?_)
  refine kk H1 locs1 ls ⟨?_, wf_up hW.2 hb2 _⟩ hS1 hl
  rw [← wd_set hb2]
  exact hP1
theorem jj_max (C : Cx X G own cc nL rm n0 rt) {idx : Nat} {x y : Int32} (hlk : Cond.methodLink own idx yJ9_max_7cf53 ∈ bigW) (hfr : 1 ≤ rm.frames) (hlc : (st.map fun v => v.category).sum + 13 ≤ rm.locals) (hc : K.1 ≤ rm.cells) (hs : K.2.1 ≤ rm.slots) (hd : decode cc pc = .ok (.invokestatic idx, 3)) (kk : J X G Z K h (pc + 3) L (.int (if x < y then y else x) :: st)) : J X G Z K h pc L (.int y :: .int x :: st) := by
  obtain ⟨p, l, e, R, s, m, args, below, meth, c⟩ := X
  obtain ⟨hx, hb, hown, hts, hK, hlo, hlk0, hm, hR, hrt⟩ := C
  intro H locs ls hW hS hl
  exact va_mmax hx hb hl.1.symm hown (hts _ hlk) (hts _ st_J9_max_7cf53) (hts _ ini_J9) (hts _ co_J9_max_7cf53) (by rw [hR]; exact hfr) (by rw [hR, tV_cats]; exact hlc) (by rw [hR]; exact hc) (by rw [hR]; exact hs) hd (kk H locs ls hW hS hl)
theorem jj_min (C : Cx X G own cc nL rm n0 rt) {idx : Nat} {x y : Int32} (hlk : Cond.methodLink own idx yJ9_min_7cf53 ∈ bigW) (hfr : 1 ≤ rm.frames) (hlc : (st.map fun v => v.category).sum + 13 ≤ rm.locals) (hc : K.1 ≤ rm.cells) (hs : K.2.1 ≤ rm.slots) (hd : decode cc pc = .ok (.invokestatic idx, 3)) (kk : J X G Z K h (pc + 3) L (.int (if y < x then y else x) :: st)) : J X G Z K h pc L (.int y :: .int x :: st) := by
  obtain ⟨p, l, e, R, s, m, args, below, meth, c⟩ := X
  obtain ⟨hx, hb, hown, hts, hK, hlo, hlk0, hm, hR, hrt⟩ := C
  intro H locs ls hW hS hl
  exact va_mmin hx hb hl.1.symm hown (hts _ hlk) (hts _ st_J9_min_7cf53) (hts _ ini_J9) (hts _ co_J9_min_7cf53) (by rw [hR]; exact hfr) (by rw [hR, tV_cats]; exact hlc) (by rw [hR]; exact hc) (by rw [hR]; exact hs) hd (kk H locs ls hW hS hl)
end JH
