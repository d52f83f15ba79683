/-! A heap of the right shape: mk A B V q: A, B what int and long rows hold, V int fields, q the four references that change places (known, drafts, rows, longerRows) -/
abbrev tA2 : Type := Nat → Nat → Int32
abbrev tB2 : Type := Nat → Nat → Int64
abbrev tQ : Type := Nat × Nat × Nat × Nat
def shL : List (Nat × Nat) := [(7, 0), (13, 4), (5, 0), (14, 4), (6, 0), (10, 4), (6, 0), (10, 4), (6, 0), (10, 4), (6, 0), (10, 4), (14, 4), (6, 0), (10, 4), (6, 0), (10, 4), (6, 0), (10, 4), (6, 0), (10, 4), (10, 60), (10, 40), (15, 8), (6, 0), (10, 4), (10, 4), (1, 0), (10, 121), (10, 121), (10, 121), (12, 40), (10, 4), (2, 0), (10, 640), (10, 320), (10, 320), (10, 960), (10, 16), (0, 0), (11, 31), (11, 31), (11, 320), (11, 320), (4, 0), (10, 60), (4, 0), (10, 60), (4, 0), (10, 60), (4, 0), (10, 60), (3, 0), (10, 8), (3, 0), (10, 8), (3, 0), (10, 8), (3, 0), (10, 8), (3, 0), (10, 8), (3, 0), (10, 8), (3, 0), (10, 8), (3, 0), (10, 8), (8, 0), (10, 4), (10, 4), (10, 240), (10, 4), (10, 4), (10, 16), (10, 60), (10, 4), (10, 4), (10, 16), (10, 60), (10, 120), (10, 120), (10, 640), (11, 640), (11, 640), (10, 40), (10, 40), (10, 8), (10, 8), (10, 8), (10, 64)]
def shp (p : Nat) : Nat × Nat := shL.getD p (99, 0)
def fkL : List (List Bool) := [[false, false, false, false, true], [false, false, false, false, false, true], [false, false, false, false, false, true, true, true], [false, true, true, true], [false, true, true, true], [false, true], [false, true, true], [false, false, false, true, false, true, false, false, true, false, false, false, false, false, true, true, true], [true, true, false, false, false, true, true, false, false, false, false, true, true, false, false, false, false, true, false, false, false, false, false, false, false, true, false, false, false, false]]
def fkb (c : Nat) : List Bool := fkL.getD c []
def rf8 : List Nat := [0, 0, 69, 70, 71, 0, 0, 72, 73, 74, 75, 0, 0, 76, 77, 78, 79, 0, 80, 81, 82, 83, 84, 85, 86, 0, 87, 88, 89, 90]
def rf0 : List Nat := [1, 2, 0, 0, 21, 0, 22, 23, 0, 24, 26, 27, 33, 39]
def rf (q : tQ) (p k : Nat) : Nat := if p = 0 then (if k = 2 then q.1 else rf0.getD k 0) else if p = 1 then 44 + 2 * k else if p = 2 then q.2.1 else if p = 3 then 4 + 2 * k else if p = 12 then 13 + 2 * k else if p = 23 then 52 + 2 * k else if p = 27 then 28 + k else if p = 33 then 34 + k else if p = 39 then (if k = 2 then q.2.2.1 else if k = 3 then q.2.2.2 else 40 + k) else if p = 68 then rf8.getD k 0 else p + 1
def ent (s : Nat × Nat) (a : Nat → Int32) (b : Nat → Int64) (v : Nat → Int32) (r : Nat → Nat) : pE :=
  if s.1 ≤ 8 then .inr (s.1, (fkb s.1).mapIdx (fun k t => if t = true then .int (v k) else .ref (r k)))
  else if s.1 = 10 then .inl (0, s.2, .inl a)
  else if s.1 = 11 then .inl (1, s.2, .inr (.inl b))
  else if s.1 = 12 then .inl (2, s.2, .inl a)
  else if s.1 ≤ 15 then .inl (s.1 - 10, s.2, .inr (.inr (.inr (.inr (fun i => if i < s.2 then some (r i) else none)))))
  else pj
def mk (A : tA2) (B : tB2) (V : tA2) (q : tQ) : pH := fun p => ent (shp p) (A p) (B p) (V p) (rf q p)
def u2 {α : Type} (f : Nat → Nat → α) (p k : Nat) (x : α) : Nat → Nat → α := va_up f p (va_up (f p) k x)
theorem u2_s {α : Type} (f : Nat → Nat → α) (p k : Nat) (x : α) : u2 f p k x p k = x := by simp [u2, va_up]
theorem u2_p {α : Type} (f : Nat → Nat → α) {p k p' k' : Nat} (x : α) (h : p' ≠ p) : u2 f p k x p' k' = f p' k' := by simp [u2, va_up, h]
theorem u2_k {α : Type} (f : Nat → Nat → α) {p k p' k' : Nat} (x : α) (h : k' ≠ k) : u2 f p k x p' k' = f p' k' := by
  by_cases e : p' = p
  · subst e; simp [u2, va_up, h]
  · exact u2_p f x e
theorem u2_pp {α : Type} (f : Nat → Nat → α) {p k p' : Nat} (x : α) (h : p' ≠ p) : u2 f p k x p' = f p' := by
  funext k'; exact u2_p f x h
theorem upd_up (f : Nat → Int32) (k : Nat) (x : Int32) : upd f k x = va_up f k x := by funext j; rfl
theorem updL_up (f : Nat → Int64) (k : Nat) (x : Int64) : vp_updL f k x = va_up f k x := by funext j; rfl
section MK
variable {A : tA2} {B : tB2} {V : tA2} {q : tQ} {p k ci n : Nat}
theorem mk_obj (hs : (shp p).1 = ci) (hc : ci ≤ 8) : mk A B V q p = .inr (ci, (fkb ci).mapIdx (fun k t => if t = true then .int (V p k) else .ref (rf q p k))) := by
  subst hs
  simp [mk, ent, hc]
theorem mk_arr (hs : shp p = (10, n)) : mk A B V q p = .inl (0, n, .inl (A p)) := by simp [mk, ent, hs]
theorem mk_arrL (hs : shp p = (11, n)) : mk A B V q p = .inl (1, n, .inr (.inl (B p))) := by simp [mk, ent, hs]
theorem mk_arrZ (hs : shp p = (12, n)) : mk A B V q p = .inl (2, n, .inl (A p)) := by simp [mk, ent, hs]
theorem mk_arrR {t : Nat} (hs : shp p = (t + 10, n)) (h1 : 3 ≤ t) (h2 : t ≤ 5) : mk A B V q p = .inl (t, n, .inr (.inr (.inr (.inr (fun i => if i < n then some (rf q p i) else none))))) := by
  have e1 : ¬ t + 10 ≤ 8 := by omega
  have e2 : ¬ t + 10 = 10 := by omega
  have e3 : ¬ t + 10 = 11 := by omega
  have e4 : ¬ t + 10 = 12 := by omega
  have e5 : t + 10 ≤ 15 := by omega
  simp only [mk, ent, hs, if_neg e1, if_neg e2, if_neg e3, if_neg e4, if_pos e5, Nat.add_sub_cancel]
theorem mk_getI (hs : (shp p).1 = ci) (hc : ci ≤ 8) (hk : (fkb ci)[k]? = some true) : getI ci (mk A B V q) p k = some (V p k) := by
  unfold getI
  rw [mk_obj hs hc]
  simp [List.getElem?_mapIdx, hk]
theorem mk_getR (hs : (shp p).1 = ci) (hc : ci ≤ 8) (hk : (fkb ci)[k]? = some false) : getR ci (mk A B V q) p k = some (rf q p k) := by
  unfold getR
  rw [mk_obj hs hc]
  simp [List.getElem?_mapIdx, hk]
theorem mk_chk (hs : (shp p).1 = ci) (hc : ci ≤ 8) : chk ci (mk A B V q) p = some () := by
  unfold chk
  rw [mk_obj hs hc]
  simp
theorem mk_up {a : Nat → Int32} {b : Nat → Int64} {v : Nat → Int32} : va_up (mk A B V q) p (ent (shp p) a b v (rf q p)) = mk (va_up A p a) (va_up B p b) (va_up V p v) q := by
  funext j
  by_cases e : j = p
  · subst e; simp [mk, va_up]
  · simp [mk, va_up, e]
theorem up_same {α : Type} (f : Nat → α) (p : Nat) : va_up f p (f p) = f := by
  funext j
  by_cases e : j = p
  · subst e; simp [va_up]
  · simp [va_up, e]
theorem mk_putI (hs : (shp p).1 = ci) (hc : ci ≤ 8) (hk : (fkb ci)[k]? = some true) {x : Int32} : putV ci (mk A B V q) p k (.int x) = some (mk A B (u2 V p k x) q) := by
  have hl : k < (fkb ci).length := (List.getElem?_eq_some_iff.mp hk).1
  unfold putV
  rw [mk_obj hs hc]
  simp only [List.length_mapIdx, hl, and_self, if_true]
  congr 1
  have e := mk_up (A := A) (B := B) (V := V) (q := q) (p := p) (a := A p) (b := B p) (v := va_up (V p) k x)
  rw [up_same, up_same] at e
  refine Eq.trans ?_ e
  congr 1
  subst hs
  simp only [ent, hc, if_true]
  congr 2
  apply List.ext_getElem?
  intro j
  by_cases ej : j = k
  · subst ej
    rw [List.getElem?_set_self (by rw [List.length_mapIdx]; exact hl)]
    simp [List.getElem?_mapIdx, hk, va_up]
  · rw [List.getElem?_set_ne (Ne.symm ej)]
    simp [List.getElem?_mapIdx, va_up, ej]
theorem mk_putZ (hs : (shp p).1 = ci) (hc : ci ≤ 8) (hk : (fkb ci)[k]? = some true) {x : Int32} (hx : x = 0 ∨ x = 1) : putZ ci (mk A B V q) p k x = some (mk A B (u2 V p k x) q) := by
  unfold putZ
  rw [if_pos hx]
  exact mk_putI hs hc hk
theorem mk_aldI (hs : shp p = (10, n)) {i : Int32} (hi : inb i n = true) : aldI 0 (mk A B V q) p i = some (A p i.toNatClampNeg) := by
  unfold aldI
  rw [mk_arr hs]
  simp [hi]
theorem mk_aldZ (hs : shp p = (12, n)) {i : Int32} (hi : inb i n = true) : aldI 2 (mk A B V q) p i = some (A p i.toNatClampNeg) := by
  unfold aldI
  rw [mk_arrZ hs]
  simp [hi]
theorem mk_aldL (hs : shp p = (11, n)) {i : Int32} (hi : inb i n = true) : aldL (mk A B V q) p i = some (B p i.toNatClampNeg) := by
  unfold aldL
  rw [mk_arrL hs]
  simp [hi]
theorem mk_aldR {t : Nat} (hs : shp p = (t + 10, n)) (h1 : 3 ≤ t) (h2 : t ≤ 5) {i : Int32} (hi : inb i n = true) : aldR t (mk A B V q) p i = some (rf q p i.toNatClampNeg) := by
  unfold aldR
  rw [mk_arrR hs h1 h2]
  have : i.toNatClampNeg < n := by
    simp only [inb, Bool.and_eq_true, decide_eq_true_eq] at hi
    exact hi.2
  simp [hi, this]
theorem mk_alen (hs : shp p = (10, n)) : alen (mk A B V q) p = some (nI n) := by
  unfold alen
  rw [mk_arr hs]
  simp [nI]
theorem mk_alenL (hs : shp p = (11, n)) : alen (mk A B V q) p = some (nI n) := by
  unfold alen
  rw [mk_arrL hs]
  simp [nI]
theorem mk_astI (hs : shp p = (10, n)) {i x : Int32} (hi : inb i n = true) : astI 0 (mk A B V q) p i x = some (mk (u2 A p i.toNatClampNeg x) B V q) := by
  unfold astI
  rw [mk_arr hs]
  simp only [hi, and_self, if_true]
  congr 1
  have e := mk_up (A := A) (B := B) (V := V) (q := q) (p := p) (a := va_up (A p) i.toNatClampNeg x) (b := B p) (v := V p)
  rw [up_same, up_same] at e
  refine Eq.trans ?_ e
  congr 1
  simp [ent, hs, upd_up]
theorem mk_astZ (hs : shp p = (12, n)) {i x : Int32} (hi : inb i n = true) : astI 2 (mk A B V q) p i x = some (mk (u2 A p i.toNatClampNeg x) B V q) := by
  unfold astI
  rw [mk_arrZ hs]
  simp only [hi, and_self, if_true]
  congr 1
  have e := mk_up (A := A) (B := B) (V := V) (q := q) (p := p) (a := va_up (A p) i.toNatClampNeg x) (b := B p) (v := V p)
  rw [up_same, up_same] at e
  refine Eq.trans ?_ e
  congr 1
  simp [ent, hs, upd_up]
theorem mk_astL (hs : shp p = (11, n)) {i : Int32} {x : Int64} (hi : inb i n = true) : astL (mk A B V q) p i x = some (mk A (u2 B p i.toNatClampNeg x) V q) := by
  unfold astL
  rw [mk_arrL hs]
  simp only [hi, and_self, if_true]
  congr 1
  have e := mk_up (A := A) (B := B) (V := V) (q := q) (p := p) (a := A p) (b := va_up (B p) i.toNatClampNeg x) (v := V p)
  rw [up_same, up_same] at e
  refine Eq.trans ?_ e
  congr 1
  simp [ent, hs, updL_up]
theorem mk_acp {p2 n2 : Nat} (hs : shp p = (10, n)) (hs2 : shp p2 = (10, n2)) {sp dp m : Int32} (h1 : ¬ sp < 0) (h2 : ¬ dp < 0) (h3 : ¬ m < 0) (h4 : sp.toNatClampNeg + m.toNatClampNeg ≤ n) (h5 : dp.toNatClampNeg + m.toNatClampNeg ≤ n2) : acpI (mk A B V q) p sp p2 dp m = some (mk (va_up A p2 (va_cpy (A p) (A p2) sp.toNatClampNeg dp.toNatClampNeg m.toNatClampNeg)) B V q) := by
  unfold acpI
  rw [mk_arr hs, mk_arr hs2]
  simp only [h1, h2, h3, h4, h5, not_false_eq_true, and_self, if_true]
  congr 1
  have e := mk_up (A := A) (B := B) (V := V) (q := q) (p := p2) (a := va_cpy (A p) (A p2) sp.toNatClampNeg dp.toNatClampNeg m.toNatClampNeg) (b := B p2) (v := V p2)
  rw [up_same, up_same] at e
  refine Eq.trans ?_ e
  congr 1
  simp [ent, hs2]
end MK
theorem inb_nI {j n : Nat} (h : j < n) (hn : n < 2 ^ 31) : inb (nI j) n = true := by
  have h1 := nI_pos (n := j) (by omega)
  have h2 := nI_clamp (n := j) (by omega)
  simp [inb, h1, h2, h]
