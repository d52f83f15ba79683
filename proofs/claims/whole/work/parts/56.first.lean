/-! the two new objects: their shape and what they hold, seen by running the makers -/
def fz_aE (e : pE) : Nat → Int32 := match e with | .inl (_, _, .inl f) => f | _ => fun _ => 0
def fz_bE (e : pE) : Nat → Int64 := match e with | .inl (_, _, .inr (.inl f)) => f | _ => fun _ => 0
def fz_vE (e : pE) (k : Nat) : Int32 := match e with | .inr (_, l) => (match l[k]? with | some (.int v) => v | _ => 0) | _ => 0
def fz_iQ : tQ := (12, 3, 42, 43)
def fz_okF (r : Nat → Nat) : List Bool → List Value → Nat → Bool
  | [], [], _ => true
  | true :: bs, .int _ :: vs, k => fz_okF r bs vs (k + 1)
  | false :: bs, .ref x :: vs, k => Nat.beq x (r k) && fz_okF r bs vs (k + 1)
  | _, _, _ => false
def fz_okR (r : Nat → Nat) (f : Nat → Option Nat) : Nat → Bool
  | 0 => true
  | k + 1 => (match f k with | some x => Nat.beq x (r k) | none => false) && fz_okR r f k
def fz_okE (s : Nat × Nat) (r : Nat → Nat) (e : pE) : Bool := match e with
  | .inl (t, n, .inl _) => Nat.beq s.2 n && ((Nat.beq t 0 && Nat.beq s.1 10) || (Nat.beq t 2 && Nat.beq s.1 12))
  | .inl (t, n, .inr (.inl _)) => Nat.beq s.2 n && (Nat.beq t 1 && Nat.beq s.1 11)
  | .inl (t, n, .inr (.inr (.inr (.inr f)))) => Nat.beq s.2 n && (Nat.ble 3 t && (Nat.ble t 5 && (Nat.beq s.1 (t + 10) && fz_okR r f n)))
  | .inr (c, l) => Nat.beq s.1 c && (Nat.ble c 8 && fz_okF r (fkb c) l 0)
  | _ => false
theorem fz_okF_spec {r : Nat → Nat} {v : Nat → Int32} : ∀ (bs : List Bool) (vs : List Value) (k : Nat), fz_okF r bs vs k = true → (∀ j x, vs[j]? = some (.int x) → v (k + j) = x) → vs = bs.mapIdx (fun j t => if t = true then Value.int (v (k + j)) else .ref (r (k + j)))
  | [], [], _, _, _ => rfl
  | [], _ :: _, _, h, _ => by simp [fz_okF] at h
  | true :: bs, [], _, h, _ => by simp [fz_okF] at h
  | false :: bs, [], _, h, _ => by simp [fz_okF] at h
  | true :: bs, w :: vs, k, h, hv => by
    cases w with
    | int x =>
      have h1 : fz_okF r bs vs (k + 1) = true := by simpa [fz_okF] using h
      have ih := fz_okF_spec (v := v) bs vs (k + 1) h1 (fun j y hj => by
        have := hv (j + 1) y (by simpa using hj)
        rw [← this]; congr 1; omega)
      have e0 : v (k + 0) = x := hv 0 x rfl
      rw [List.mapIdx_cons]
      congr 1
      · simp [← e0]
      · rw [ih]
        congr 1
        funext j t
        rw [show k + 1 + j = k + (j + 1) from by omega]
    | _ => simp [fz_okF] at h
  | false :: bs, w :: vs, k, h, hv => by
    cases w with
    | ref x =>
      have h1 : Nat.beq x (r k) = true ∧ fz_okF r bs vs (k + 1) = true := by simpa [fz_okF] using h
      have ih := fz_okF_spec (v := v) bs vs (k + 1) h1.2 (fun j y hj => by
        have := hv (j + 1) y (by simpa using hj)
        rw [← this]; congr 1; omega)
      have e0 : x = r k := Nat.eq_of_beq_eq_true h1.1
      rw [List.mapIdx_cons]
      congr 1
      · simp [e0]
      · rw [ih]
        congr 1
        funext j t
        rw [show k + 1 + j = k + (j + 1) from by omega]
    | _ => simp [fz_okF] at h
theorem fz_okR_spec {r : Nat → Nat} {f : Nat → Option Nat} : ∀ n, fz_okR r f n = true → ∀ i, i < n → f i = some (r i)
  | 0, _, i, hi => by omega
  | n + 1, h, i, hi => by
    simp only [fz_okR, Bool.and_eq_true] at h
    by_cases z : i = n
    · subst z
      cases e : f i with
      | none => rw [e] at h; simp at h
      | some x => rw [e] at h; rw [Nat.eq_of_beq_eq_true h.1]
    · exact fz_okR_spec n h.2 i (by omega)
theorem fz_okE_spec {s : Nat × Nat} {r : Nat → Nat} {e : pE} (h : fz_okE s r e = true) (ht : fz_eT e) : e = ent s (fz_aE e) (fz_bE e) (fz_vE e) r := by
  obtain ⟨s1, s2⟩ := s
  unfold fz_okE at h
  split at h
  · rename_i t n f
    simp only [Bool.and_eq_true, Bool.or_eq_true] at h
    obtain ⟨h1, h2⟩ := h
    have e1 := Nat.eq_of_beq_eq_true h1
    rcases h2 with ⟨h2, h3⟩ | ⟨h2, h3⟩
    · have e2 := Nat.eq_of_beq_eq_true h2
      have e3 := Nat.eq_of_beq_eq_true h3
      subst e1 e2 e3
      rfl
    · have e2 := Nat.eq_of_beq_eq_true h2
      have e3 := Nat.eq_of_beq_eq_true h3
      subst e1 e2 e3
      rfl
  · rename_i t n f
    simp only [Bool.and_eq_true] at h
    obtain ⟨h1, h2, h3⟩ := h
    have e1 := Nat.eq_of_beq_eq_true h1
    have e2 := Nat.eq_of_beq_eq_true h2
    have e3 := Nat.eq_of_beq_eq_true h3
    subst e1 e2 e3
    rfl
  · rename_i t n f
    simp only [Bool.and_eq_true] at h
    obtain ⟨h1, h2, h3, h4, h5⟩ := h
    have e1 := Nat.eq_of_beq_eq_true h1
    have e2 : 3 ≤ t := Nat.le_of_ble_eq_true h2
    have e3 : t ≤ 5 := Nat.le_of_ble_eq_true h3
    have e4 := Nat.eq_of_beq_eq_true h4
    subst e1 e4
    have ef : f = fun i => if i < s2 then some (r i) else none := by
      funext i
      by_cases z : i < s2
      · rw [if_pos z]; exact fz_okR_spec s2 h5 i z
      · rw [if_neg z]; exact ht t s2 f rfl i (by omega)
    have a1 : ¬ t + 10 ≤ 8 := by omega
    have a2 : ¬ t + 10 = 10 := by omega
    have a3 : ¬ t + 10 = 11 := by omega
    have a4 : ¬ t + 10 = 12 := by omega
    have a5 : t + 10 ≤ 15 := by omega
    simp only [ent, if_neg a1, if_neg a2, if_neg a3, if_neg a4, if_pos a5, Nat.add_sub_cancel]
    rw [← ef]
  · rename_i c l
    simp only [Bool.and_eq_true] at h
    obtain ⟨h1, h2, h3⟩ := h
    have e1 := Nat.eq_of_beq_eq_true h1
    have e2 : c ≤ 8 := Nat.le_of_ble_eq_true h2
    subst e1
    have := fz_okF_spec (v := fz_vE (.inr (s1, l))) (fkb s1) l 0 h3 (fun j x hj => by
      rw [Nat.zero_add]
      show (match l[j]? with | some (.int v) => v | _ => 0) = x
      rw [hj])
    simp only [Nat.zero_add] at this
    simp only [ent, if_pos e2]
    rw [← this]
  · cases h
def fz_allB (f : Nat → Bool) : Nat → Bool
  | 0 => true
  | k + 1 => f k && fz_allB f k
theorem fz_allB_spec {f : Nat → Bool} : ∀ n, fz_allB f n = true → ∀ i, i < n → f i = true
  | 0, _, i, hi => by omega
  | n + 1, h, i, hi => by
    simp only [fz_allB, Bool.and_eq_true] at h
    by_cases z : i = n
    · subst z; exact h.1
    · exact fz_allB_spec n h.2 i (by omega)
def fz_tk (t : pH → Bool) : Bool := match mk0 700 with | some h => t h | none => false
theorem fz_tk_spec {t : pH → Bool} (h : fz_tk t = true) : ∃ h0, mk0 700 = some h0 ∧ t h0 = true := by
  unfold fz_tk at h
  cases e : mk0 700 with
  | none => rw [e] at h; cases h
  | some h0 => rw [e] at h; exact ⟨h0, rfl, h⟩
theorem fz_tk_get {t : pH → Bool} {h0 : pH} (h : fz_tk t = true) (e : mk0 700 = some h0) : t h0 = true := by
  unfold fz_tk at h
  rw [e] at h
  exact h
def fz_t1 (h : pH) : Bool := fz_allB (fun p => fz_okE (shp p) (rf fz_iQ p) (h p)) 91
def fz_t2 (h : pH) : Bool := decide (fz_vE (h 0) 3 = 0) && (decide (fz_vE (h 68) 5 = 0) && (decide (fz_vE (h 0) 5 = 0) && (decide (fz_vE (h 68) 6 = 0) && (decide (fz_vE (h 0) 8 = 0) && (decide (fz_vE (h 68) 25 = 0) && (decide (fz_vE (h 0) 15 = 0) && (decide (fz_vE (h 68) 1 = 0) && (decide (fz_vE (h 0) 16 = 0) && (decide (fz_vE (h 68) 0 = 0) && decide (fz_vE (h 0) 14 = 1))))))))))
def fz_t3 (h : pH) : Bool := fz_allB (fun k => decide (fz_vE (h (44 + 2 * k)) 3 = 0) && (decide (fz_aE (h 70) k = 0) && (decide (fz_vE (h (44 + 2 * k)) 1 = 0) && (decide (fz_aE (h 69) k = -9) && fz_allB (fun i => decide (fz_aE (h 71) (60 * k + i) = fz_aE (h (45 + 2 * k)) i)) 60)))) 4
def fz_t4 (h : pH) : Bool := fz_allB (fun k => decide (fz_aE (h 28) k = nI (shN k))) 121
theorem fz_c1 : fz_tk fz_t1 = true := by decide +kernel
theorem fz_c2 : fz_tk fz_t2 = true := by decide +kernel
theorem fz_c3 : fz_tk fz_t3 = true := by decide +kernel
theorem fz_c4 : fz_tk fz_t4 = true := by decide +kernel
theorem first_inv : ∃ h0, mk0 700 = some h0 ∧ InvH NOp SSp h0 := by
  obtain ⟨h0, e, q1⟩ := fz_tk_spec fz_c1
  have q2 := fz_tk_get fz_c2 e
  have q3 := fz_tk_get fz_c3 e
  have q4 := fz_tk_get fz_c4 e
  have hT := fz_tt_mk0 h0 e
  refine ⟨h0, e, fun p => fz_aE (h0 p), fun p => fz_bE (h0 p), fun p => fz_vE (h0 p), fz_iQ, 0, fun _ => 0, fun _ => 0, fun _ _ => 0, ?_, ?_⟩
  · funext p
    show h0 p = ent (shp p) (fz_aE (h0 p)) (fz_bE (h0 p)) (fz_vE (h0 p)) (rf fz_iQ p)
    by_cases z : p < 91
    · exact fz_okE_spec (fz_allB_spec 91 q1 p z) (hT.1 p)
    · have : shp p = (99, 0) := by
        unfold shp
        rw [List.getD_eq_getElem?_getD, List.getElem?_eq_none (by show 91 ≤ p; omega)]
        rfl
      rw [this, hT.2 p (by omega)]
      rfl
  · simp only [fz_t2, Bool.and_eq_true, decide_eq_true_eq] at q2
    obtain ⟨a1, a2, a3, a4, a5, a6, a7, a8, a9, a10, a11⟩ := q2
    refine ⟨⟨Or.inr ⟨rfl, rfl⟩, Or.inl ⟨rfl, rfl⟩⟩, ⟨by omega, a1, a2, fun w hw => by omega, fun w hw => by omega, fun w hw => by omega⟩, fun k hk => ?_, ⟨0, by omega, a3, a4, fun i hi => by omega⟩, ⟨0, by omega, a5, a6, fun i hi => by omega⟩, ⟨a7.trans a8.symm, a9.trans a10.symm⟩, fun k hk => ?_, Or.inl a11⟩
    · have z := fz_allB_spec 4 q3 k hk
      simp only [Bool.and_eq_true, decide_eq_true_eq] at z
      obtain ⟨b1, b2, b3, b4, b5⟩ := z
      exact ⟨⟨0, by omega, b1, b2⟩, Or.inl ⟨b3, b4⟩, fun i hi => of_decide_eq_true (fz_allB_spec 60 b5 i hi)⟩
    · exact of_decide_eq_true (fz_allB_spec 121 q4 k hk)
theorem all_steps : okAll (InvH NOp SSp) 700 := ⟨step_words NO_f (by omega), step_ofWord NO_f (by omega), step_spell NO_f, step_say NO_f (by omega), step_hush NO_f, step_row NO_f (by omega), step_over (by omega), step_all (by omega), step_have (by omega), step_free (by omega), step_longest (by omega), step_spare NO_f (by omega), step_reading NO_f (by omega), step_back NO_f, step_kinds NO_f (by omega), step_lasts NO_f (by omega), step_odds (by omega), step_sheet NO_f (by omega), step_lose NO_f, step_put NO_f, step_cell NO_f, step_copy NO_f (by omega), step_tell NO_f, step_spelt NO_f, step_as NO_f, step_trace, step_fault, step_many NO_f (by omega)⟩
