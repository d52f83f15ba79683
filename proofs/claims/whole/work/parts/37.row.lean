/-! step: row -/
def pcN (x : Nat) : Nat := x % 2 + x / 2 % 2 + x / 4 % 2 + x / 8 % 2
theorem bc16 : ∀ x, x < 16 → x_J6_bitCount_0f7a4 0 (fun _ => pj) (nI x) = some (nI (pcN x)) := by decide
theorem bc_any {F : Nat} {h : pH} {x : Nat} (hx : x < 16) : x_J6_bitCount_0f7a4 F h (nI x) = some (nI (pcN x)) := bc16 x hx
theorem pc_bit {p : Nat → Bool} {m : Nat} (hm : m ≤ 4) : pcN (bitS p m) = cnt p 0 m := by
  rcases (show m = 0 ∨ m = 1 ∨ m = 2 ∨ m = 3 ∨ m = 4 by omega) with rfl | rfl | rfl | rfl | rfl
  · simp [bitS, orF, cnt, pcN]
  · simp only [bitS, orF, cnt, Nat.zero_add]; cases p 0 <;> decide
  · simp only [bitS, orF, cnt, Nat.zero_add]; cases p 0 <;> cases p 1 <;> decide
  · simp only [bitS, orF, cnt, Nat.zero_add]; cases p 0 <;> cases p 1 <;> cases p 2 <;> decide
  · simp only [bitS, orF, cnt, Nat.zero_add]; cases p 0 <;> cases p 1 <;> cases p 2 <;> cases p 3 <;> decide
def smF (s : Nat → Nat) : Nat → Nat → Nat
  | _, 0 => 0
  | j, d + 1 => s j + smF s (j + 1) d
theorem smF_add (s t : Nat → Nat) : ∀ (d j : Nat), smF (fun i => s i + t i) j d = smF s j d + smF t j d
  | 0, _ => rfl
  | d + 1, j => by
    simp only [smF]
    rw [smF_add s t d (j + 1)]
    omega
theorem smF_cnt (p : Nat → Bool) : ∀ (d j : Nat), smF (fun w => if p w = true then 1 else 0) j d = cnt p j d
  | 0, _ => rfl
  | d + 1, j => by
    simp only [smF, cnt]
    rw [smF_cnt p d (j + 1)]
theorem smF_z : ∀ (d j : Nat), smF (fun _ => 0) j d = 0
  | 0, _ => rfl
  | d + 1, j => by
    simp only [smF]
    rw [smF_z d (j + 1)]
theorem smF_x (p : Nat → Nat → Bool) (m : Nat) : ∀ (d j : Nat), smF (fun e => cnt (fun w => p w e) 0 m) j d = smF (fun w => cnt (p w) j d) 0 m
  | 0, j => by
    simp only [smF, cnt]
    exact (smF_z m 0).symm
  | d + 1, j => by
    simp only [smF, cnt]
    rw [smF_x p m d (j + 1), smF_add, smF_cnt]
theorem smF_congr {s s' : Nat → Nat} : ∀ (d j : Nat), (∀ i, j ≤ i → i < j + d → s i = s' i) → smF s j d = smF s' j d
  | 0, j, _ => rfl
  | d + 1, j, h => by
    simp only [smF]
    rw [h j (by omega) (by omega), smF_congr d (j + 1) (fun i h1 h2 => h i (by omega) (by omega))]
def fnS (h : Nat → Nat) (p : Nat → Bool) : Nat → Nat → Nat → Int32
  | _, 0, _ => -9
  | j, d + 1, a => if p (a ||| h j) = true then nI j else fnS h p (j + 1) d (a ||| h j)
theorem fnS_congr {h h' : Nat → Nat} {p p' : Nat → Bool} (hp : ∀ a, p a = p' a) : ∀ (d j a : Nat), (∀ i, j ≤ i → i < j + d → h i = h' i) → fnS h p j d a = fnS h' p' j d a
  | 0, _, _, _ => rfl
  | d + 1, j, a, hh => by
    simp only [fnS]
    rw [hh j (by omega) (by omega), hp, fnS_congr hp d (j + 1) _ (fun i h1 h2 => hh i (by omega) (by omega))]
theorem nI_n9 {j : Nat} (h : j < 2 ^ 31) : ¬ nI j = -9 := by
  intro z
  have := congrArg Int32.toInt z
  rw [nI_toInt h] at this
  have e : (-9 : Int32).toInt = -9 := rfl
  rw [e] at this
  omega
theorem full4 {m : Nat} (hm : m ≤ 4) : (1 : Int32) <<< (nI m &&& 31) - 1 = nI (2 ^ m - 1) := by
  rcases (show m = 0 ∨ m = 1 ∨ m = 2 ∨ m = 3 ∨ m = 4 by omega) with rfl | rfl | rfl | rfl | rfl <;> decide
theorem or_lt16 {a b : Nat} (ha : a < 16) (hb : b < 16) : a ||| b < 16 := Nat.or_lt_two_pow (n := 4) ha hb
theorem full_lt {m : Nat} (hm : m ≤ 4) : 2 ^ m - 1 < 16 := by
  rcases (show m = 0 ∨ m = 1 ∨ m = 2 ∨ m = 3 ∨ m = 4 by omega) with rfl | rfl | rfl | rfl | rfl <;> decide
section RW
variable {A : tA2} {B : tB2} {V : tA2} {q : tQ} {F : Nat}
theorem x7_ht_loop {m : Nat} {kd ln : Nat → Nat} {lt : Nat → Nat → Int32} (hq : okQ q) (hm : m ≤ 4) (hX : repX A V q.1 m kd ln lt) (v1 : V 0 3 = nI m) {t : Nat} (ht : t ≤ 40) (hF : 20 ≤ F) {what : Int32} : ∀ (d u e acc ti : Nat) (f c : Int32), e + d = t + 1 → d < u → acc < 16 → ti + 4 * d < 2 ^ 20 → x_X7_heardInTold_26 F (mk A B V q) 0 (nI t) what (nI (2 ^ m - 1)) u (nI acc) (nI ti) f c (nI e) = some (if what = 0 then nI (orF (fun e => bitS (fun w => hWb (kd w) (ln w) (lt w) (A 22) e) m) e d acc) else if what = 1 then (if f = -9 then fnS (fun e => bitS (fun w => hWb (kd w) (ln w) (lt w) (A 22) e) m) (fun s => decide (s ≠ 0)) e d acc else f) else if what = 2 then (if c = -9 then fnS (fun e => bitS (fun w => hWb (kd w) (ln w) (lt w) (A 22) e) m) (fun s => decide (s = 2 ^ m - 1)) e d acc else c) else nI (ti + smF (fun e => cnt (fun w => hWb (kd w) (ln w) (lt w) (A 22) e) 0 m) e d)) := by
  intro d
  induction d with
  | zero =>
    intro u e acc ti f c he hu ha hti
    obtain ⟨u, rfl⟩ : ∃ z, u = z + 1 := ⟨u - 1, by omega⟩
    show s_X7_heardInTold_26 _ _ _ _ _ _ _ _ _ _ _ _ = _
    unfold s_X7_heardInTold_26
    rw [if_pos ((nI_ltI (by omega) (by omega)).mpr (by omega))]
    by_cases h0 : what = 0
    · rw [if_pos h0, if_pos h0]; rfl
    · rw [if_neg h0, if_neg h0]
      by_cases h1 : what = 1
      · rw [if_pos h1, if_pos h1]
        by_cases hf : f = -9
        · rw [if_pos hf, hf]; rfl
        · rw [if_neg hf]
      · rw [if_neg h1, if_neg h1]
        by_cases h2 : what = 2
        · rw [if_pos h2, if_pos h2]
          by_cases hf : c = -9
          · rw [if_pos hf, hf]; rfl
          · rw [if_neg hf]
        · rw [if_neg h2, if_neg h2]
          simp [smF]
  | succ d ih =>
    intro u e acc ti f c he hu ha hti
    obtain ⟨u, rfl⟩ : ∃ z, u = z + 1 := ⟨u - 1, by omega⟩
    obtain ⟨hs, ehs⟩ : ∃ hs : Nat → Nat, hs = fun e => bitS (fun w => hWb (kd w) (ln w) (lt w) (A 22) e) m := ⟨_, rfl⟩
    have hlt : hs e < 16 := by rw [ehs]; exact bitS_lt _ (n := 4) hm
    have hpc : pcN (hs e) = cnt (fun w => hWb (kd w) (ln w) (lt w) (A 22) e) 0 m := by rw [ehs]; exact pc_bit hm
    have hp4 : pcN (hs e) ≤ 4 := by unfold pcN; omega
    have ho := or_lt16 ha hlt
    have hfull := full_lt hm
    have c84 : ∀ f', x_X7_heardInTold_84 F (x_X7_heardInTold_26 F (mk A B V q) 0 (nI t) what (nI (2 ^ m - 1)) u) (mk A B V q) 0 (nI t) what (nI (2 ^ m - 1)) (nI (acc ||| hs e)) (nI (ti + pcN (hs e))) f' c (nI e) = x_X7_heardInTold_101 F (x_X7_heardInTold_26 F (mk A B V q) 0 (nI t) what (nI (2 ^ m - 1)) u) (mk A B V q) 0 (nI t) what (nI (2 ^ m - 1)) (nI (acc ||| hs e)) (nI (ti + pcN (hs e))) f' (if c = -9 then (if acc ||| hs e = 2 ^ m - 1 then nI e else -9) else c) (nI e) := fun f' => by
      unfold x_X7_heardInTold_84
      by_cases hc : c = -9
      · rw [if_pos hc, if_pos hc]
        by_cases z : acc ||| hs e = 2 ^ m - 1
        · rw [if_pos (by rw [z]), if_pos z]
        · rw [if_neg (nI_eq' (by omega) (by omega) z), if_neg z, hc]
      · rw [if_neg hc, if_neg hc]
    have top : x_X7_heardInTold_26 F (mk A B V q) 0 (nI t) what (nI (2 ^ m - 1)) (u + 1) (nI acc) (nI ti) f c (nI e) = x_X7_heardInTold_84 F (x_X7_heardInTold_26 F (mk A B V q) 0 (nI t) what (nI (2 ^ m - 1)) u) (mk A B V q) 0 (nI t) what (nI (2 ^ m - 1)) (nI (acc ||| hs e)) (nI (ti + pcN (hs e))) (if f = -9 then (if acc ||| hs e ≠ 0 then nI e else -9) else f) c (nI e) := by
      show s_X7_heardInTold_26 _ _ _ _ _ _ _ _ _ _ _ _ = _
      unfold s_X7_heardInTold_26
      have hb := x7_heardBy (B := B) (q := q) (F := F) (okQ_kn hq) hm hX (r := 22) (N := 40) rfl (by omega) (show e ≤ 40 by omega) (by omega)
      rw [show bitS (fun w => hWb (kd w) (ln w) (lt w) (A 22) e) m = hs e by rw [ehs]] at hb
      rw [if_neg (fun z => by have := (nI_ltI (by omega) (by omega)).mp z; omega), r_0_2, bs, g_0_3, bs, r_0_6, bs, v1, hb, bs, bc_any hlt, bs, nIor, nI_add]
      by_cases hf : f = -9
      · rw [if_pos hf, if_pos hf]
        by_cases z : acc ||| hs e = 0
        · rw [if_pos (by rw [z]; rfl), if_neg (by omega), hf]
        · rw [if_neg (nz0 z (by omega)), if_pos z]
      · rw [if_neg hf, if_neg hf]
    rw [top, c84]
    unfold x_X7_heardInTold_101
    rw [nI_1, ih u (e + 1) (acc ||| hs e) (ti + pcN (hs e)) _ _ (by omega) (by omega) ho (by omega)]
    congr 1
    rw [← ehs]
    by_cases h0 : what = 0
    · rw [if_pos h0, if_pos h0]; rfl
    · rw [if_neg h0, if_neg h0]
      by_cases h1 : what = 1
      · rw [if_pos h1, if_pos h1]
        by_cases hf : f = -9
        · rw [if_pos hf, if_pos hf]
          simp only [fnS]
          by_cases z : acc ||| hs e = 0
          · rw [if_neg (show ¬ (acc ||| hs e ≠ 0) by omega), if_pos rfl, if_neg (by simp [z])]
          · rw [if_pos z, if_neg (nI_n9 (by omega)), if_pos (by simp [z])]
        · rw [if_neg hf, if_neg hf, if_neg hf]
      · rw [if_neg h1, if_neg h1]
        by_cases h2 : what = 2
        · rw [if_pos h2, if_pos h2]
          by_cases hf : c = -9
          · rw [if_pos hf, if_pos hf]
            simp only [fnS]
            by_cases z : acc ||| hs e = 2 ^ m - 1
            · rw [if_pos z, if_neg (nI_n9 (by omega)), if_pos (decide_eq_true z)]
            · rw [if_neg z, if_pos rfl, if_neg (by simp [z])]
          · rw [if_neg hf, if_neg hf, if_neg hf]
        · rw [if_neg h2, if_neg h2]
          simp only [smF]
          rw [hpc, Nat.add_assoc]
theorem x7_heardInTold {m : Nat} {kd ln : Nat → Nat} {lt : Nat → Nat → Int32} (hq : okQ q) (hm : m ≤ 4) (hX : repX A V q.1 m kd ln lt) (v1 : V 0 3 = nI m) {t : Nat} (ht : t ≤ 40) (hF : 50 ≤ F) {what : Int32} : x_X7_heardInTold F (mk A B V q) 0 (nI t) what = some (if what = 0 then nI (orF (fun e => bitS (fun w => hWb (kd w) (ln w) (lt w) (A 22) e) m) 1 t 0) else if what = 1 then fnS (fun e => bitS (fun w => hWb (kd w) (ln w) (lt w) (A 22) e) m) (fun s => decide (s ≠ 0)) 1 t 0 else if what = 2 then fnS (fun e => bitS (fun w => hWb (kd w) (ln w) (lt w) (A 22) e) m) (fun s => decide (s = 2 ^ m - 1)) 1 t 0 else nI (smF (fun e => cnt (fun w => hWb (kd w) (ln w) (lt w) (A 22) e) 0 m) 1 t)) := by
  unfold x_X7_heardInTold
  rw [c_0, bs, g_0_3, bs, v1, full4 hm]
  have := x7_ht_loop (B := B) (F := F) hq hm hX v1 ht (by omega) (what := what) t F 1 0 0 (-9) (-9) (by omega) (by omega) (by omega) (by omega)
  rw [nI_0, ← e1, if_pos rfl, if_pos rfl, Nat.zero_add] at this
  exact this
theorem x8_ah_loop {m : Nat} {kd ln : Nat → Nat} {lt : Nat → Nat → Int32} (hm : m ≤ 4) (h : repM A m kd ln lt) (hV : V 68 5 = nI m) {t : Nat} (ht : t ≤ 60) (hV2 : V 68 17 = nI t) (hF : 70 ≤ F) : ∀ (d u w acc : Nat), w + d = m → d < u → x_X8_allHeard_4 F (mk A B V q) 68 u (nI acc) (nI w) = some (nI (acc + smF (fun w => cnt (hWb (kd w) (ln w) (lt w) (A 79)) 1 t) w d)) := by
  intro d
  induction d with
  | zero =>
    intro u w acc hw hu
    obtain ⟨u, rfl⟩ : ∃ z, u = z + 1 := ⟨u - 1, by omega⟩
    show s_X8_allHeard_4 _ _ _ _ _ _ = _
    unfold s_X8_allHeard_4
    rw [g_68_5, bs, hV, if_pos ((nI_leI (by omega) (by omega)).mpr (by omega))]
    rfl
  | succ d ih =>
    intro u w acc hw hu
    obtain ⟨u, rfl⟩ : ∃ z, u = z + 1 := ⟨u - 1, by omega⟩
    show s_X8_allHeard_4 _ _ _ _ _ _ = _
    unfold s_X8_allHeard_4
    rw [g_68_5, bs, hV, if_neg (fun z => by have := (nI_leI (by omega) (by omega)).mp z; omega), x8_timesHeard hm h (by omega) ht hV2 hF, bs, nI_1, nI_add, ih u (w + 1) _ (by omega) (by omega)]
    simp only [smF]
    rw [Nat.add_assoc]
theorem x8_allHeard {m : Nat} {kd ln : Nat → Nat} {lt : Nat → Nat → Int32} (hm : m ≤ 4) (h : repM A m kd ln lt) (hV : V 68 5 = nI m) {t : Nat} (ht : t ≤ 60) (hV2 : V 68 17 = nI t) (hF : 70 ≤ F) : x_X8_allHeard F (mk A B V q) 68 = some (nI (smF (fun w => cnt (hWb (kd w) (ln w) (lt w) (A 79)) 1 t) 0 m)) := by
  unfold x_X8_allHeard
  rw [c_68, bs]
  have := x8_ah_loop (B := B) (q := q) hm h hV ht hV2 hF m F 0 0 (by omega) (by omega)
  rw [nI_0, Nat.zero_add] at this
  exact this
theorem x8_hby_loop {m : Nat} {kd ln : Nat → Nat} {lt : Nat → Nat → Int32} (hm : m ≤ 4) (h : repM A m kd ln lt) (hV : V 68 5 = nI m) {t : Nat} (ht : t ≤ 60) (hV2 : V 68 17 = nI t) (hF : 70 ≤ F) {any : Bool} : ∀ (d u e acc : Nat), e + d = t + 1 → d < u → acc < 16 → x_X8_heardBy_4 F (mk A B V q) 68 (cI any) u (nI acc) (nI e) = some (fnS (fun e => bitS (fun w => hWb (kd w) (ln w) (lt w) (A 79) e) m) (fun s => (any && decide (s ≠ 0)) || decide (s = 2 ^ m - 1)) e d acc) := by
  have hfull := full_lt hm
  intro d
  induction d with
  | zero =>
    intro u e acc he hu ha
    obtain ⟨u, rfl⟩ : ∃ z, u = z + 1 := ⟨u - 1, by omega⟩
    show s_X8_heardBy_4 _ _ _ _ _ _ _ = _
    unfold s_X8_heardBy_4
    rw [g_68_17, bs, hV2, if_pos ((nI_ltI (by omega) (by omega)).mpr (by omega))]
    rfl
  | succ d ih =>
    intro u e acc he hu ha
    obtain ⟨u, rfl⟩ : ∃ z, u = z + 1 := ⟨u - 1, by omega⟩
    obtain ⟨hs, ehs⟩ : ∃ hs : Nat → Nat, hs = fun e => bitS (fun w => hWb (kd w) (ln w) (lt w) (A 79) e) m := ⟨_, rfl⟩
    have hlt : hs e < 16 := by rw [ehs]; exact bitS_lt _ (n := 4) hm
    have hb := x8_heardBehind (B := B) (q := q) (F := F) hm h hV (show e ≤ 60 by omega) (by omega)
    rw [show bitS (fun w => hWb (kd w) (ln w) (lt w) (A 79) e) m = hs e by rw [ehs]] at hb
    have ho := or_lt16 ha hlt
    show s_X8_heardBy_4 _ _ _ _ _ _ _ = _
    unfold s_X8_heardBy_4 x_X8_heardBy_28
    rw [g_68_17, bs, hV2, if_neg (fun z => by have := (nI_ltI (by omega) (by omega)).mp z; omega), hb, bs, nIor, nI_1, g_68_5, bs, hV, full4 hm, ih u (e + 1) _ (by omega) (by omega) ho]
    rw [← ehs]
    simp only [fnS]
    have hm1 : (if nI (acc ||| hs e) = nI (2 ^ m - 1) then some (nI e) else some (fnS hs (fun s => (any && decide (s ≠ 0)) || decide (s = 2 ^ m - 1)) (e + 1) d (acc ||| hs e))) = some (if acc ||| hs e = 2 ^ m - 1 then nI e else fnS hs (fun s => (any && decide (s ≠ 0)) || decide (s = 2 ^ m - 1)) (e + 1) d (acc ||| hs e)) := by
      by_cases z : acc ||| hs e = 2 ^ m - 1
      · rw [if_pos (by rw [z]), if_pos z]
      · rw [if_neg (nI_eq' (by omega) (by omega) z), if_neg z]
    rw [hm1]
    cases any
    · rw [if_pos cI_f]
      simp
    · rw [if_neg (by decide)]
      by_cases z : acc ||| hs e = 0
      · rw [if_pos (by rw [z]; rfl)]
        simp [z]
      · rw [if_neg (nz0 z (by omega))]
        simp [z]
theorem x8_heardBy {m : Nat} {kd ln : Nat → Nat} {lt : Nat → Nat → Int32} (hm : m ≤ 4) (h : repM A m kd ln lt) (hV : V 68 5 = nI m) {t : Nat} (ht : t ≤ 60) (hV2 : V 68 17 = nI t) (hF : 70 ≤ F) {any : Bool} : x_X8_heardBy F (mk A B V q) 68 (cI any) = some (fnS (fun e => bitS (fun w => hWb (kd w) (ln w) (lt w) (A 79) e) m) (fun s => (any && decide (s ≠ 0)) || decide (s = 2 ^ m - 1)) 1 t 0) := by
  unfold x_X8_heardBy
  rw [c_68, bs]
  exact x8_hby_loop hm h hV ht hV2 hF t F 1 0 (by omega) (by omega) (by omega)
theorem x7_isOfRow {h : pH} {a : Int32} : x_X7_isOfRow F h a = some (cI (inb a 4 || decide (10 ≤ a.toInt ∧ a.toInt ≤ 13))) := by
  unfold x_X7_isOfRow x_X7_isOfRow_20
  rw [show (4 : Int32) = nI 4 from rfl, x7_isBelow (by omega), bs]
  cases inb a 4
  · rw [if_pos cI_f, Bool.false_or]
    have t10 : (10 : Int32).toInt = 10 := rfl
    have t14 : (14 : Int32).toInt = 14 := rfl
    by_cases h1 : a < 10
    · rw [if_pos h1, decide_eq_false]; rfl
      rw [Int32.lt_iff_toInt_lt, t10] at h1; omega
    · rw [if_neg h1]
      rw [Int32.lt_iff_toInt_lt, t10] at h1
      by_cases h2 : 14 ≤ a
      · rw [if_pos h2, decide_eq_false]; rfl
        rw [Int32.le_iff_toInt_le, t14] at h2; omega
      · rw [if_neg h2, decide_eq_true]; rfl
        rw [Int32.le_iff_toInt_le, t14] at h2; omega
  · rfl
end RW
section ST12
variable {NO : tNO} {SS : (Nat → Int32) → Prop} {F : Nat}
theorem step_row (hNO : NOf NO) (hF : 300 ≤ F) : st_row (InvH NO SS) F := by
  intro h a1 a2 a3 a4 a5 hI
  obtain ⟨A, B, V, q, m, kd, ln, lt, rfl, hI⟩ := hI
  have hI0 := hI
  obtain ⟨hq, hW, hS, hZ, hR, hT, hSS, hN⟩ := hI
  obtain ⟨hm, v1, v2, hX, hM, hL⟩ := id hW
  have ff := fun x => inv_fault hNO hI0 x
  have T3 : (3 : Int32) = nI 3 := rfl
  have T40 : (40 : Int32) = nI 40 := rfl
  have b3 : ∀ {h : pH}, x_X7_isBelow F h a2 (nI 3) = some (cI (inb a2 3)) := x7_isBelow (by omega)
  have w40 : ∀ {h : pH}, x_X8_within F h a4 0 40 = some (cI (inb a4 41)) := x8_within (n := 41) rfl
  have w3 : ∀ {h : pH}, x_X8_within F h a5 0 3 = some (cI (inb a5 4)) := x8_within (n := 4) rfl
  have nt : ¬ cI true = 0 := by decide
  have triv : ∀ r : Int32, x_X7_row F (mk A B V q) 0 a1 a2 a3 a4 a5 = some (r, mk A B (u2 V 0 16 0) q) → x_X8_row F (mk A B (u2 V 0 16 0) q) 68 a1 a2 a3 a4 a5 = some (r, mk A B (u2 (u2 V 0 16 0) 68 0 0) q) → ∃ (q1 : Int32 × pH) (q2 : Int32 × pH), x_X7_row F (mk A B V q) 0 a1 a2 a3 a4 a5 = some q1 ∧ x_X8_row F q1.2 68 a1 a2 a3 a4 a5 = some q2 ∧ q1.1 = q2.1 ∧ InvH NO SS q2.2 := fun r e1 e2 => ⟨(r, _), (r, _), e1, e2, rfl, A, B, _, q, m, kd, ln, lt, rfl, ff 0⟩
  cases hb1 : inb a1 4
  · refine triv (-1) ?_ ?_
    · unfold x_X7_row
      rw [c_0, bs, w_0_16, bs, x7_isSheet, bs, hb1, if_pos cI_f]
    · unfold x_X8_row
      rw [c_68, bs, w_68_0, bs, x8_isSheet, bs, hb1, if_pos cI_f]
  · cases hb2 : inb a2 3
    · refine triv (-2) ?_ ?_
      · unfold x_X7_row
        rw [c_0, bs, w_0_16, bs, x7_isSheet, bs, hb1, if_neg nt, T3, b3, bs, hb2, if_pos cI_f]
      · unfold x_X8_row
        rw [c_68, bs, w_68_0, bs, x8_isSheet, bs, hb1, if_neg nt, x8_isSort, bs, hb2, if_pos cI_f]
    · cases hb4 : inb a4 41
      · refine triv (-2) ?_ ?_
        · unfold x_X7_row
          rw [c_0, bs, w_0_16, bs, x7_isSheet, bs, hb1, if_neg nt, T3, b3, bs, hb2, if_neg nt]
          refine Eq.trans (ifR (c := 40) (by omega) _ _) ?_
          rw [hb4]; rfl
        · unfold x_X8_row
          rw [c_68, bs, w_68_0, bs, x8_isSheet, bs, hb1, if_neg nt, x8_isSort, bs, hb2, if_neg nt, w40, bs, hb4, if_pos cI_f]
      · obtain ⟨n4, n4'⟩ := inb_lo (c := 40) hb4 (by omega)
        rw [← T40] at n4'
        cases hb5 : (inb a5 4 || decide (10 ≤ a5.toInt ∧ a5.toInt ≤ 13))
        · refine triv (-2) ?_ ?_
          · unfold x_X7_row
            rw [c_0, bs, w_0_16, bs, x7_isSheet, bs, hb1, if_neg nt, T3, b3, bs, hb2, if_neg nt, if_neg n4, if_neg n4', x7_isOfRow, bs, hb5, if_pos cI_f]
          · unfold x_X8_row
            rw [Bool.or_eq_false_iff] at hb5
            rw [c_68, bs, w_68_0, bs, x8_isSheet, bs, hb1, if_neg nt, x8_isSort, bs, hb2, if_neg nt, w40, bs, hb4, if_neg nt, w3, bs, hb5.1, if_pos cI_f, within10, bs, hb5.2, if_pos cI_f]
        · obtain ⟨k, hk, rfl⟩ := inb_ex hb1 (by omega)
          obtain ⟨t, la, l, hD⟩ := SI_D hS hk
          have hD7 : shD A (u2 V 0 16 0) k t la l := shD_c hD (u2_pp _ _ (by omega)) rfl rfl rfl rfl
          have hD8 : ∀ A' x, A' 70 = A 70 → A' 69 = A 69 → A' 71 = A 71 → A' (45 + 2 * k) = A (45 + 2 * k) → shD A' (u2 (u2 V 0 16 x) 68 0 0) k t la l := fun A' x h1 h2 h3 h4 => shD_c hD (by rw [u2_pp _ _ (by omega), u2_pp _ _ (by omega)]) h1 h2 h3 h4
          have top7 : x_X7_row F (mk A B V q) 0 (nI k) a2 a3 a4 a5 = (x_X4_faultOfCells F (mk A B (u2 V 0 16 0) q) (44 + 2 * k) a2 a3 a4).bind fun v7 => if v7 = 0 then (getI 7 (mk A B (u2 V 0 16 0) q) 0 3).bind fun v8 => if v8 = 0 then some ((-3 : Int32), (mk A B (u2 V 0 16 0) q)) else (x_X4_lettersTo F (mk A B (u2 V 0 16 0) q) (44 + 2 * k) 22 a3 a4).bind fun v12 => if v12.1 = 0 then some ((-2 : Int32), v12.2) else if 10 ≤ a5 then (x_X7_isWord F v12.2 0 (a5 - (10 : Int32))).bind fun v13 => if v13 = 0 then some ((-9 : Int32), v12.2) else (getR 7 v12.2 0 2).bind fun v14 => (aldR 4 v12.2 v14 (a5 - (10 : Int32))).bind fun v15 => (getR 7 v12.2 0 6).bind fun v16 => (x_X6_timesIn F v12.2 v15 v16 a4).bind fun v17 => some (v17, v12.2) else (x_X7_heardInTold F v12.2 0 a4 a5).bind fun v18 => some (v18, v12.2) else (x_X7_failWith F (mk A B (u2 V 0 16 0) q) 0 v7).bind fun v19 => some (v19.1, v19.2) := by
            unfold x_X7_row
            simp only [c_0, bs, w_0_16, x7_isSheet, hb1, if_neg nt, T3, b3, hb2, if_neg n4, if_neg n4', x7_isOfRow, hb5, r_0_0, l_sh hk, r_0_6]
          have top8 : ∀ A' x, x_X8_row F (mk A' B (u2 V 0 16 x) q) 68 (nI k) a2 a3 a4 a5 = x_X8_row_57 F (mk A' B (u2 (u2 V 0 16 x) 68 0 0) q) 68 (nI k) a2 a3 a4 a5 := fun A' x => by
            unfold x_X8_row
            rw [c_68, bs, w_68_0, bs, x8_isSheet, bs, hb1, if_neg nt, x8_isSort, bs, hb2, if_neg nt, w40, bs, hb4, if_neg nt, w3, bs]
            cases hb6 : inb a5 4
            · rw [hb6, Bool.false_or] at hb5
              rw [if_pos cI_f, within10, bs, hb5, if_neg nt]
            · rw [if_neg nt]
          rw [top7, x4_faultOfCells hk hD7, bs]
          by_cases hf0 : fcN t la l a2 a3 a4 = 0
          · have hc : hcB a3 a4 l = true := fcN_0 hf0
            have hl := hD.2.1
            rw [hf0, if_pos nI_0, g_0_3, bs, u2_k _ _ (by omega), v1]
            by_cases h0 : m = 0
            · rw [if_pos (by rw [h0]; rfl)]
              refine ⟨(-3, _), (-3, mk A B (u2 (u2 V 0 16 0) 68 0 0) q), rfl, ?_, rfl, A, B, _, q, m, kd, ln, lt, rfl, ff 0⟩
              rw [top8]
              unfold x_X8_row_57
              rw [x8_against hk (hD8 A 0 rfl rfl rfl rfl), bs, hf0, if_pos nI_0, g_68_5, bs, u2_k _ _ (by omega), u2_p _ _ (by omega), v2, h0, if_pos nI_0]
            · rw [if_neg (nz0 h0 (by omega))]
              obtain ⟨a, b, hab, rfl, rfl⟩ := hcB_ex hc (by omega)
              have hb40 : b ≤ 40 := by
                obtain ⟨z1, z2⟩ := inb_iff.mp hb4
                rw [nI_toInt (by omega)] at z2
                omega
              obtain ⟨g, L7, Lg⟩ := x4_lettersTo (B := B) (q := q) (F := F) (A := A) (V := u2 V 0 16 0) (k := k) (a := a) (b := b) (l := l) hk hD7.2.2.2.2.1 hl hab hb40 (by omega)
              have L8 := x8_areLetters (B := B) (q := q) (F := F) (A := va_up A 22 g) (V := u2 (u2 V 0 16 0) 68 0 0) (f := 60 * k + a) (b := b) (by omega) (by omega)
              have er : alF (fun i => inb (va_up A 22 g 71 (60 * k + a + i)) 3) 0 b = alF (fun i => inb (A (45 + 2 * k) (a + i)) 3) 0 b := alF_congr b 0 (fun i _ hi => by
                rw [up_ne _ _ (show 71 ≠ 22 by omega), Nat.add_assoc, hD.2.2.2.2.2.2.2.2 (a + i) (by omega)])
              rw [er] at L8
              have I1 : InvW NO SS (va_up A 22 g) B (u2 (u2 V 0 16 0) 68 0 0) q m kd ln lt := inv_scr hNO (ff 0) (fun p hp => up_ne _ _ (fun z => hp (by unfold scrA; omega))) (fun _ _ _ => rfl) (fun _ _ _ => rfl)
              have t8 : ∀ X : Option (Int32 × pH), x_X8_row_57 F (mk (va_up A 22 g) B (u2 (u2 V 0 16 0) 68 0 0) q) 68 (nI k) a2 (nI a) (nI b) a5 = X → x_X8_row F (mk (va_up A 22 g) B (u2 V 0 16 0) q) 68 (nI k) a2 (nI a) (nI b) a5 = X := fun X e => by rw [top8]; exact e
              have D8 := hD8 (va_up A 22 g) 0 (up_ne _ _ (by omega)) (up_ne _ _ (by omega)) (up_ne _ _ (by omega)) (up_ne _ _ (by omega))
              rw [L7, bs]
              cases hbl : alF (fun i => inb (A (45 + 2 * k) (a + i)) 3) 0 b
              · rw [hbl] at L8
                rw [if_pos cI_f]
                refine ⟨(-2, mk (va_up A 22 g) B (u2 V 0 16 0) q), (-2, mk (va_up A 22 g) B (u2 (u2 V 0 16 0) 68 0 0) q), rfl, t8 _ ?_, rfl, _, B, _, q, m, kd, ln, lt, rfl, I1⟩
                unfold x_X8_row_57
                rw [x8_against hk D8, bs, hf0, if_pos nI_0, g_68_5, bs, u2_k _ _ (by omega), u2_p _ _ (by omega), v2, if_neg (nz0 h0 (by omega)), n60, nI_add, L8, bs, if_pos cI_f]
              · rw [hbl] at L8
                have gl := Lg hbl
                rw [if_neg nt]
                obtain ⟨A2, hA2⟩ : ∃ A2, A2 = va_up (va_up A 22 g) 79 (va_cpy (va_up A 22 g 71) (va_up A 22 g 79) (60 * k + a) 0 b) := ⟨_, rfl⟩
                have I2 : InvW NO SS A2 B (u2 (u2 (u2 V 0 16 0) 68 0 0) 68 17 (nI b)) q m kd ln lt := by rw [hA2]; exact inv_look hNO I1 _ _
                have rowsame : ∀ i, i < b → A2 79 i = va_up A 22 g 22 i := fun i hi => by
                  rw [hA2, up_at, pk_cpy_in (by omega) (by omega), up_ne _ _ (show 71 ≠ 22 by omega), up_at, gl i hi, Nat.sub_zero, Nat.add_assoc, hD.2.2.2.2.2.2.2.2 (a + i) (by omega)]
                have v17 : u2 (u2 (u2 V 0 16 0) 68 0 0) 68 17 (nI b) 68 17 = nI b := u2_s _ _ _ _
                have v5 : u2 (u2 (u2 V 0 16 0) 68 0 0) 68 17 (nI b) 68 5 = nI m := by rw [u2_k _ _ (by omega), u2_k _ _ (by omega), u2_p _ _ (by omega)]; exact v2
                have hM2 : repM A2 m kd ln lt := by rw [hA2]; exact repM_c hM (by rw [up_ne _ _ (by omega), up_ne _ _ (by omega)]) (by rw [up_ne _ _ (by omega), up_ne _ _ (by omega)]) (by rw [up_ne _ _ (by omega), up_ne _ _ (by omega)])
                have hX2 : repX (va_up A 22 g) (u2 V 0 16 0) q.1 m kd ln lt := repX_c hq hm hX (fun p h1 h2 => ⟨up_ne _ _ (by omega), u2_pp _ _ (by omega)⟩)
                have v3 : u2 V 0 16 0 0 3 = nI m := by rw [u2_k _ _ (by omega)]; exact v1
                have look : x_X8_row_57 F (mk (va_up A 22 g) B (u2 (u2 V 0 16 0) 68 0 0) q) 68 (nI k) a2 (nI a) (nI b) a5 = if a5 < 10 then if a5 = 0 then (x_X8_standing F (mk A2 B (u2 (u2 (u2 V 0 16 0) 68 0 0) 68 17 (nI b)) q) 68).bind fun v6 => some (v6, mk A2 B (u2 (u2 (u2 V 0 16 0) 68 0 0) 68 17 (nI b)) q) else if a5 = 3 then (x_X8_allHeard F (mk A2 B (u2 (u2 (u2 V 0 16 0) 68 0 0) 68 17 (nI b)) q) 68).bind fun v5 => some (v5, mk A2 B (u2 (u2 (u2 V 0 16 0) 68 0 0) 68 17 (nI b)) q) else if a5 = 1 then x_X8_row_191 F (mk A2 B (u2 (u2 (u2 V 0 16 0) 68 0 0) 68 17 (nI b)) q) 1 68 else x_X8_row_191 F (mk A2 B (u2 (u2 (u2 V 0 16 0) 68 0 0) 68 17 (nI b)) q) 0 68 else (x_X8_isWord F (mk A2 B (u2 (u2 (u2 V 0 16 0) 68 0 0) 68 17 (nI b)) q) 68 (a5 - (10 : Int32))).bind fun v7 => if v7 = 0 then some ((-9 : Int32), mk A2 B (u2 (u2 (u2 V 0 16 0) 68 0 0) 68 17 (nI b)) q) else (x_X8_timesHeard F (mk A2 B (u2 (u2 (u2 V 0 16 0) 68 0 0) 68 17 (nI b)) q) 68 (a5 - (10 : Int32))).bind fun v8 => some (v8, mk A2 B (u2 (u2 (u2 V 0 16 0) 68 0 0) 68 17 (nI b)) q) := by
                  unfold x_X8_row_57
                  rw [x8_against hk D8, bs, hf0, if_pos nI_0, g_68_5, bs, u2_k _ _ (by omega), u2_p _ _ (by omega), v2, if_neg (nz0 h0 (by omega)), n60, nI_add, L8, bs, if_neg nt, x8_lookAtCells (by omega) (by omega) (by omega), bs, ← hA2]
                obtain ⟨V2, hV2⟩ : ∃ V2, V2 = u2 (u2 (u2 V 0 16 0) 68 0 0) 68 17 (nI b) := ⟨_, rfl⟩
                rw [← hV2] at look I2 v17 v5
                have hs_same : ∀ e, 1 ≤ e → e < 1 + b → (fun e => bitS (fun w => hWb (kd w) (ln w) (lt w) (A2 79) e) m) e = (fun e => bitS (fun w => hWb (kd w) (ln w) (lt w) (va_up A 22 g 22) e) m) e := fun e h1 h2 => bitS_congr (fun w hw => hWb_congr (fun i hi => rowsame i (by omega)))
                have cnt_same : ∀ w, cnt (hWb (kd w) (ln w) (lt w) (A2 79)) 1 b = cnt (hWb (kd w) (ln w) (lt w) (va_up A 22 g 22)) 1 b := fun w => cnt_congr b 1 (fun e _ h2 => hWb_congr (fun i hi => rowsame i (by omega)))
                have t10 : (10 : Int32).toInt = 10 := rfl
                by_cases h10 : a5 < 10
                · rw [if_neg (show ¬ (10 : Int32) ≤ a5 by rw [Int32.lt_iff_toInt_lt, t10] at h10; rw [Int32.le_iff_toInt_le, t10]; omega), x7_heardInTold hq hm hX2 v3 hb40 (by omega), bs]
                  rw [if_pos h10] at look
                  by_cases c0 : a5 = 0
                  · rw [if_pos c0, x8_standing hm hM2 v5 (by omega) v17 (by omega), bs] at look
                    rw [if_pos c0, st_same]
                    refine ⟨(_, _), (_, _), rfl, t8 _ look, ?_, _, B, _, q, m, kd, ln, lt, rfl, I2⟩
                    show nI _ = nI _
                    exact congrArg nI (bitS_congr (fun w hw => by rw [cnt_same w]))
                  · rw [if_neg c0] at look
                    rw [if_neg c0]
                    by_cases c3 : a5 = 3
                    · rw [if_pos c3, x8_allHeard hm hM2 v5 (by omega) v17 (by omega), bs] at look
                      rw [if_neg (show ¬ a5 = 1 by rw [c3]; decide), if_neg (show ¬ a5 = 2 by rw [c3]; decide)]
                      refine ⟨(_, _), (_, _), rfl, t8 _ look, ?_, _, B, _, q, m, kd, ln, lt, rfl, I2⟩
                      show nI _ = nI _
                      rw [smF_x (fun w e => hWb (kd w) (ln w) (lt w) (va_up A 22 g 22) e) m b 1, smF_congr m 0 (fun w _ _ => cnt_same w)]
                    · rw [if_neg c3] at look
                      by_cases c1 : a5 = 1
                      · rw [if_pos c1] at look
                        unfold x_X8_row_191 at look
                        rw [← cI_t, x8_heardBy hm hM2 v5 (by omega) v17 (by omega), bs] at look
                        rw [if_pos c1]
                        refine ⟨(_, _), (_, _), rfl, t8 _ look, ?_, _, B, _, q, m, kd, ln, lt, rfl, I2⟩
                        refine (fnS_congr (fun s => ?_) b 1 0 hs_same).symm
                        have : 0 < 2 ^ m - 1 := by
                          rcases (show m = 1 ∨ m = 2 ∨ m = 3 ∨ m = 4 by omega) with rfl | rfl | rfl | rfl <;> decide
                        rw [Bool.true_and, Bool.eq_iff_iff, Bool.or_eq_true, decide_eq_true_eq, decide_eq_true_eq]
                        omega
                      · rw [if_neg c1] at look
                        unfold x_X8_row_191 at look
                        rw [← cI_f, x8_heardBy hm hM2 v5 (by omega) v17 (by omega), bs] at look
                        have c2 : a5 = 2 := by
                          rw [Bool.or_eq_true] at hb5
                          rcases hb5 with z | z
                          · obtain ⟨j, hj, e⟩ := inb_ex z (by omega)
                            rcases (show j = 0 ∨ j = 1 ∨ j = 2 ∨ j = 3 by omega) with rfl | rfl | rfl | rfl
                            · exact absurd e c0
                            · exact absurd e c1
                            · exact e
                            · exact absurd e c3
                          · rw [decide_eq_true_eq] at z
                            rw [Int32.lt_iff_toInt_lt, t10] at h10
                            omega
                        rw [if_neg c1, if_pos c2]
                        refine ⟨(_, _), (_, _), rfl, t8 _ look, ?_, _, B, _, q, m, kd, ln, lt, rfl, I2⟩
                        refine (fnS_congr (fun s => ?_) b 1 0 hs_same).symm
                        rw [Bool.false_and, Bool.false_or]
                · rw [if_pos (show (10 : Int32) ≤ a5 by rw [Int32.lt_iff_toInt_lt, t10] at h10; rw [Int32.le_iff_toInt_le, t10]; omega), x7_isWord v3 hm, bs]
                  rw [if_neg h10, x8_isWord v5 hm, bs] at look
                  cases hbw : inb (a5 - 10) m
                  · rw [hbw, if_pos cI_f] at look
                    rw [if_pos cI_f]
                    exact ⟨(-9, _), (-9, _), rfl, t8 _ look, rfl, _, B, _, q, m, kd, ln, lt, rfl, I2⟩
                  · obtain ⟨w, hw, ew⟩ := inb_ex hbw (by omega)
                    rw [hbw, if_neg nt, ew, x8_timesHeard hm hM2 hw (by omega) v17 (by omega), bs] at look
                    rw [if_neg nt, r_0_2, bs, ew, l_kn (okQ_kn hq) (by omega), bs, r_0_6, bs, x6_timesIn (hX2 w hw) (r := 22) (N := 40) rfl (by omega) hb40 (by omega), bs]
                    refine ⟨(_, _), (_, _), rfl, t8 _ look, ?_, _, B, _, q, m, kd, ln, lt, rfl, I2⟩
                    show nI _ = nI _
                    rw [cnt_same w]
          · obtain ⟨r, hr1, hr2, hr3⟩ : ∃ r, fcN t la l a2 a3 a4 = r ∧ r ≠ 0 ∧ r ≤ 4 := ⟨_, rfl, hf0, fcN_le⟩
            rw [hr1, if_neg (nz0 hr2 (by omega)), x7_failWith, bs, u2_u2]
            refine ⟨(-10 - nI r, mk A B (u2 V 0 16 (nI r)) q), (-10 - nI r, mk A B (u2 (u2 V 0 16 (nI r)) 68 0 (nI r)) q), rfl, ?_, rfl, A, B, _, q, m, kd, ln, lt, rfl, ff _⟩
            rw [top8]
            unfold x_X8_row_57
            rw [x8_against hk (hD8 A (nI r) rfl rfl rfl rfl), bs, hr1, if_neg (nz0 hr2 (by omega)), x8_fails, bs, u2_u2]
end ST12
