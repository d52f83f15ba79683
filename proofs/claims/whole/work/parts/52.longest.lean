/-! step: longest -/
theorem lNor (a b : Nat) : lN a ||| lN b = lN (a ||| b) := by
  apply Int64.toBitVec_inj.mp
  rw [Int64.toBitVec_or, lN_bv, lN_bv, lN_bv]
  apply BitVec.eq_of_getLsbD_eq
  intro i hi
  simp [BitVec.getLsbD_ofNat, Nat.testBit_or, hi]
theorem lNand (a b : Nat) : lN a &&& lN b = lN (a &&& b) := by
  apply Int64.toBitVec_inj.mp
  rw [Int64.toBitVec_and, lN_bv, lN_bv, lN_bv]
  apply BitVec.eq_of_getLsbD_eq
  intro i hi
  rw [BitVec.getLsbD_and, BitVec.getLsbD_ofNat, BitVec.getLsbD_ofNat, BitVec.getLsbD_ofNat, Nat.testBit_and]
  simp [hi]
theorem lNand1 (a : Nat) : lN a &&& 1 = lN (a % 2) := by
  rw [show (1 : Int64) = lN 1 from rfl, lNand, Nat.and_one_is_mod]
theorem lshr {a d : Nat} {D : Int64} (hD : (D.toBitVec.smod 64).toNat = d) (h : a < 2 ^ 62) : lN a >>> D = lN (a / 2 ^ d) := by
  have hd : a / 2 ^ d ≤ a := Nat.div_le_self _ _
  apply Int64.toInt_inj.mp
  have e : (lN a >>> D).toInt = (lN a).toInt >>> d := by
    rw [← hD]
    exact BitVec.toInt_sshiftRight ..
  rw [e, Int.shiftRight_eq_div_pow, lNt (by omega), lNt (by omega)]
  rfl
theorem sh40 : ∀ s, s < 40 → (1 : Int64) <<< ((nI s).toInt64 &&& 63) = lN (2 ^ s) := by decide
theorem sm40 : ∀ s, s < 40 → (((nI s).toInt64 &&& 63).toBitVec.smod 64).toNat = s := by decide
theorem bit40 {N s : Nat} (hN : N < 2 ^ 40) (hs : s < 40) : (lg_cmp ((lN N >>> ((nI s).toInt64 &&& 63)) &&& 1) 0 = 0) ↔ N.testBit s = false := by
  rw [lshr (sm40 s hs) (by omega), lNand1, lg_cmp_eq, show (0 : Int64) = lN 0 from rfl, lN_eq (by omega) (by omega), Nat.testBit_eq_decide_div_mod_eq]
  rw [decide_eq_false_iff_not]
  omega
def LNr (t r : Nat) : Prop := lo t ≤ r ∧ r ≤ 3 * lo t
theorem LN_bh {t k c : Nat} (hc : c < 3) : LNr (t + 1) (bh k c) ↔ LNr t k := by
  unfold LNr bh
  simp only [lo]
  omega
def FRp (m : Nat) (W : tW) (t : Nat) : Prop := ∃ r, LNr t r ∧ ST m W r = 0
noncomputable def frB (m : Nat) (W : tW) (t : Nat) : Bool := @decide (FRp m W t) (Classical.propDecidable _)
theorem frB_iff {m : Nat} {W : tW} {t : Nat} : frB m W t = true ↔ FRp m W t := by
  unfold frB
  exact @decide_eq_true_iff _ (Classical.propDecidable _)
noncomputable def lgF (m : Nat) (W : tW) : Nat → Nat → Int32
  | _, 0 => -9
  | n, d + 1 => if frB m W (n + 1) = true then lgF m W (n + 1) d else nI n
theorem or_z {a b : Nat} : a ||| b = 0 ↔ a = 0 ∧ b = 0 := by
  constructor
  · intro h
    have key : ∀ i, (a ||| b).testBit i = false := fun i => by rw [h]; simp
    constructor
    · apply Nat.eq_of_testBit_eq; intro i
      have := key i; rw [Nat.testBit_or, Bool.or_eq_false_iff] at this; rw [this.1]; simp
    · apply Nat.eq_of_testBit_eq; intro i
      have := key i; rw [Nat.testBit_or, Bool.or_eq_false_iff] at this; rw [this.2]; simp
  · rintro ⟨rfl, rfl⟩; rfl
theorem ST_z {m : Nat} {W : tW} {r c : Nat} (hc : c < 3) : ST m W (bh r c) = 0 ↔ ST m W r = 0 ∧ HS m W (bh r c) = 0 := by
  rw [ST_bh hc, or_z]
theorem LN_0 {r : Nat} : LNr 0 r ↔ r = 0 := by
  unfold LNr
  simp only [lo]
  omega
theorem LN_s {t r : Nat} (h : LNr (t + 1) r) : ∃ k c, c < 3 ∧ r = bh k c ∧ LNr t k := by
  have r0 : r ≠ 0 := by unfold LNr at h; simp only [lo] at h; omega
  obtain ⟨k, c, hc, rfl, -⟩ := bh_ex r0
  exact ⟨k, c, hc, rfl, (LN_bh hc).mp h⟩
section LG
variable {F : Nat}
/-- the row's side: the set of stays of free rows of t letters -/
def RB (m : Nat) (W : tW) (t N : Nat) : Prop := N < 2 ^ 40 ∧ ∀ s, N.testBit s = true ↔ ∃ r, LNr t r ∧ ST m W r = 0 ∧ ph m W r = s
theorem x1_sr_in {A V : tA2} {B : tB2} {q : tQ} {m : Nat} {W : tW} (h : okL m W) (hK : netK A m W 40) {s : Nat} (hs : s < 40) (hst : stB m W s = true) {l1 : Int64} (k5 : Int64 → Int32 → Option Int64) : ∀ (d u c acc : Nat), c + d = 3 → d < u → acc < 2 ^ 40 → ∃ acc', x_X1_silentlyReachedFrom_29 F k5 (mk A B V q) 27 l1 (nI s) u (lN acc) (nI c) = k5 (lN acc') (nI (s + 1)) ∧ acc' < 2 ^ 40 ∧ ∀ i, acc'.testBit i = true ↔ acc.testBit i = true ∨ ∃ c', c ≤ c' ∧ c' < 3 ∧ HS m W (bh s c') = 0 ∧ ph m W (bh s c') = i := by
  have hm := h.1
  intro d
  induction d with
  | zero =>
    intro u c acc hc hu ha
    obtain ⟨u, rfl⟩ : ∃ z, u = z + 1 := ⟨u - 1, by omega⟩
    refine ⟨acc, ?_, ha, fun i => ⟨Or.inl, fun z => ?_⟩⟩
    · show s_X1_silentlyReachedFrom_29 _ _ _ _ _ _ _ _ _ = _
      unfold s_X1_silentlyReachedFrom_29 x_X1_silentlyReachedFrom_72
      rw [show c = 3 by omega, if_pos (by decide), nI_1]
    · rcases z with z | ⟨c', h1, h2, -⟩
      · exact z
      · omega
  | succ d ih =>
    intro u c acc hc hu ha
    obtain ⟨u, rfl⟩ : ∃ z, u = z + 1 := ⟨u - 1, by omega⟩
    have hk : bh s c < 121 := by unfold bh; omega
    obtain ⟨k1, k2⟩ := hK s hs hst c (by omega)
    have p40 := st_lt h (ph_st (m := m) (W := W) (r := bh s c))
    have hh := HS_lt hm W (bh s c)
    have ebh : (3 : Int32) * nI s + 1 + nI c = nI (bh s c) := by rw [n3, nI_1, nI_add]; rfl
    have top : x_X1_silentlyReachedFrom_29 F k5 (mk A B V q) 27 l1 (nI s) (u + 1) (lN acc) (nI c) = x_X1_silentlyReachedFrom_29 F k5 (mk A B V q) 27 l1 (nI s) u (lN (if HS m W (bh s c) = 0 then acc ||| 2 ^ ph m W (bh s c) else acc)) (nI (c + 1)) := by
      show s_X1_silentlyReachedFrom_29 _ _ _ _ _ _ _ _ _ = _
      unfold s_X1_silentlyReachedFrom_29 x_X1_behind x_X1_silentlyReachedFrom_66
      rw [if_neg (show ¬ (3 : Int32) ≤ nI c from fun z => by have := (nI_leI (a := 3) (by omega) (by omega)).mp z; omega), bs, ebh, r_27_1, bs, l_29 (inb_nI hk (by omega)), bs, tn (by omega), k1, r_27_2, bs, l_30 (inb_nI hk (by omega)), bs, tn (by omega), k2, sh40 _ p40, lNor, nI_1]
      by_cases z : HS m W (bh s c) = 0
      · rw [if_pos (by rw [z]; rfl), if_pos z]
      · rw [if_neg (nz0 z (by omega)), if_neg z]
    rw [top]
    have hlt : (if HS m W (bh s c) = 0 then acc ||| 2 ^ ph m W (bh s c) else acc) < 2 ^ 40 := by
      by_cases z : HS m W (bh s c) = 0
      · rw [if_pos z]
        exact Nat.or_lt_two_pow ha (Nat.pow_lt_pow_right (by omega) p40)
      · rw [if_neg z]; exact ha
    obtain ⟨acc', e1, e2, e3⟩ := ih u (c + 1) _ (by omega) (by omega) hlt
    refine ⟨acc', e1, e2, fun i => ?_⟩
    rw [e3 i]
    by_cases z : HS m W (bh s c) = 0
    · rw [if_pos z, Nat.testBit_or, Bool.or_eq_true, Nat.testBit_two_pow, decide_eq_true_eq]
      constructor
      · rintro ((y | y) | ⟨c', h1, h2, h3, h4⟩)
        · exact Or.inl y
        · exact Or.inr ⟨c, by omega, by omega, z, y⟩
        · exact Or.inr ⟨c', by omega, h2, h3, h4⟩
      · rintro (y | ⟨c', h1, h2, h3, h4⟩)
        · exact Or.inl (Or.inl y)
        · by_cases ec : c' = c
          · subst ec; exact Or.inl (Or.inr h4)
          · exact Or.inr ⟨c', by omega, h2, h3, h4⟩
    · rw [if_neg z]
      constructor
      · rintro (y | ⟨c', h1, h2, h3, h4⟩)
        · exact Or.inl y
        · exact Or.inr ⟨c', by omega, h2, h3, h4⟩
      · rintro (y | ⟨c', h1, h2, h3, h4⟩)
        · exact Or.inl y
        · by_cases ec : c' = c
          · subst ec; exact absurd h3 z
          · exact Or.inr ⟨c', by omega, h2, h3, h4⟩
theorem x1_sr_out {A V : tA2} {B : tB2} {q : tQ} {m : Nat} {W : tW} (h : okL m W) (hK : netK A m W 40) {N : Nat} (hN : N < 2 ^ 40) (hNs : ∀ s, N.testBit s = true → stB m W s = true) (hF : 10 ≤ F) : ∀ (d u s acc : Nat), s + d = 40 → d < u → acc < 2 ^ 40 → ∃ acc', x_X1_silentlyReachedFrom_5 F (mk A B V q) 27 (lN N) u (lN acc) (nI s) = some (lN acc') ∧ acc' < 2 ^ 40 ∧ ∀ i, acc'.testBit i = true ↔ acc.testBit i = true ∨ ∃ s', s ≤ s' ∧ s' < 40 ∧ N.testBit s' = true ∧ ∃ c', c' < 3 ∧ HS m W (bh s' c') = 0 ∧ ph m W (bh s' c') = i := by
  intro d
  induction d with
  | zero =>
    intro u s acc hs hu ha
    obtain ⟨u, rfl⟩ : ∃ z, u = z + 1 := ⟨u - 1, by omega⟩
    refine ⟨acc, ?_, ha, fun i => ⟨Or.inl, fun z => ?_⟩⟩
    · show s_X1_silentlyReachedFrom_5 _ _ _ _ _ _ _ = _
      unfold s_X1_silentlyReachedFrom_5
      rw [show s = 40 by omega, if_pos (by decide)]
    · rcases z with z | ⟨s', h1, h2, -⟩
      · exact z
      · omega
  | succ d ih =>
    intro u s acc hs hu ha
    obtain ⟨u, rfl⟩ : ∃ z, u = z + 1 := ⟨u - 1, by omega⟩
    have b4 := bit40 hN (show s < 40 by omega)
    cases hb : N.testBit s
    · obtain ⟨acc', e1, e2, e3⟩ := ih u (s + 1) acc (by omega) (by omega) ha
      refine ⟨acc', ?_, e2, fun i => ?_⟩
      · show s_X1_silentlyReachedFrom_5 _ _ _ _ _ _ _ = _
        unfold s_X1_silentlyReachedFrom_5 x_X1_silentlyReachedFrom_72
        rw [if_neg (show ¬ (40 : Int32) ≤ nI s from fun z => by have := (nI_leI (a := 40) (by omega) (by omega)).mp z; omega), if_pos (b4.mpr hb), nI_1]
        exact e1
      · rw [e3 i]
        constructor
        · rintro (y | ⟨s', h1, h2, h3, h4⟩)
          · exact Or.inl y
          · exact Or.inr ⟨s', by omega, h2, h3, h4⟩
        · rintro (y | ⟨s', h1, h2, h3, h4⟩)
          · exact Or.inl y
          · by_cases es : s' = s
            · subst es; rw [hb] at h3; cases h3
            · exact Or.inr ⟨s', by omega, h2, h3, h4⟩
    · obtain ⟨acc1, f1, f2, f3⟩ := x1_sr_in (F := F) (A := A) (V := V) (B := B) (q := q) h hK (show s < 40 by omega) (hNs s hb) (l1 := lN N) (x_X1_silentlyReachedFrom_5 F (mk A B V q) 27 (lN N) u) 3 F 0 acc (by omega) (by omega) ha
      obtain ⟨acc', e1, e2, e3⟩ := ih u (s + 1) acc1 (by omega) (by omega) f2
      refine ⟨acc', ?_, e2, fun i => ?_⟩
      · show s_X1_silentlyReachedFrom_5 _ _ _ _ _ _ _ = _
        unfold s_X1_silentlyReachedFrom_5
        rw [if_neg (show ¬ (40 : Int32) ≤ nI s from fun z => by have := (nI_leI (a := 40) (by omega) (by omega)).mp z; omega), if_neg (fun z => by rw [b4.mp z] at hb; cases hb)]
        rw [nI_0] at f1
        rw [f1]
        exact e1
      · rw [e3 i, f3 i]
        constructor
        · rintro ((y | ⟨c', -, h2, h3, h4⟩) | ⟨s', h1, h2, h3, h4⟩)
          · exact Or.inl y
          · exact Or.inr ⟨s, by omega, by omega, hb, c', h2, h3, h4⟩
          · exact Or.inr ⟨s', by omega, h2, h3, h4⟩
        · rintro (y | ⟨s', h1, h2, h3, h4⟩)
          · exact Or.inl (Or.inl y)
          · by_cases es : s' = s
            · subst es
              obtain ⟨c', y1, y2, y3⟩ := h4
              exact Or.inl (Or.inr ⟨c', by omega, y1, y2, y3⟩)
            · exact Or.inr ⟨s', by omega, h2, h3, h4⟩
theorem x1_sr {A V : tA2} {B : tB2} {q : tQ} {m : Nat} {W : tW} (h : okL m W) (hK : netK A m W 40) {t N : Nat} (hR : RB m W t N) (hF : 60 ≤ F) : ∃ N', x_X1_silentlyReachedFrom F (mk A B V q) 27 (lN N) = some (lN N') ∧ RB m W (t + 1) N' := by
  obtain ⟨r1, r2⟩ := hR
  have hNs : ∀ s, N.testBit s = true → stB m W s = true := fun s hs => by
    obtain ⟨r, -, -, e⟩ := (r2 s).mp hs
    rw [← e]; exact ph_st
  obtain ⟨N', e1, e2, e3⟩ := x1_sr_out (F := F) (A := A) (V := V) (B := B) (q := q) h hK r1 hNs (by omega) 40 F 0 0 (by omega) (by omega) (by omega)
  refine ⟨N', ?_, e2, fun i => ?_⟩
  · unfold x_X1_silentlyReachedFrom
    rw [c_27, bs]
    exact e1
  · rw [e3 i]
    constructor
    · rintro (y | ⟨s', -, h2, h3, c', y1, y2, y3⟩)
      · simp at y
      · obtain ⟨r, l1, l2, l3⟩ := (r2 s').mp h3
        subst l3
        rw [HS_ph h y1] at y2
        rw [ph_bh h y1] at y3
        exact ⟨bh r c', (LN_bh y1).mpr l1, (ST_z y1).mpr ⟨l2, y2⟩, y3⟩
    · rintro ⟨r, l1, l2, l3⟩
      obtain ⟨k, c, hc, rfl, lk⟩ := LN_s l1
      obtain ⟨z1, z2⟩ := (ST_z hc).mp l2
      refine Or.inr ⟨ph m W k, by omega, st_lt h ph_st, (r2 _).mpr ⟨k, lk, z1, rfl⟩, c, hc, by rw [HS_ph h hc]; exact z2, by rw [ph_bh h hc]; exact l3⟩
theorem RB_z {m : Nat} {W : tW} {t N : Nat} (hR : RB m W t N) : N = 0 ↔ ¬ FRp m W t := by
  obtain ⟨r1, r2⟩ := hR
  constructor
  · rintro rfl ⟨r, l1, l2⟩
    have := (r2 (ph m W r)).mpr ⟨r, l1, l2, rfl⟩
    simp at this
  · intro hn
    apply Nat.eq_of_testBit_eq
    intro i
    cases hb : N.testBit i
    · simp
    · obtain ⟨r, l1, l2, -⟩ := (r2 i).mp hb
      exact absurd ⟨r, l1, l2⟩ hn
theorem x1_lg_loop {A V : tA2} {B : tB2} {q : tQ} {m : Nat} {W : tW} (h : okL m W) (hK : netK A m W 40) (hF : 60 ≤ F) : ∀ (d u n N : Nat), n + d = 41 → d < u → RB m W n N → x_X1_longestSilent_4 F (mk A B V q) 27 u (lN N) (nI n) = some (lgF m W n d) := by
  intro d
  induction d with
  | zero =>
    intro u n N hn hu hR
    obtain ⟨u, rfl⟩ : ∃ z, u = z + 1 := ⟨u - 1, by omega⟩
    show s_X1_longestSilent_4 _ _ _ _ _ _ = _
    unfold s_X1_longestSilent_4
    rw [show n = 41 by omega, if_pos (by decide)]
    rfl
  | succ d ih =>
    intro u n N hn hu hR
    obtain ⟨u, rfl⟩ : ∃ z, u = z + 1 := ⟨u - 1, by omega⟩
    obtain ⟨N', e1, e2⟩ := x1_sr (F := F) (A := A) (V := V) (B := B) (q := q) h hK hR hF
    have hz := RB_z e2
    show s_X1_longestSilent_4 _ _ _ _ _ _ = _
    unfold s_X1_longestSilent_4
    rw [if_neg (show ¬ (40 : Int32) < nI n from fun z => by have := (nI_ltI (a := 40) (by omega) (by omega)).mp z; omega), e1, bs, nI_1]
    have hN := e2.1
    have hc : (lg_cmp (lN N') 0 = 0) ↔ N' = 0 := by
      rw [lg_cmp_eq]
      constructor
      · intro z
        have := congrArg Int64.toInt z
        rw [lNt (by omega)] at this
        have e : (0 : Int64).toInt = 0 := rfl
        rw [e] at this
        omega
      · rintro rfl; rfl
    simp only [lgF]
    cases hf : frB m W (n + 1)
    · rw [if_pos (hc.mpr (hz.mpr (fun z => by rw [frB_iff.mpr z] at hf; cases hf))), if_neg (by decide)]
    · rw [if_neg (fun z => hz.mp (hc.mp z) (frB_iff.mp hf)), if_pos rfl]
      exact ih u (n + 1) N' (by omega) (by omega) e2
theorem ph_0 {m : Nat} {W : tW} : ph m W 0 = 0 := by
  unfold ph
  rw [sx_0, sx_0, sx_0]
  simp
theorem x1_longestSilent {A V : tA2} {B : tB2} {q : tQ} {m : Nat} {W : tW} (h : okL m W) (hK : netK A m W 40) (hF : 60 ≤ F) : x_X1_longestSilent F (mk A B V q) 27 = some (lgF m W 0 41) := by
  unfold x_X1_longestSilent
  rw [c_27, bs]
  refine x1_lg_loop h hK hF 41 F 0 1 (by omega) (by omega) ⟨by omega, fun s => ?_⟩
  rw [show (1 : Nat) = 2 ^ 0 from rfl, Nat.testBit_two_pow, decide_eq_true_eq]
  constructor
  · rintro rfl; exact ⟨0, LN_0.mpr rfl, ST_0, ph_0⟩
  · rintro ⟨r, l1, l2, l3⟩
    rw [LN_0.mp l1, ph_0] at l3
    exact l3
/-! the model's side -/
def FB (m : Nat) (W : tW) (t : Nat) (b : Nat → Bool) : Prop := ∀ e, e < 40 → (b e = true ↔ ∃ r, LNr t r ∧ ST m W r = 0 ∧ sx 3 r = e)
theorem x8_gf_clear {V : tA2} {B : tB2} {q : tQ} : ∀ (d u e : Nat) (A : tA2), e + d = 40 → d < u → (∀ i, i < e → A 86 i = cI false) → ∃ A', x_X8_goesFree_2 F 68 u (mk A B V q) (nI e) = x_X8_goesFree_25 F 68 F (mk A' B V q) 0 0 ∧ (∀ p, p ≠ 86 → A' p = A p) ∧ ∀ i, i < 40 → A' 86 i = cI false := by
  intro d
  induction d with
  | zero =>
    intro u e A he hu hA
    obtain ⟨u, rfl⟩ : ∃ z, u = z + 1 := ⟨u - 1, by omega⟩
    refine ⟨A, ?_, fun _ _ => rfl, fun i hi => hA i (by omega)⟩
    show s_X8_goesFree_2 _ _ _ _ _ = _
    unfold s_X8_goesFree_2
    rw [show e = 40 by omega, if_pos (by decide)]
  | succ d ih =>
    intro u e A he hu hA
    obtain ⟨u, rfl⟩ : ∃ z, u = z + 1 := ⟨u - 1, by omega⟩
    obtain ⟨A', e1, e2, e3⟩ := ih u (e + 1) (u2 A 86 e 0) (by omega) (by omega) (fun i hi => by
      by_cases z : i = e
      · subst z; rw [u2_s]; rfl
      · rw [u2_k _ _ z]; exact hA i (by omega))
    refine ⟨A', ?_, fun p hp => by rw [e2 p hp, u2_pp _ _ hp], e3⟩
    show s_X8_goesFree_2 _ _ _ _ _ = _
    unfold s_X8_goesFree_2
    rw [if_neg (show ¬ (40 : Int32) ≤ nI e from fun z => by have := (nI_leI (a := 40) (by omega) (by omega)).mp z; omega), r_68_24, bs, s_86 (inb_nI (by omega) (by omega)), bs, tn (by omega), nI_1]
    exact e1
theorem x8_gf_scat {V : tA2} {B : tB2} {q : tQ} {m : Nat} {W : tW} (hm : m ≤ 4) {b : Nat → Bool} : ∀ (d u y : Nat) (A : tA2) (f : Nat → Bool) (any : Bool), y + d = 120 → d < u → netM A m W 40 → (∀ e, e < 40 → A 85 e = cI (b e)) → (∀ e, e < 40 → A 86 e = cI (f e)) → ∃ (A' : tA2) (f' : Nat → Bool) (any' : Bool), x_X8_goesFree_25 F 68 u (mk A B V q) (cI any) (nI y) = x_X8_goesFree_74 F 68 (cI any') F (mk A' B V q) 0 ∧ (∀ p, p ≠ 86 → A' p = A p) ∧ (∀ e, e < 40 → A' 86 e = cI (f' e)) ∧ (∀ e, e < 40 → (f' e = true ↔ f e = true ∨ ∃ y', y ≤ y' ∧ y' < 120 ∧ b (y' / 3) = true ∧ HS m W (bh (y' / 3) (y' % 3)) = 0 ∧ sx 3 (bh (y' / 3) (y' % 3)) = e)) ∧ (any' = true ↔ any = true ∨ ∃ y', y ≤ y' ∧ y' < 120 ∧ b (y' / 3) = true ∧ HS m W (bh (y' / 3) (y' % 3)) = 0) := by
  intro d
  induction d with
  | zero =>
    intro u y A f any hy hu hN h85 h86
    obtain ⟨u, rfl⟩ : ∃ z, u = z + 1 := ⟨u - 1, by omega⟩
    refine ⟨A, f, any, ?_, fun _ _ => rfl, h86, fun e he => ⟨Or.inl, fun z => ?_⟩, ⟨Or.inl, fun z => ?_⟩⟩
    · show s_X8_goesFree_25 _ _ _ _ _ _ = _
      unfold s_X8_goesFree_25
      rw [show y = 120 by omega, if_pos (by decide)]
    · rcases z with z | ⟨y', h1, h2, -⟩
      · exact z
      · omega
    · rcases z with z | ⟨y', h1, h2, -⟩
      · exact z
      · omega
  | succ d ih =>
    intro u y A f any hy hu hN h85 h86
    obtain ⟨u, rfl⟩ : ∃ z, u = z + 1 := ⟨u - 1, by omega⟩
    obtain ⟨n1, n2⟩ := hN (y / 3) (by omega) (y % 3) (by omega)
    rw [show 3 * (y / 3) + y % 3 = y by omega] at n1 n2
    have hh := HS_lt hm W (bh (y / 3) (y % 3))
    have s3 := sx_le 3 (bh (y / 3) (y % 3))
    simp only [lo] at s3
    have iy : inb (nI y) 120 = true := inb_nI (by omega) (by omega)
    have ty : (nI y).toNatClampNeg = y := tn (by omega)
    have top : x_X8_goesFree_25 F 68 (u + 1) (mk A B V q) (cI any) (nI y) = if b (y / 3) = true ∧ HS m W (bh (y / 3) (y % 3)) = 0 then x_X8_goesFree_25 F 68 u (mk (u2 A 86 (sx 3 (bh (y / 3) (y % 3))) 1) B V q) (cI true) (nI (y + 1)) else x_X8_goesFree_25 F 68 u (mk A B V q) (cI any) (nI (y + 1)) := by
      show s_X8_goesFree_25 _ _ _ _ _ _ = _
      unfold s_X8_goesFree_25 x_X8_goesFree_66
      rw [if_neg (show ¬ (120 : Int32) ≤ nI y from fun z => by have := (nI_leI (a := 120) (by omega) (by omega)).mp z; omega), r_68_23, bs, d3 (by omega), l_85 (inb_nI (by omega) (by omega)), bs, tn (by omega), h85 _ (by omega), r_68_19, bs, l_81 iy, bs, ty, n2, r_68_24, bs, r_68_18, bs, l_80 iy, bs, ty, n1, s_86 (inb_nI (by omega) (by omega)), bs, tn (by omega), nI_1]
      cases hb : b (y / 3)
      · rw [if_neg (show ¬ cI false = 1 by decide), if_neg (by simp)]
      · rw [if_pos (show cI true = 1 by decide)]
        by_cases z : HS m W (bh (y / 3) (y % 3)) = 0
        · rw [if_pos (by rw [z]; rfl), if_pos ⟨rfl, z⟩]; rfl
        · rw [if_neg (nz0 z (by omega)), if_neg (fun w => z w.2)]
    rw [top]
    by_cases hc : b (y / 3) = true ∧ HS m W (bh (y / 3) (y % 3)) = 0
    · rw [if_pos hc]
      obtain ⟨A', f', any', e1, e2, e3, e4, e5⟩ := ih u (y + 1) (u2 A 86 (sx 3 (bh (y / 3) (y % 3))) 1) (fun e => f e || decide (sx 3 (bh (y / 3) (y % 3)) = e)) true (by omega) (by omega) (netM_c hN (u2_pp _ _ (by omega)) (u2_pp _ _ (by omega))) (fun e he => by rw [u2_p _ _ (by omega)]; exact h85 e he) (fun e he => by
        by_cases z : e = sx 3 (bh (y / 3) (y % 3))
        · subst z; rw [u2_s, decide_eq_true rfl, Bool.or_true]; rfl
        · rw [u2_k _ _ z, decide_eq_false (fun w => z w.symm), Bool.or_false]; exact h86 e he)
      refine ⟨A', f', any', e1, fun p hp => by rw [e2 p hp, u2_pp _ _ hp], e3, fun e he => ?_, ?_⟩
      · rw [e4 e he, Bool.or_eq_true, decide_eq_true_eq]
        constructor
        · rintro ((z | z) | ⟨y', h1, h2, h3⟩)
          · exact Or.inl z
          · exact Or.inr ⟨y, by omega, by omega, hc.1, hc.2, z⟩
          · exact Or.inr ⟨y', by omega, h2, h3⟩
        · rintro (z | ⟨y', h1, h2, h3, h4, h5⟩)
          · exact Or.inl (Or.inl z)
          · by_cases ey : y' = y
            · subst ey; exact Or.inl (Or.inr h5)
            · exact Or.inr ⟨y', by omega, h2, h3, h4, h5⟩
      · rw [e5]
        constructor
        · intro _; exact Or.inr ⟨y, by omega, by omega, hc.1, hc.2⟩
        · intro _; exact Or.inl rfl
    · rw [if_neg hc]
      obtain ⟨A', f', any', e1, e2, e3, e4, e5⟩ := ih u (y + 1) A f any (by omega) (by omega) hN h85 h86
      refine ⟨A', f', any', e1, e2, e3, fun e he => ?_, ?_⟩
      · rw [e4 e he]
        constructor
        · rintro (z | ⟨y', h1, h2, h3⟩)
          · exact Or.inl z
          · exact Or.inr ⟨y', by omega, h2, h3⟩
        · rintro (z | ⟨y', h1, h2, h3, h4, h5⟩)
          · exact Or.inl z
          · by_cases ey : y' = y
            · subst ey; exact absurd ⟨h3, h4⟩ hc
            · exact Or.inr ⟨y', by omega, h2, h3, h4, h5⟩
      · rw [e5]
        constructor
        · rintro (z | ⟨y', h1, h2, h3⟩)
          · exact Or.inl z
          · exact Or.inr ⟨y', by omega, h2, h3⟩
        · rintro (z | ⟨y', h1, h2, h3, h4⟩)
          · exact Or.inl z
          · by_cases ey : y' = y
            · subst ey; exact absurd ⟨h3, h4⟩ hc
            · exact Or.inr ⟨y', by omega, h2, h3, h4⟩
theorem x8_gf_copy {V : tA2} {B : tB2} {q : tQ} {any : Bool} : ∀ (d u e : Nat) (A : tA2), e + d = 40 → d < u → (∀ i, i < e → A 85 i = A 86 i) → ∃ A', x_X8_goesFree_74 F 68 (cI any) u (mk A B V q) (nI e) = some (cI any, mk A' B V q) ∧ (∀ p, p ≠ 85 → A' p = A p) ∧ ∀ i, i < 40 → A' 85 i = A 86 i := by
  intro d
  induction d with
  | zero =>
    intro u e A he hu hA
    obtain ⟨u, rfl⟩ : ∃ z, u = z + 1 := ⟨u - 1, by omega⟩
    refine ⟨A, ?_, fun _ _ => rfl, fun i hi => hA i (by omega)⟩
    show s_X8_goesFree_74 _ _ _ _ _ _ = _
    unfold s_X8_goesFree_74
    rw [show e = 40 by omega, if_pos (by decide), retZ_c, bs]
  | succ d ih =>
    intro u e A he hu hA
    obtain ⟨u, rfl⟩ : ∃ z, u = z + 1 := ⟨u - 1, by omega⟩
    have ie : inb (nI e) 40 = true := inb_nI (by omega) (by omega)
    obtain ⟨A', e1, e2, e3⟩ := ih u (e + 1) (u2 A 85 e (A 86 e)) (by omega) (by omega) (fun i hi => by
      rw [u2_p (p' := 86) _ _ (by omega)]
      by_cases z : i = e
      · subst z; rw [u2_s]
      · rw [u2_k _ _ z]; exact hA i (by omega))
    rw [u2_pp (p' := 86) _ _ (by omega)] at e3
    refine ⟨A', ?_, fun p hp => by rw [e2 p hp, u2_pp _ _ hp], e3⟩
    show s_X8_goesFree_74 _ _ _ _ _ _ = _
    unfold s_X8_goesFree_74
    rw [if_neg (show ¬ (40 : Int32) ≤ nI e from fun z => by have := (nI_leI (a := 40) (by omega) (by omega)).mp z; omega), r_68_23, bs, r_68_24, bs, l_86 ie, bs, s_85 ie, bs, tn (by omega), nI_1]
    exact e1
theorem x8_goesFree {A V : tA2} {B : tB2} {q : tQ} {m : Nat} {W : tW} (h : okL m W) (hN : netM A m W 40) {t : Nat} {b : Nat → Bool} (hb : FB m W t b) (h85 : ∀ e, e < 40 → A 85 e = cI (b e)) (hF : 200 ≤ F) : ∃ (A' : tA2) (b' : Nat → Bool), x_X8_goesFree F (mk A B V q) 68 = some (cI (frB m W (t + 1)), mk A' B V q) ∧ (∀ p, p ≠ 85 → p ≠ 86 → A' p = A p) ∧ FB m W (t + 1) b' ∧ ∀ e, e < 40 → A' 85 e = cI (b' e) := by
  have hm := h.1
  obtain ⟨A1, a1, a2, a3⟩ := x8_gf_clear (F := F) (V := V) (B := B) (q := q) 40 F 0 A (by omega) (by omega) (fun i hi => by omega)
  obtain ⟨A2, f, any, b1, b2, b3, b4, b5⟩ := x8_gf_scat (F := F) (V := V) (B := B) (q := q) (m := m) (W := W) hm (b := b) 120 F 0 A1 (fun _ => false) false (by omega) (by omega) (netM_c hN (a2 _ (by omega)) (a2 _ (by omega))) (fun e he => by rw [a2 _ (by omega)]; exact h85 e he) a3
  obtain ⟨A3, c1, c2, c3⟩ := x8_gf_copy (F := F) (V := V) (B := B) (q := q) (any := any) 40 F 0 A2 (by omega) (by omega) (fun i hi => by omega)
  have key : ∀ r, LNr (t + 1) r → ST m W r = 0 → ∃ y', y' < 120 ∧ b (y' / 3) = true ∧ HS m W (bh (y' / 3) (y' % 3)) = 0 ∧ sx 3 (bh (y' / 3) (y' % 3)) = sx 3 r := by
    intro r l1 l2
    obtain ⟨k, c, hc, rfl, lk⟩ := LN_s l1
    obtain ⟨z1, z2⟩ := (ST_z hc).mp l2
    have s3 := sx_le 3 k
    simp only [lo] at s3
    refine ⟨3 * sx 3 k + c, by omega, ?_⟩
    rw [show (3 * sx 3 k + c) / 3 = sx 3 k by omega, show (3 * sx 3 k + c) % 3 = c by omega]
    exact ⟨(hb (sx 3 k) (by omega)).mpr ⟨k, lk, z1, rfl⟩, by rw [HS_sx h hc]; exact z2, sx3_bh hc⟩
  have kye : ∀ y', y' < 120 → b (y' / 3) = true → HS m W (bh (y' / 3) (y' % 3)) = 0 → ∃ r, LNr (t + 1) r ∧ ST m W r = 0 ∧ sx 3 r = sx 3 (bh (y' / 3) (y' % 3)) := by
    intro y' h1 h2 h3
    obtain ⟨k, lk, z1, z2⟩ := (hb (y' / 3) (by omega)).mp h2
    rw [← z2] at h3 ⊢
    rw [HS_sx h (by omega)] at h3
    exact ⟨bh k (y' % 3), (LN_bh (by omega)).mpr lk, (ST_z (by omega)).mpr ⟨z1, h3⟩, (sx3_bh (by omega)).symm⟩
  have eany : any = frB m W (t + 1) := by
    rw [Bool.eq_iff_iff, b5, frB_iff]
    constructor
    · rintro (z | ⟨y', h1, h2, h3, h4⟩)
      · cases z
      · obtain ⟨r, l1, l2, -⟩ := kye y' h2 h3 h4
        exact ⟨r, l1, l2⟩
    · rintro ⟨r, l1, l2⟩
      obtain ⟨y', h1, h2, h3, -⟩ := key r l1 l2
      exact Or.inr ⟨y', by omega, h1, h2, h3⟩
  refine ⟨A3, f, ?_, fun p h1 h2 => by rw [c2 p h1, b2 p h2, a2 p h2], fun e he => ?_, fun e he => by rw [c3 e he]; exact b3 e he⟩
  · unfold x_X8_goesFree
    rw [nI_0] at a1 b1 c1
    rw [c_68, bs, a1, ← eany]
    refine Eq.trans b1 c1
  · rw [b4 e he]
    constructor
    · rintro (z | ⟨y', h1, h2, h3, h4, h5⟩)
      · cases z
      · obtain ⟨r, l1, l2, l3⟩ := kye y' h2 h3 h4
        exact ⟨r, l1, l2, by rw [l3, h5]⟩
    · rintro ⟨r, l1, l2, l3⟩
      obtain ⟨y', h1, h2, h3, h4⟩ := key r l1 l2
      exact Or.inr ⟨y', by omega, h1, h2, h3, by rw [h4, l3]⟩
theorem x8_lg_loop {V : tA2} {B : tB2} {q : tQ} {m : Nat} {W : tW} (h : okL m W) (hF : 200 ≤ F) : ∀ (d u n : Nat) (A : tA2) (b : Nat → Bool), n + d = 41 → d < u → netM A m W 40 → FB m W n b → (∀ e, e < 40 → A 85 e = cI (b e)) → ∃ A', x_X8_longest_45 F 68 u (mk A B V q) (nI n) = some (lgF m W n d, mk A' B V q) ∧ ∀ p, p ≠ 85 → p ≠ 86 → A' p = A p := by
  intro d
  induction d with
  | zero =>
    intro u n A b hn hu hN hb h85
    obtain ⟨u, rfl⟩ : ∃ z, u = z + 1 := ⟨u - 1, by omega⟩
    refine ⟨A, ?_, fun _ _ _ => rfl⟩
    show s_X8_longest_45 _ _ _ _ _ = _
    unfold s_X8_longest_45
    rw [show n = 41 by omega, if_pos (by decide)]
    rfl
  | succ d ih =>
    intro u n A b hn hu hN hb h85
    obtain ⟨u, rfl⟩ : ∃ z, u = z + 1 := ⟨u - 1, by omega⟩
    obtain ⟨A1, b1, e1, e2, e3, e4⟩ := x8_goesFree (F := F) (A := A) (V := V) (B := B) (q := q) h hN hb h85 hF
    have top : x_X8_longest_45 F 68 (u + 1) (mk A B V q) (nI n) = if frB m W (n + 1) = true then x_X8_longest_45 F 68 u (mk A1 B V q) (nI (n + 1)) else some (nI n, mk A1 B V q) := by
      show s_X8_longest_45 _ _ _ _ _ = _
      unfold s_X8_longest_45
      rw [if_neg (show ¬ (40 : Int32) < nI n from fun z => by have := (nI_ltI (a := 40) (by omega) (by omega)).mp z; omega), e1, bs, nI_1]
      dsimp only
      cases frB m W (n + 1)
      · rfl
      · rfl
    rw [top]
    simp only [lgF]
    by_cases hf : frB m W (n + 1) = true
    · rw [if_pos hf, if_pos hf]
      obtain ⟨A', i1, i2⟩ := ih u (n + 1) A1 b1 (by omega) (by omega) (netM_c hN (e2 _ (by omega) (by omega)) (e2 _ (by omega) (by omega))) e3 e4
      exact ⟨A', i1, fun p h1 h2 => by rw [i2 p h1 h2, e2 p h1 h2]⟩
    · rw [if_neg hf, if_neg hf]
      exact ⟨A1, rfl, e2⟩
theorem x8_lg_init {V : tA2} {B : tB2} {q : tQ} : ∀ (d u e : Nat) (A : tA2), e + d = 40 → d < u → (∀ i, i < e → A 85 i = cI (decide (i = 0))) → ∃ A', x_X8_longest_16 F 68 u (mk A B V q) (nI e) = x_X8_longest_45 F 68 F (mk A' B V q) 0 ∧ (∀ p, p ≠ 85 → A' p = A p) ∧ ∀ i, i < 40 → A' 85 i = cI (decide (i = 0)) := by
  intro d
  induction d with
  | zero =>
    intro u e A he hu hA
    obtain ⟨u, rfl⟩ : ∃ z, u = z + 1 := ⟨u - 1, by omega⟩
    refine ⟨A, ?_, fun _ _ => rfl, fun i hi => hA i (by omega)⟩
    show s_X8_longest_16 _ _ _ _ _ = _
    unfold s_X8_longest_16
    rw [show e = 40 by omega, if_pos (by decide)]
  | succ d ih =>
    intro u e A he hu hA
    obtain ⟨u, rfl⟩ : ∃ z, u = z + 1 := ⟨u - 1, by omega⟩
    have ie : inb (nI e) 40 = true := inb_nI (by omega) (by omega)
    obtain ⟨A', e1, e2, e3⟩ := ih u (e + 1) (u2 A 85 e (cI (decide (e = 0)))) (by omega) (by omega) (fun i hi => by
      by_cases z : i = e
      · subst z; rw [u2_s]
      · rw [u2_k _ _ z]; exact hA i (by omega))
    refine ⟨A', ?_, fun p hp => by rw [e2 p hp, u2_pp _ _ hp], e3⟩
    show s_X8_longest_16 _ _ _ _ _ = _
    unfold s_X8_longest_16 x_X8_longest_36
    rw [if_neg (show ¬ (40 : Int32) ≤ nI e from fun z => by have := (nI_leI (a := 40) (by omega) (by omega)).mp z; omega), r_68_23, bs]
    by_cases z : e = 0
    · rw [if_pos (by rw [z]; rfl), s_85 ie, bs, tn (by omega), nI_1]
      rw [decide_eq_true z] at e1
      exact e1
    · rw [if_neg (nz0 z (by omega)), s_85 ie, bs, tn (by omega), nI_1]
      rw [decide_eq_false z] at e1
      exact e1
theorem step_longest (hF : 700 ≤ F) : st_longest (InvH NOp SSp) F := by
  intro h hI
  obtain ⟨A, B, V, q, m, kd, ln, lt, rfl, hI⟩ := hI
  obtain ⟨hm, v1, v2, hX, hM, hL⟩ := id hI.2.1
  have self : InvH NOp SSp (mk A B V q) := ⟨A, B, V, q, m, kd, ln, lt, rfl, hI⟩
  by_cases h0 : m = 0
  · refine ⟨(-3, mk A B V q), (-3, mk A B V q), ?_, ?_, rfl, self⟩
    · unfold x_X7_longest
      rw [c_0, bs, g_0_3, bs, v1, h0, if_pos nI_0]
    · unfold x_X8_longest
      rw [c_68, bs, g_68_5, bs, v2, h0, if_pos nI_0]
  · obtain ⟨ok, A1, B1, V1, e1, I1, N1, v14⟩ := x7_renewNet (F := F) (by omega) hI hF
    obtain ⟨n0, n1, n2, n3, n4, n5⟩ := N1
    obtain ⟨-, -, y2, -, yM, -⟩ := id I1.2.1
    obtain ⟨A2, f1, f2, f3⟩ := x8_findNext (F := F) (A := A1) (B := B1) (V := V1) (q := q) ok y2 yM (by omega)
    obtain ⟨A3, g1, g2, g3⟩ := x8_lg_init (F := F) (V := V1) (B := B1) (q := q) 40 F 0 A2 (by omega) (by omega) (fun i hi => by omega)
    obtain ⟨A4, i1, i2⟩ := x8_lg_loop (F := F) (V := V1) (B := B1) (q := q) ok (by omega) 41 F 0 A3 (fun e => decide (e = 0)) (by omega) (by omega) (netM_c f3 (g2 _ (by omega)) (g2 _ (by omega))) (fun e he => by
      rw [decide_eq_true_eq]
      constructor
      · rintro rfl; exact ⟨0, LN_0.mpr rfl, ST_0, sx_0 3⟩
      · rintro ⟨r, l1, l2, l3⟩
        rw [LN_0.mp l1, sx_0] at l3
        exact l3.symm) g3
    refine ⟨(lgF m (kd, ln, lt) 0 41, mk A1 B1 V1 q), (lgF m (kd, ln, lt) 0 41, mk A4 B1 V1 q), ?_, ?_, rfl, A4, B1, V1, q, m, kd, ln, lt, rfl, ?_⟩
    · unfold x_X7_longest
      rw [c_0, bs, g_0_3, bs, v1, if_neg (nz0 h0 (by omega)), e1, bs, r_0_11, bs, x1_longestSilent ok n2 (by omega), bs]
    · unfold x_X8_longest
      dsimp only
      rw [nI_0] at g1 i1
      rw [c_68, bs, g_68_5, bs, y2, if_neg (nz0 h0 (by omega)), f1, bs, g1]
      exact i1
    · exact inv_scr NO_f I1 (fun p hp => by unfold scrA at hp; rw [i2 p (by omega) (by omega), g2 p (by omega), f2 p (by omega)]) (fun _ _ _ => rfl) (fun _ _ _ => rfl)
end LG
