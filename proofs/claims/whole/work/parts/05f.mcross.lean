/-! PURE SIDE: the reference's crossing -/
/-- the table's numbers are in their bounds -/
def TW (t : Nat → Int32) : Prop :=
  (0 ≤ t 3 ∧ t 3 ≤ 6) ∧ (0 ≤ t 2 ∧ t 2 ≤ 999) ∧ (0 ≤ t 7 ∧ t 7 ≤ 12) ∧ (∀ h : Nat, h < (t 3).toNatClampNeg → 1 ≤ t (8 + 4 * h) ∧ t (8 + 4 * h) ≤ 30) ∧ (∀ a b : Nat, a < 6 → b < 6 → 0 ≤ t (32 + 6 * a + b) ∧ t (32 + 6 * a + b) ≤ 10) ∧ (∀ i : Nat, i < (t 7).toNatClampNeg → 0 ≤ t (68 + i) ∧ t (68 + i) ≤ 40)
/-- a crew: each place nobody, or a horse that there is -/
def CREW (t a : Nat → Int32) : Prop := ∀ p : Nat, p < 3 → a p = -1 ∨ ∃ h : Nat, h < (t 3).toNatClampNeg ∧ h < 6 ∧ a p = nI h
theorem nI_ne {h : Nat} (hh : h < 1000000) : nI h ≠ -1 := by
  intro e
  have := congrArg Int32.toInt e
  rw [nI_toInt (by omega)] at this
  have h9 : ((-1 : Int32)).toInt = -1 := by decide
  omega
theorem idx_ok {i : Int32} {k n : Nat} (e : i = nI k) (h : k < n) (hn : n < 2147483648) : ¬ (i < 0 ∨ n ≤ i.toNatClampNeg) := by
  subst e
  rintro (h1 | h1)
  · exact nI_pos (by omega) h1
  · rw [nI_clamp (by omega)] at h1; omega
theorem at_idx {f : Nat → Int32} {i : Int32} {k : Nat} (e : i = nI k) (h : k < 2147483648) : f i.toNatClampNeg = f k := by rw [e, nI_clamp (by omega)]
theorem lit_n (n : Nat) : (OfNat.ofNat n : Int32) = nI n := rfl
theorem in_t {v a b : Int32} (h1 : a ≤ v) (h2 : v ≤ b) : f_X9_in v a b = some 1 := by rw [e_in, if_pos ⟨h1, h2⟩]
theorem in_f {v a b : Int32} (h : ¬ (a ≤ v ∧ v ≤ b)) : f_X9_in v a b = some 0 := by rw [e_in, if_neg h]
theorem e_moodOf_in {t a : Nat → Int32} {h p : Nat} (hp : p < 3) (ha : CREW t a) (hh : h < 6) : f_X9_moodOf (nI h) (nI p) t a = some (jI (moodP t a h p)) := by
  unfold f_X9_moodOf moodP
  rw [in_t (a := 0) (b := 2) (show nI 0 ≤ nI p from nI_le (by omega) (by omega)) (show nI p ≤ nI 2 from nI_le (by omega) (by omega)), bn1_some, if_neg (by decide), if_neg (idx_ok rfl hp (by decide)), nI_clamp (by omega)]
  rcases ha p hp with e | ⟨g, -, hg, e⟩
  · rw [if_pos e, if_neg (by rw [e]; simp)]; rfl
  · have hne : ¬ a p = -1 := by rw [e]; exact nI_ne (by omega)
    have ei : (((32 : Int32) + ((6 : Int32) * nI h)) + a p) = nI (32 + 6 * h + g) := by
      rw [e, lit_n 32, lit_n 6, pk_mul, nI_add, nI_add]
    rw [if_neg hne, if_neg (idx_ok ei (by omega) (by decide)), at_idx (f := t) ei (by omega), if_pos ⟨hp, hne⟩, e, nI_clamp (by omega)]
    congr 1
    rw [← jI_self (t _), show (5 : Int32) = jI 5 from rfl, jI_sub, jI_self]
theorem e_moodOf_out {t a : Nat → Int32} {h : Nat} {p : Int32} (hp : p < 0 ∨ 2 < p) : f_X9_moodOf (nI h) p t a = some 0 := by
  unfold f_X9_moodOf
  rw [in_f (by rintro ⟨h1, h2⟩; rcases hp with q | q <;> grind), bn1_some, if_pos rfl]
theorem moodP_b {t a : Nat → Int32} (ht : TW t) (ha : CREW t a) {h p : Nat} (hh : h < 6) : -5 ≤ moodP t a h p ∧ moodP t a h p ≤ 5 := by
  unfold moodP
  by_cases c : p < 3 ∧ a p ≠ -1
  · rw [if_pos c]
    rcases ha p c.1 with e | ⟨g, -, hg, e⟩
    · exact absurd e c.2
    · rw [e, nI_clamp (by omega)]
      have := ht.2.2.2.2.1 h g hh hg
      rw [i_le, i_le] at this
      have h0 : (0 : Int32).toInt = 0 := rfl
      have h10 : (10 : Int32).toInt = 10 := rfl
      omega
  · rw [if_neg c]; omega

theorem pull_b {t : Nat → Int32} (ht : TW t) {h : Nat} (hh : h < (t 3).toNatClampNeg) : 1 ≤ (t (8 + 4 * h)).toInt ∧ (t (8 + 4 * h)).toInt ≤ 30 := by
  have := ht.2.2.2.1 h hh
  rw [i_le, i_le] at this
  exact this
/-- the mood of the place ahead -/
def md0 (t a : Nat → Int32) (h p : Nat) : Int := if p = 0 then 0 else moodP t a h (p - 1)
theorem md0_b {t a : Nat → Int32} (ht : TW t) (ha : CREW t a) {h p : Nat} (hh : h < 6) : -5 ≤ md0 t a h p ∧ md0 t a h p ≤ 5 := by
  unfold md0
  by_cases c : p = 0
  · rw [if_pos c]; omega
  · rw [if_neg c]; exact moodP_b ht ha hh
/-- what horse h at p would pull, before half -/
def rawP (t a : Nat → Int32) (h p : Nat) : Int :=
  if t (8 + 4 * h + 3) = 0 then (t (8 + 4 * h)).toInt + (md0 t a h p + moodP t a h (p + 1)) else (t (8 + 4 * h)).toInt
def posP (v : Int) : Int := if v < 0 then 0 else v
theorem pullP_eq {t a : Nat → Int32} {half : Int32} {h p : Nat} (e : a p = nI h) (hh : h < 6) : pullP t a half p = if nI h = half then posP (rawP t a h p) / 2 else posP (rawP t a h p) := by
  have hne : ¬ a p = -1 := by rw [e]; exact nI_ne (by omega)
  unfold pullP
  rw [if_neg hne, e, nI_clamp (by omega)]
  rfl
theorem rawP_b {t a : Nat → Int32} (ht : TW t) (ha : CREW t a) {h p : Nat} (hh : h < 6) (h2 : h < (t 3).toNatClampNeg) : -9 ≤ rawP t a h p ∧ rawP t a h p ≤ 40 := by
  have h1 := pull_b ht h2
  have h3 := md0_b ht ha (p := p) hh
  have h4 := moodP_b ht ha (p := p + 1) hh
  unfold rawP
  by_cases c : t (8 + 4 * h + 3) = 0
  · rw [if_pos c]; omega
  · rw [if_neg c]; omega
theorem pullP_b {t a : Nat → Int32} {half : Int32} (ht : TW t) (ha : CREW t a) {p : Nat} (hp : p < 3) : 0 ≤ pullP t a half p ∧ pullP t a half p ≤ 40 := by
  rcases ha p hp with e | ⟨h, h2, hh, e⟩
  · unfold pullP; rw [if_pos e]; omega
  · rw [pullP_eq e hh]
    have := rawP_b ht ha (p := p) hh h2
    unfold posP
    by_cases c1 : nI h = half <;> by_cases c2 : rawP t a h p < 0 <;> simp only [c1, c2, if_true, if_false] <;> omega
theorem e_mood0 {t a : Nat → Int32} {h p : Nat} (hp : p < 3) (ha : CREW t a) (hh : h < 6) : f_X9_moodOf (nI h) (nI p - 1) t a = some (jI (md0 t a h p)) := by
  unfold md0
  by_cases c : p = 0
  · subst c; rw [if_pos rfl, e_moodOf_out (Or.inl (by decide))]; rfl
  · rw [if_neg c, show nI p - 1 = nI (p - 1) from pk_sub (a := p) (b := 1) (by omega), e_moodOf_in (by omega) ha hh]
theorem e_mood1 {t a : Nat → Int32} {h p : Nat} (hp : p < 3) (ha : CREW t a) (hh : h < 6) : f_X9_moodOf (nI h) (nI p + 1) t a = some (jI (moodP t a h (p + 1))) := by
  rw [nI_1]
  by_cases c : p = 2
  · subst c; rw [e_moodOf_out (Or.inr (by decide))]; unfold moodP; rw [if_neg (by omega)]; rfl
  · rw [e_moodOf_in (by omega) ha hh]
theorem posP_j {v : Int} (h1 : -9 ≤ v) (h2 : v ≤ 40) : (if (0 : Int32) ≤ jI v then jI v else 0) = jI (posP v) := by
  unfold posP
  by_cases c : v < 0
  · rw [if_pos c, if_neg]; · rfl
    rw [show (0 : Int32) = jI 0 from rfl, jI_le (by omega) (by omega) (by omega) (by omega)]; omega
  · rw [if_neg c, if_pos]
    rw [show (0 : Int32) = jI 0 from rfl, jI_le (by omega) (by omega) (by omega) (by omega)]; omega
theorem half_j {v : Int} (h1 : 0 ≤ v) (h2 : v ≤ 40) : jI v / 2 = jI (v / 2) := by
  rw [show (2 : Int32) = jI 2 from rfl, jI_div (by omega) (by omega) (by omega) (by omega), Int.tdiv_eq_ediv_of_nonneg h1]
theorem e_pullAt {t a w : Nat → Int32} {half : Int32} {p : Nat} (hp : p < 3) (ha : CREW t a) (ht : TW t) : f_X9_pullAt (nI p) half t w a = some (jI (if a p ≠ -1 ∧ w (a p).toNatClampNeg ≠ 0 then pullP t a half p else 0)) := by
  unfold f_X9_pullAt
  rw [if_neg (idx_ok rfl hp (by decide)), nI_clamp (by omega)]
  rcases ha p hp with e | ⟨h, h2, hh, e⟩
  · rw [if_pos e, if_neg (by rw [e]; simp)]; rfl
  · have hne : ¬ a p = -1 := by rw [e]; exact nI_ne (by omega)
    rw [if_neg hne, if_neg (idx_ok e hh (by decide)), pullP_eq e hh, e, nI_clamp (by omega)]
    by_cases hw : w h = 0
    · rw [if_pos hw, if_neg (fun q => q.2 hw)]; rfl
    · have e1 : (8 : Int32) + (4 : Int32) * nI h = nI (8 + 4 * h) := by rw [lit_n 8, lit_n 4, pk_mul, nI_add]
      have e2 : nI (8 + 4 * h) + (3 : Int32) = nI (8 + 4 * h + 3) := nI_add _ 3
      have hb := rawP_b ht ha (p := p) hh h2
      rw [if_neg hw, e1, e2, if_neg (idx_ok rfl (by omega) (by decide)), if_neg (idx_ok rfl (by omega) (by decide)), nI_clamp (by omega), nI_clamp (by omega), if_pos ⟨nI_ne (by omega), hw⟩]
      rw [show ∀ (J : Int32 → Option Int32) (k : (Int32 → Option Int32) → Option Int32), jn1 J k = k J from fun _ _ => rfl]
      have key : ∀ y : Int32, y = jI (rawP t a h p) → (jn1 (fun z0_6 : Int32 => if nI h = half then some (z0_6 / 2) else some z0_6) (fun J80_6 => if 0 ≤ y then J80_6 y else J80_6 0)) = some (jI (if nI h = half then posP (rawP t a h p) / 2 else posP (rawP t a h p))) := by
        intro y hy
        subst hy
        rw [jn1_if, posP_j hb.1 hb.2]
        have hq : 0 ≤ posP (rawP t a h p) ∧ posP (rawP t a h p) ≤ 40 := by unfold posP; split <;> omega
        by_cases c : nI h = half
        · rw [if_pos c, if_pos c, half_j hq.1 hq.2]
        · rw [if_neg c, if_neg c]
      by_cases c : t (8 + 4 * h + 3) = 0
      · rw [if_pos c, e_mood0 hp ha hh, bn1_some, e_mood1 hp ha hh, bn1_some]
        refine key _ ?_
        unfold rawP
        rw [if_pos c, jI_add, ← jI_self (t (8 + 4 * h)), jI_add, jI_self]
      · rw [if_neg c]
        refine key _ ?_
        unfold rawP
        rw [if_neg c, jI_self]
