/-! PURE SIDE: which clauses may stand: of both -/
theorem fo_no {y1 zt zv isDue : Int32} {dr : Nat → Int32} (h : zt ≠ 1) : f_X9_faultOf y1 zt zv isDue dr = some 1 := by
  unfold f_X9_faultOf; rw [if_neg h]
theorem fo_nk {y1 zv isDue : Int32} {dr : Nat → Int32} (h : ¬ (0 ≤ zv ∧ zv ≤ 6)) : f_X9_faultOf y1 1 zv isDue dr = some 1 := by
  unfold f_X9_faultOf; rw [if_pos rfl, e_in, bn1_some, if_neg h, if_pos rfl]
theorem in6 {k : Nat} (hk : k ≤ 6) : f_X9_in (nI k) 0 6 = some 1 := by
  rw [e_in, if_pos ⟨nI_pos' (by omega), nI_le (b := 6) hk (by decide)⟩]
theorem fo_a {isDue : Int32} {dr : Nat → Int32} : f_X9_faultOf 1 1 0 isDue dr = some 0 := by
  unfold f_X9_faultOf
  rw [if_pos rfl, show f_X9_in 0 0 6 = some 1 from in6 (k := 0) (by decide), bn1_some, if_neg (show ¬ (1 : Int32) = 0 by decide)]
  dsimp only [jn1]
  rw [if_pos rfl, if_pos rfl, if_neg (show ¬ (0 : Int32) = 1 by decide), if_neg (show ¬ (0 : Int32) = 3 by decide), if_neg (show ¬ (0 : Int32) = 4 by decide), if_neg (show ¬ (0 : Int32) = 5 by decide), if_neg (show ¬ (0 : Int32) = 6 by decide), if_neg (show ¬ (1 : Int32) = 0 by decide), if_pos rfl, if_pos rfl, if_pos rfl]
theorem fo_b {isDue : Int32} {dr : Nat → Int32} : f_X9_faultOf 0 1 0 isDue dr = some 3 := by
  unfold f_X9_faultOf
  rw [if_pos rfl, show f_X9_in 0 0 6 = some 1 from in6 (k := 0) (by decide), bn1_some, if_neg (show ¬ (1 : Int32) = 0 by decide)]
  dsimp only [jn1]
  rw [if_pos rfl, if_neg (show ¬ (0 : Int32) = 1 by decide), if_pos rfl, if_pos rfl, if_neg (show ¬ (0 : Int32) = 1 by decide), if_neg (show ¬ (0 : Int32) = 3 by decide), if_neg (show ¬ (0 : Int32) = 4 by decide), if_neg (show ¬ (0 : Int32) = 5 by decide), if_neg (show ¬ (0 : Int32) = 6 by decide), if_pos rfl, if_pos rfl, if_neg (show ¬ (1 : Int32) = 0 by decide), ite_self]
theorem fo_c {isDue : Int32} {dr : Nat → Int32} {k : Nat} (h1 : 1 ≤ k) (h6 : k ≤ 6) : f_X9_faultOf 1 1 (nI k) isDue dr = some 1 := by
  unfold f_X9_faultOf
  rw [if_pos rfl, in6 h6, bn1_some, if_neg (show ¬ (1 : Int32) = 0 by decide)]
  dsimp only [jn1]
  rw [if_neg (nI_ne0 (by omega) (by omega)), if_neg (show ¬ (1 : Int32) = 0 by decide), if_neg (show ¬ (1 : Int32) = 0 by decide)]
theorem fo_k {isDue : Int32} {dr : Nat → Int32} {k : Nat} (h1 : 1 ≤ k) (h6 : k ≤ 6) : f_X9_faultOf 0 1 (nI k) isDue dr = some (if (k = 1 ∧ dr 3 = 6) ∨ (k = 3 ∧ dr 6 = 12) ∨ (k = 4 ∧ ¬ dr 7 ≤ 0) ∨ (k = 5 ∧ dr 4 = 4) ∨ (k = 6 ∧ isDue ≠ 0) then 3 else 0) := by
  have q3 : dr (Int32.toNatClampNeg 3) = dr 3 := rfl
  have q4 : dr (Int32.toNatClampNeg 4) = dr 4 := rfl
  have q6 : dr (Int32.toNatClampNeg 6) = dr 6 := rfl
  have q7 : dr (Int32.toNatClampNeg 7) = dr 7 := rfl
  unfold f_X9_faultOf
  rw [if_pos rfl, in6 h6, bn1_some, if_neg (show ¬ (1 : Int32) = 0 by decide), q3, q4, q6, q7]
  have n0 : ¬ nI k = 0 := nI_ne0 (by omega) (by omega)
  have e1 : nI k = 1 ↔ k = 1 := nI_eq (b := 1) (by omega) (by omega)
  have e3 : nI k = 3 ↔ k = 3 := nI_eq (b := 3) (by omega) (by omega)
  have e4 : nI k = 4 ↔ k = 4 := nI_eq (b := 4) (by omega) (by omega)
  have e5 : nI k = 5 ↔ k = 5 := nI_eq (b := 5) (by omega) (by omega)
  have e6 : nI k = 6 ↔ k = 6 := nI_eq (b := 6) (by omega) (by omega)
  dsimp only [jn1]
  rw [if_neg n0, if_pos rfl]
  simp only [e1, e3, e4, e5, e6, n0, if_false]
  have h01 : ¬ (1 : Int32) = 0 := by decide
  have hk : k = 1 ∨ k = 2 ∨ k = 3 ∨ k = 4 ∨ k = 5 ∨ k = 6 := by omega
  rcases hk with rfl | rfl | rfl | rfl | rfl | rfl
  · by_cases c : dr 3 = 6
    · simp [c, h01]
    · simp [c]
  · simp
  · by_cases c : dr 6 = 12
    · simp [c, h01]
    · simp [c]
  · by_cases c : dr 7 ≤ 0
    · have c2 : ¬ 0 < dr 7 := by grind
      simp [c, c2]
    · have c2 : 0 < dr 7 := by grind
      simp [c, c2, h01]
  · by_cases c : dr 4 = 4
    · simp [c, h01]
    · simp [c]
  · by_cases c : isDue = 0
    · simp [c]
    · simp [c, h01]
theorem tm_k {places horses besides tideN cartN due : Int32} {k : Nat} (h1 : 1 ≤ k) (h6 : k ≤ 6) : f_X4_isTooMany (nI k) places horses besides tideN cartN due = some (if (k = 1 ∧ ¬ horses < 6) ∨ (k = 3 ∧ ¬ besides < 12) ∨ (k = 4 ∧ ¬ tideN ≤ 0) ∨ (k = 5 ∧ ¬ cartN < 4) ∨ (k = 6 ∧ due ≠ 0) then 1 else 0) := by
  unfold f_X4_isTooMany
  have hk : k = 1 ∨ k = 2 ∨ k = 3 ∨ k = 4 ∨ k = 5 ∨ k = 6 := by omega
  rcases hk with rfl | rfl | rfl | rfl | rfl | rfl
  · rw [if_neg (by decide), if_pos (by decide)]
    by_cases c : horses < 6
    · rw [if_pos c, if_neg (by simp [c])]
    · rw [if_neg c, if_pos (Or.inl ⟨rfl, c⟩)]
  · rw [if_neg (by decide), if_neg (by decide), if_pos (by decide), if_neg (by simp)]
  · rw [if_neg (by decide), if_neg (by decide), if_neg (by decide), if_pos (by decide)]
    by_cases c : besides < 12
    · rw [if_pos c, if_neg (by simp [c])]
    · rw [if_neg c, if_pos (Or.inr (Or.inl ⟨rfl, c⟩))]
  · rw [if_neg (by decide), if_neg (by decide), if_neg (by decide), if_neg (by decide), if_pos (by decide)]
    by_cases c : tideN ≤ 0
    · rw [if_pos c, if_neg (by rintro (z | z | z | z | z) <;> first | exact absurd z.1 (by decide) | exact z.2 c)]
    · rw [if_neg c, if_pos (Or.inr (Or.inr (Or.inl ⟨rfl, c⟩)))]
  · rw [if_neg (by decide), if_neg (by decide), if_neg (by decide), if_neg (by decide), if_neg (by decide), if_pos (by decide)]
    by_cases c : cartN < 4
    · rw [if_pos c, if_neg (by rintro (z | z | z | z | z) <;> first | exact absurd z.1 (by decide) | exact z.2 c)]
    · rw [if_neg c, if_pos (Or.inr (Or.inr (Or.inr (Or.inl ⟨rfl, c⟩))))]
  · rw [if_neg (by decide), if_neg (by decide), if_neg (by decide), if_neg (by decide), if_neg (by decide), if_neg (by decide), if_pos (by decide)]
    by_cases c : due = 0
    · rw [if_pos c, if_neg (by rintro (z | z | z | z | z) <;> first | exact absurd z.1 (by decide) | exact z.2 c)]
    · rw [if_neg c, if_pos (Or.inr (Or.inr (Or.inr (Or.inr ⟨rfl, c⟩))))]
theorem tm_0 {places horses besides tideN cartN due : Int32} : f_X4_isTooMany 0 places horses besides tideN cartN due = some (if places ≤ 0 then 0 else 1) := by
  unfold f_X4_isTooMany
  rw [if_pos rfl]
  by_cases c : places ≤ 0
  · rw [if_pos c, if_pos c]
  · rw [if_neg c, if_neg c]
