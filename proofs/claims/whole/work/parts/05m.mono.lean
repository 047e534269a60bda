/-! PURE SIDE: the pace never rises within a crossing -/
theorem cx_mono {a w : Nat → Int32} {q : Nat → Int} {m j p : Nat} (h : 0 ≤ q p) (hj : m ≤ j) : cx a q w j p ≤ cx a q w m p := by
  unfold cx
  by_cases c : a p ≠ -1 ∧ (j : Int) < (w (a p).toNatClampNeg).toInt
  · rw [if_pos c, if_pos ⟨c.1, by omega⟩]; exact Int.le_refl _
  · rw [if_neg c]
    by_cases c2 : a p ≠ -1 ∧ (m : Int) < (w (a p).toNatClampNeg).toInt
    · rw [if_pos c2]; exact h
    · rw [if_neg c2]; exact Int.le_refl _
theorem cL1_mono {l l' x x' : Int} {b : Prop} [Decidable b] (h1 : l ≤ l') (h2 : x ≤ x') : cL1 l b x ≤ cL1 l' b x' := by
  unfold cL1
  by_cases c : b
  · by_cases c1 : x < l <;> by_cases c2 : x' < l' <;> simp only [c, c1, c2, and_self, and_false, if_true, if_false] <;> omega
  · rw [if_neg (fun z => c z.1), if_neg (fun z => c z.1)]; exact h1
theorem cPace_mono {law : Int32} {a : Nat → Int32} {x y : Nat → Int} (h : ∀ p, p < 3 → x p ≤ y p) : cPace law a x ≤ cPace law a y := by
  have h0 := h 0 (by decide)
  have h1 := h 1 (by decide)
  have h2 := h 2 (by decide)
  unfold cPace
  by_cases c : law = 0
  · rw [if_pos c, if_pos c]; omega
  · rw [if_neg c, if_neg c]
    exact Int.mul_le_mul_of_nonneg_right (cL1_mono (cL1_mono (cL1_mono (Int.le_refl _) h0) h1) h2) (cCnt_b a).1
theorem cCome_s (law : Int32) (a w : Nat → Int32) (q : Nat → Int) (push : Int) (m : Nat) : cCome law a q w push (m + 1) = if cCome law a q w push m + (cPace law a (cx a q w m) + push) < 0 then 0 else cCome law a q w push m + (cPace law a (cx a q w m) + push) := rfl
theorem come_le {law : Int32} {a w : Nat → Int32} {q : Nat → Int} {push Pp : Int} {m : Nat} (h0 : 0 ≤ Pp) (hc : 0 ≤ cCome law a q w push m) (h : ∀ j, m ≤ j → cPace law a (cx a q w j) + push ≤ Pp) : ∀ i : Nat, cCome law a q w push (m + i) ≤ cCome law a q w push m + Pp * (i : Int)
  | 0 => by simp
  | i + 1 => by
    have ih := come_le h0 hc h i
    have hj := h (m + i) (by omega)
    have hm : Pp * ((i + 1 : Nat) : Int) = Pp * (i : Int) + Pp := by rw [Int.natCast_add, Int.mul_add]; simp
    have hn : 0 ≤ Pp * (i : Int) := Int.mul_nonneg h0 (by omega)
    show cCome law a q w push (m + i + 1) ≤ _
    rw [cCome_s]
    by_cases c : cCome law a q w push (m + i) + (cPace law a (cx a q w (m + i)) + push) < 0
    · rw [if_pos c]; omega
    · rw [if_neg c]; omega
theorem come_const {law : Int32} {a w : Nat → Int32} {q : Nat → Int} {push P : Int} {m : Nat} (h0 : 0 ≤ P) (hc : 0 ≤ cCome law a q w push m) : ∀ i : Nat, (∀ j, m ≤ j → j < m + i → cPace law a (cx a q w j) + push = P) → cCome law a q w push (m + i) = cCome law a q w push m + P * (i : Int)
  | 0, _ => by simp
  | i + 1, h => by
    have ih := come_const h0 hc i (fun j h1 h2 => h j h1 (by omega))
    have hj := h (m + i) (by omega) (by omega)
    have hm : P * ((i + 1 : Nat) : Int) = P * (i : Int) + P := by rw [Int.natCast_add, Int.mul_add]; simp
    have hn : 0 ≤ P * (i : Int) := Int.mul_nonneg h0 (by omega)
    show cCome law a q w push (m + i + 1) = _
    rw [cCome_s]
    rw [if_neg (by omega)]
    omega
/-- a horse at p that still has strength behind m minutes -/
def alv (a u : Nat → Int32) (m p : Nat) : Prop := a p ≠ -1 ∧ (m : Int) < (u (a p).toNatClampNeg).toInt
theorem nL1_spec (l : Int) (a u : Nat → Int32) (m p : Nat) : nL1 l a u m p ≤ l ∧ (alv a u m p → nL1 l a u m p ≤ (u (a p).toNatClampNeg).toInt) ∧ (nL1 l a u m p = l ∨ (alv a u m p ∧ nL1 l a u m p = (u (a p).toNatClampNeg).toInt)) := by
  unfold nL1 alv
  by_cases c : a p ≠ -1 ∧ (m : Int) < (u (a p).toNatClampNeg).toInt ∧ (u (a p).toNatClampNeg).toInt < l
  · rw [if_pos c]; exact ⟨by omega, fun _ => Int.le_refl _, Or.inr ⟨⟨c.1, c.2.1⟩, rfl⟩⟩
  · rw [if_neg c]
    refine ⟨Int.le_refl _, fun h => ?_, Or.inl rfl⟩
    rcases Int.lt_or_le (u (a p).toNatClampNeg).toInt l with z | z
    · exact absurd ⟨h.1, h.2, z⟩ c
    · exact z
theorem nLame_spec (a u : Nat → Int32) (m : Nat) : nLame a u m ≤ 120 ∧ (∀ p, p < 3 → alv a u m p → nLame a u m ≤ (u (a p).toNatClampNeg).toInt) ∧ (nLame a u m = 120 ∨ ∃ p, p < 3 ∧ alv a u m p ∧ nLame a u m = (u (a p).toNatClampNeg).toInt) := by
  unfold nLame
  obtain ⟨x1, x2, x3⟩ := nL1_spec 120 a u m 0
  obtain ⟨y1, y2, y3⟩ := nL1_spec (nL1 120 a u m 0) a u m 1
  obtain ⟨z1, z2, z3⟩ := nL1_spec (nL1 (nL1 120 a u m 0) a u m 1) a u m 2
  refine ⟨by omega, fun p hp h => ?_, ?_⟩
  · match p, hp, h with
    | 0, _, h => have := x2 h; omega
    | 1, _, h => have := y2 h; omega
    | 2, _, h => exact z2 h
  · rcases z3 with z | z
    · rcases y3 with y | y
      · rcases x3 with x | x
        · exact Or.inl (by omega)
        · exact Or.inr ⟨0, by decide, x.1, by rw [z, y]; exact x.2⟩
      · exact Or.inr ⟨1, by decide, y.1, by rw [z]; exact y.2⟩
    · exact Or.inr ⟨2, by decide, z.1, z.2⟩
theorem cx_same {a u : Nat → Int32} {q : Nat → Int} {m j p : Nat} (hp : p < 3) (h1 : m ≤ j) (h2 : (j : Int) < nLame a u m) : cx a q u j p = cx a q u m p := by
  obtain ⟨-, hs, -⟩ := nLame_spec a u m
  unfold cx
  by_cases c : a p ≠ -1 ∧ (m : Int) < (u (a p).toNatClampNeg).toInt
  · have := hs p hp c
    rw [if_pos c, if_pos ⟨c.1, by omega⟩]
  · rw [if_neg c, if_neg (fun z => c ⟨z.1, by omega⟩)]
def alN (a u : Nat → Int32) (m p : Nat) : Nat := if a p ≠ -1 ∧ (m : Int) < (u (a p).toNatClampNeg).toInt then 1 else 0
def alive (a u : Nat → Int32) (m : Nat) : Nat := alN a u m 0 + alN a u m 1 + alN a u m 2
theorem alN_le {a u : Nat → Int32} {m j p : Nat} (h : m ≤ j) : alN a u j p ≤ alN a u m p := by
  unfold alN
  by_cases c : a p ≠ -1 ∧ (j : Int) < (u (a p).toNatClampNeg).toInt
  · rw [if_pos c, if_pos ⟨c.1, by omega⟩]; exact Nat.le_refl _
  · rw [if_neg c]; exact Nat.zero_le _
theorem alive_lt {a u : Nat → Int32} {m j p : Nat} (hp : p < 3) (h : m ≤ j) (h1 : alv a u m p) (h2 : ¬ (j : Int) < (u (a p).toNatClampNeg).toInt) : alive a u j < alive a u m := by
  have e1 : alN a u m p = 1 := if_pos h1
  have e2 : alN a u j p = 0 := if_neg (fun z => h2 z.2)
  have g0 := alN_le (a := a) (u := u) (p := 0) h
  have g1 := alN_le (a := a) (u := u) (p := 1) h
  have g2 := alN_le (a := a) (u := u) (p := 2) h
  unfold alive
  match p, hp, e1, e2 with
  | 0, _, e1, e2 => omega
  | 1, _, e1, e2 => omega
  | 2, _, e1, e2 => omega
theorem alive_3 (a u : Nat → Int32) (m : Nat) : alive a u m ≤ 3 := by
  have h : ∀ p, alN a u m p ≤ 1 := fun p => by
    unfold alN
    by_cases c : a p ≠ -1 ∧ (m : Int) < (u (a p).toNatClampNeg).toInt
    · rw [if_pos c]; exact Nat.le_refl _
    · rw [if_neg c]; exact Nat.zero_le _
  have h0 := h 0
  have h1 := h 1
  have h2 := h 2
  unfold alive
  omega
