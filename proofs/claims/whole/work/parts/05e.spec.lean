/-! PURE SIDE: what a crossing, and what is tried, is: by Int -/
/-- pull at place p of the crew a, by the table t; half: the horse that pulls half (NONE: none) -/
def moodP (t a : Nat → Int32) (h p : Nat) : Int := if p < 3 ∧ a p ≠ -1 then (t (32 + 6 * h + (a p).toNatClampNeg)).toInt - 5 else 0
def pullP (t a : Nat → Int32) (half : Int32) (p : Nat) : Int :=
  if a p = -1 then 0 else
    let h := (a p).toNatClampNeg
    let own := (t (8 + 4 * h)).toInt
    let v := if t (8 + 4 * h + 3) = 0 then own + ((if p = 0 then 0 else moodP t a h (p - 1)) + moodP t a h (p + 1)) else own
    let v := if v < 0 then 0 else v
    if a p = half then v / 2 else v
/-- what place p pulls in minute m (from 0), w: strengths at the beginning -/
def cx (a : Nat → Int32) (q : Nat → Int) (w : Nat → Int32) (m p : Nat) : Int := if a p ≠ -1 ∧ (m : Int) < (w (a p).toNatClampNeg).toInt then q p else 0
def cCnt (a : Nat → Int32) : Int := (if a 0 ≠ -1 then 1 else 0) + (if a 1 ≠ -1 then 1 else 0) + (if a 2 ≠ -1 then 1 else 0)
def cL1 (l : Int) (b : Prop) [Decidable b] (x : Int) : Int := if b ∧ x < l then x else l
def cLeast (a : Nat → Int32) (x : Nat → Int) : Int := cL1 (cL1 (cL1 1000 (a 0 ≠ -1) (x 0)) (a 1 ≠ -1) (x 1)) (a 2 ≠ -1) (x 2)
def cPace (law : Int32) (a : Nat → Int32) (x : Nat → Int) : Int := if law = 0 then x 0 + x 1 + x 2 else cLeast a x * cCnt a
/-- how far she has come behind m minutes; push: the tide less the load -/
def cCome (law : Int32) (a : Nat → Int32) (q : Nat → Int) (w : Nat → Int32) (push : Int) : Nat → Int
  | 0 => 0
  | m + 1 => if cCome law a q w push m + (cPace law a (cx a q w m) + push) < 0 then 0 else cCome law a q w push m + (cPace law a (cx a q w m) + push)
/-- the first minute of m + 1 .. m + k at which g has come to br; 0: none -/
def cFind (br : Int) (g : Nat → Int) : Nat → Nat → Nat
  | 0, _ => 0
  | k + 1, m => if br ≤ g (m + 1) then m + 1 else cFind br g k (m + 1)
def cMin (law : Int32) (br : Int) (a : Nat → Int32) (q : Nat → Int) (w : Nat → Int32) (push : Int) : Nat := cFind br (cCome law a q w push) 120 0
/-- what place p eats in m minutes -/
def cE1 (a : Nat → Int32) (q : Nat → Int) (w : Nat → Int32) (m : Nat) (p : Nat) : Int := if a p ≠ -1 then q p * min (w (a p).toNatClampNeg).toInt m else 0
def cEat (a : Nat → Int32) (q : Nat → Int) (w : Nat → Int32) (m : Nat) : Int := cE1 a q w m 0 + cE1 a q w m 1 + cE1 a q w m 2
theorem cFind_spec (br : Int) (g : Nat → Int) : ∀ (k m : Nat), (∃ j, m < j ∧ j ≤ m + k ∧ br ≤ g j ∧ (∀ i, m < i → i < j → ¬ br ≤ g i) ∧ cFind br g k m = j) ∨ ((∀ i, m < i → i ≤ m + k → ¬ br ≤ g i) ∧ cFind br g k m = 0)
  | 0, m => Or.inr ⟨fun i h1 h2 => absurd h1 (by omega), rfl⟩
  | k + 1, m => by
    by_cases h : br ≤ g (m + 1)
    · exact Or.inl ⟨m + 1, by omega, by omega, h, fun i h1 h2 => absurd h1 (by omega), if_pos h⟩
    · rcases cFind_spec br g k (m + 1) with ⟨j, h1, h2, h3, h4, h5⟩ | ⟨h1, h2⟩
      · refine Or.inl ⟨j, by omega, by omega, h3, fun i q1 q2 => ?_, (if_neg h).trans h5⟩
        by_cases e : i = m + 1
        · subst e; exact h
        · exact h4 i (by omega) q2
      · refine Or.inr ⟨fun i q1 q2 => ?_, (if_neg h).trans h2⟩
        by_cases e : i = m + 1
        · subst e; exact h
        · exact h1 i (by omega) (by omega)
