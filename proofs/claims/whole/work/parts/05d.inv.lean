/-! PURE SIDE: the invariant of the two objects -/
/-- the ferry: the class's Boat and the reference's table t say the same -/
def RB (law places broad horses blinds tideN cartN due : Int32) (pull str back moods tides carts t : Nat → Int32) : Prop :=
  (t 0 = places ∧ 0 ≤ places ∧ places ≤ 3) ∧ (t 1 = if places = 0 then -1 else law) ∧ (law = 0 ∨ law = 1) ∧ (t 2 = broad ∧ 0 ≤ broad ∧ broad ≤ 999 ∧ (places = 0 ∨ 1 ≤ broad)) ∧ (t 3 = horses ∧ 0 ≤ horses ∧ horses ≤ 6) ∧ (t 4 = cartN ∧ 0 ≤ cartN ∧ cartN ≤ 4) ∧ ((t 5 = if due = 0 then 60 else due) ∧ 0 ≤ due ∧ due ≤ 120) ∧ (t 7 = tideN ∧ 0 ≤ tideN ∧ tideN ≤ 12) ∧
  (∀ h : Nat, h < horses.toNatClampNeg → (t (8 + 4 * h) = pull h ∧ 1 ≤ pull h ∧ pull h ≤ 30) ∧ (t (8 + 4 * h + 1) = str h ∧ 1 ≤ str h ∧ str h ≤ 200) ∧ (t (8 + 4 * h + 2) = back h ∧ 0 ≤ back h ∧ back h ≤ 60) ∧ t (8 + 4 * h + 3) = if (blinds >>> (nI h &&& 31)) &&& 1 = 0 then 0 else 1) ∧
  (∀ a b : Nat, a < 6 → b < 6 → t (32 + 6 * a + b) - 5 = moods (a * 6 + b) ∧ -5 ≤ moods (a * 6 + b) ∧ moods (a * 6 + b) ≤ 5) ∧
  (∀ i : Nat, i < tideN.toNatClampNeg → t (68 + i) = tides i ∧ 0 ≤ tides i ∧ tides i ≤ 40) ∧
  (∀ c : Nat, c < cartN.toNatClampNeg → t (80 + c) = carts c ∧ 0 ≤ carts c ∧ carts c ≤ 60)
/-- HORSES at PLACES: each at one place at most, none at places that there are not -/
def STND (places horses : Int32) (a : Nat → Int32) : Prop :=
  (∀ p : Nat, p < 3 → a p = -1 ∨ (0 ≤ a p ∧ a p < horses ∧ nI p < places)) ∧ (a 0 = -1 ∨ a 0 ≠ a 1) ∧ (a 1 = -1 ∨ a 1 ≠ a 2) ∧ (a 2 = -1 ∨ a 2 ≠ a 0)
/-- a State and the reference's row s -/
def RNb (b : Int) (hour oats missed seed : Int32) (strength stands s t : Nat → Int32) : Prop :=
  (s 9 = hour ∧ 0 ≤ hour ∧ hour.toInt ≤ b) ∧ (s 10 = oats ∧ 0 ≤ oats ∧ oats ≤ 999999999) ∧ s 11 = missed ∧ (s 12 = seed ∧ 0 ≤ seed) ∧ (s 6 = stands 0 ∧ s 7 = stands 1 ∧ s 8 = stands 2) ∧ STND (t 0) (t 3) stands ∧
  (∀ h : Nat, h < (t 3).toNatClampNeg → s h = strength h ∧ 0 ≤ strength h ∧ strength h ≤ t (8 + 4 * h + 1))
abbrev RN (n : Nat) (hour oats missed seed : Int32) (strength stands s t : Nat → Int32) : Prop := RNb (400 * (n : Int)) hour oats missed seed strength stands s t
/-- an image -/
def RI (n : Nat) (hour oats missed seed kept : Int32) (strength stands : Nat → Int32) (k : Nat → Int32) (ik : Int32) (t : Nat → Int32) : Prop :=
  (kept = 0 ∨ kept = 1) ∧ ik = kept ∧ (kept = 1 → RN n hour oats missed seed strength stands k t)
/-- the times told -/
def RM (count : Int32) (who hours minutes : Nat → Int32) (many : Int32) (times t : Nat → Int32) : Prop :=
  (many = count ∧ 0 ≤ count ∧ count ≤ 10) ∧ ∀ k : Nat, k < count.toNatClampNeg → (∀ p : Nat, p < 3 → times (5 * k + p) = who (3 * k + p)) ∧ STND (t 0) (t 3) (fun p => who (3 * k + p)) ∧ ¬ (who (3 * k) = -1 ∧ who (3 * k + 1) = -1 ∧ who (3 * k + 2) = -1) ∧ (times (5 * k + 3) = hours k ∧ 0 ≤ hours k ∧ hours k ≤ 99) ∧ (times (5 * k + 4) = minutes k ∧ 0 ≤ minutes k ∧ minutes k ≤ 120)
/-- the text -/
def RX (length typed : Int32) (text ztext : Nat → Int32) : Prop :=
  (length = typed ∧ 0 ≤ length ∧ length ≤ 500) ∧ ∀ k : Nat, k < length.toNatClampNeg → text k = ztext k ∧ 0 ≤ text k ∧ text k ≤ 255
