/-! PURE SIDE, tools: Int32 by Int -/
def jI (z : Int) : Int32 := Int32.ofInt z
theorem jI_self (x : Int32) : jI x.toInt = x := Int32.ofInt_toInt x
theorem jI_toInt {z : Int} (h : -2147483648 ≤ z) (h2 : z < 2147483648) : (jI z).toInt = z := Int32.toInt_ofInt_of_le (by omega) (by omega)
theorem jI_add (a b : Int) : jI a + jI b = jI (a + b) := (Int32.ofInt_add a b).symm
theorem jI_sub (a b : Int) : jI a - jI b = jI (a - b) := (Int32.ofInt_sub a b).symm
theorem jI_mul (a b : Int) : jI a * jI b = jI (a * b) := (Int32.ofInt_mul a b).symm
theorem jI_neg (a : Int) : -jI a = jI (-a) := (Int32.ofInt_neg a).symm
theorem jI_lt {a b : Int} (h1 : -2147483648 ≤ a) (h2 : a < 2147483648) (h3 : -2147483648 ≤ b) (h4 : b < 2147483648) : jI a < jI b ↔ a < b := by
  rw [Int32.lt_iff_toInt_lt, jI_toInt h1 h2, jI_toInt h3 h4]
theorem jI_le {a b : Int} (h1 : -2147483648 ≤ a) (h2 : a < 2147483648) (h3 : -2147483648 ≤ b) (h4 : b < 2147483648) : jI a ≤ jI b ↔ a ≤ b := by
  rw [Int32.le_iff_toInt_le, jI_toInt h1 h2, jI_toInt h3 h4]
theorem jI_eq {a b : Int} (h1 : -2147483648 ≤ a) (h2 : a < 2147483648) (h3 : -2147483648 ≤ b) (h4 : b < 2147483648) : jI a = jI b ↔ a = b := by
  rw [← Int32.toInt_inj, jI_toInt h1 h2, jI_toInt h3 h4]
theorem jI_clamp {a : Int} (h1 : -2147483648 ≤ a) (h2 : a < 2147483648) : (jI a).toNatClampNeg = a.toNat := by
  show (jI a).toInt.toNat = _
  rw [jI_toInt h1 h2]
theorem jI_div {a b : Int} (h1 : -2147483648 < a) (h2 : a < 2147483648) (h3 : -2147483648 ≤ b) (h4 : b < 2147483648) : jI a / jI b = jI (a.tdiv b) := by
  refine Int32.toInt_inj.mp ?_
  have ha : (jI a).toInt = a := jI_toInt (by omega) h2
  have hne : jI a ≠ Int32.minValue := fun h => by
    have := congrArg Int32.toInt h
    rw [ha] at this
    have h9 : (Int32.minValue).toInt = -2147483648 := by decide
    omega
  rw [Int32.toInt_div_of_ne_left _ _ hne, ha, jI_toInt h3 h4]
  have hb : a.tdiv b ≤ a.natAbs ∧ -(a.natAbs : Int) ≤ a.tdiv b := by
    have := Int.natAbs_tdiv a b
    have h8 : (a.tdiv b).natAbs ≤ a.natAbs := by rw [this]; exact Nat.div_le_self _ _
    omega
  rw [jI_toInt (by omega) (by omega)]
theorem jI_lit (n : Nat) : (OfNat.ofNat n : Int32) = jI (n : Int) := by
  show Int32.ofNat n = Int32.ofInt n
  exact Int32.ofInt_eq_ofNat.symm
theorem jI_nat (n : Nat) : nI n = jI n := Int32.ofInt_eq_ofNat.symm
theorem jI_ex (x : Int32) : ∃ z : Int, x = jI z ∧ -2147483648 ≤ z ∧ z < 2147483648 := ⟨x.toInt, (jI_self x).symm, by have := x.le_toInt; omega, by have := x.toInt_lt; omega⟩
theorem t_jI : ∀ (k : Int), -2147483648 ≤ k → k < 2147483648 → (jI k).toInt = k := fun _ h1 h2 => jI_toInt h1 h2
/-- comparisons of any two by Int -/
theorem i_lt (a b : Int32) : a < b ↔ a.toInt < b.toInt := Int32.lt_iff_toInt_lt
theorem i_le (a b : Int32) : a ≤ b ↔ a.toInt ≤ b.toInt := Int32.le_iff_toInt_le
theorem i_eq (a b : Int32) : a = b ↔ a.toInt = b.toInt := Int32.toInt_inj.symm
theorem i_cl (a : Int32) : a.toNatClampNeg = a.toInt.toNat := rfl
theorem i_add (a b : Int32) : (a + b).toInt = (a.toInt + b.toInt).bmod 4294967296 := Int32.toInt_add a b
theorem upd_s {f : Nat → Int32} {k : Nat} {x : Int32} : upd f k x k = x := pk_us
theorem upd_n {f : Nat → Int32} {k j : Nat} {x : Int32} (h : j ≠ k) : upd f k x j = f j := pk_un h
theorem upd_at (f : Nat → Int32) (k j : Nat) (x : Int32) : upd f k x j = if j = k then x else f j := by
  by_cases h : j = k
  · subst h; rw [if_pos rfl, upd_s]
  · rw [if_neg h, upd_n h]
