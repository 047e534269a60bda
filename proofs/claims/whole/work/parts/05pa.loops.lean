/-! PURE SIDE, tools: the combinators at every arity; the loop rule -/
theorem jn1_e {A1 B C : Type} (J : A1 → Option B) (k : (A1 → Option B) → C) : jn1 J k = k J := rfl
theorem lq1_inv {A1 B : Type} {F : (A1 → Option B) → A1 → Option B} (P : Nat → A1 → Prop) (Q : Option B → Prop) (N : Nat)
    (h : ∀ (rec : A1 → Option B) (k : Nat) (a1 : A1), k < N → P k a1 → (∃ (b1 : A1), P (k + 1) b1 ∧ F rec a1 = rec b1) ∨ Q (F rec a1)) (hN : ∀ (rec : A1 → Option B) (a1 : A1), P N a1 → Q (F rec a1)) :
    ∀ (n k : Nat) (a1 : A1), k ≤ N → N - k < n → P k a1 → Q (lq1 F n a1) := by
  intro n
  induction n with
  | zero => intro k a1 h1 h2; omega
  | succ n ih =>
    intro k a1 h1 h2 hp
    rw [lq1_1]
    by_cases c : k = N
    · subst c; exact hN _ a1 hp
    · rcases h (lq1 F n) k a1 (by omega) hp with ⟨b1, hb, e⟩ | hq
      · rw [e]; exact ih (k + 1) b1 (by omega) (by omega) hb
      · exact hq
theorem jn2_e {A1 A2 B C : Type} (J : A1 → A2 → Option B) (k : (A1 → A2 → Option B) → C) : jn2 J k = k J := rfl
theorem lq2_inv {A1 A2 B : Type} {F : (A1 → A2 → Option B) → A1 → A2 → Option B} (P : Nat → A1 → A2 → Prop) (Q : Option B → Prop) (N : Nat)
    (h : ∀ (rec : A1 → A2 → Option B) (k : Nat) (a1 : A1) (a2 : A2), k < N → P k a1 a2 → (∃ (b1 : A1) (b2 : A2), P (k + 1) b1 b2 ∧ F rec a1 a2 = rec b1 b2) ∨ Q (F rec a1 a2)) (hN : ∀ (rec : A1 → A2 → Option B) (a1 : A1) (a2 : A2), P N a1 a2 → Q (F rec a1 a2)) :
    ∀ (n k : Nat) (a1 : A1) (a2 : A2), k ≤ N → N - k < n → P k a1 a2 → Q (lq2 F n a1 a2) := by
  intro n
  induction n with
  | zero => intro k a1 a2 h1 h2; omega
  | succ n ih =>
    intro k a1 a2 h1 h2 hp
    rw [lq2_1]
    by_cases c : k = N
    · subst c; exact hN _ a1 a2 hp
    · rcases h (lq2 F n) k a1 a2 (by omega) hp with ⟨b1, b2, hb, e⟩ | hq
      · rw [e]; exact ih (k + 1) b1 b2 (by omega) (by omega) hb
      · exact hq
theorem jn3_e {A1 A2 A3 B C : Type} (J : A1 → A2 → A3 → Option B) (k : (A1 → A2 → A3 → Option B) → C) : jn3 J k = k J := rfl
theorem lq3_inv {A1 A2 A3 B : Type} {F : (A1 → A2 → A3 → Option B) → A1 → A2 → A3 → Option B} (P : Nat → A1 → A2 → A3 → Prop) (Q : Option B → Prop) (N : Nat)
    (h : ∀ (rec : A1 → A2 → A3 → Option B) (k : Nat) (a1 : A1) (a2 : A2) (a3 : A3), k < N → P k a1 a2 a3 → (∃ (b1 : A1) (b2 : A2) (b3 : A3), P (k + 1) b1 b2 b3 ∧ F rec a1 a2 a3 = rec b1 b2 b3) ∨ Q (F rec a1 a2 a3)) (hN : ∀ (rec : A1 → A2 → A3 → Option B) (a1 : A1) (a2 : A2) (a3 : A3), P N a1 a2 a3 → Q (F rec a1 a2 a3)) :
    ∀ (n k : Nat) (a1 : A1) (a2 : A2) (a3 : A3), k ≤ N → N - k < n → P k a1 a2 a3 → Q (lq3 F n a1 a2 a3) := by
  intro n
  induction n with
  | zero => intro k a1 a2 a3 h1 h2; omega
  | succ n ih =>
    intro k a1 a2 a3 h1 h2 hp
    rw [lq3_1]
    by_cases c : k = N
    · subst c; exact hN _ a1 a2 a3 hp
    · rcases h (lq3 F n) k a1 a2 a3 (by omega) hp with ⟨b1, b2, b3, hb, e⟩ | hq
      · rw [e]; exact ih (k + 1) b1 b2 b3 (by omega) (by omega) hb
      · exact hq
theorem jn4_e {A1 A2 A3 A4 B C : Type} (J : A1 → A2 → A3 → A4 → Option B) (k : (A1 → A2 → A3 → A4 → Option B) → C) : jn4 J k = k J := rfl
theorem lq4_inv {A1 A2 A3 A4 B : Type} {F : (A1 → A2 → A3 → A4 → Option B) → A1 → A2 → A3 → A4 → Option B} (P : Nat → A1 → A2 → A3 → A4 → Prop) (Q : Option B → Prop) (N : Nat)
    (h : ∀ (rec : A1 → A2 → A3 → A4 → Option B) (k : Nat) (a1 : A1) (a2 : A2) (a3 : A3) (a4 : A4), k < N → P k a1 a2 a3 a4 → (∃ (b1 : A1) (b2 : A2) (b3 : A3) (b4 : A4), P (k + 1) b1 b2 b3 b4 ∧ F rec a1 a2 a3 a4 = rec b1 b2 b3 b4) ∨ Q (F rec a1 a2 a3 a4)) (hN : ∀ (rec : A1 → A2 → A3 → A4 → Option B) (a1 : A1) (a2 : A2) (a3 : A3) (a4 : A4), P N a1 a2 a3 a4 → Q (F rec a1 a2 a3 a4)) :
    ∀ (n k : Nat) (a1 : A1) (a2 : A2) (a3 : A3) (a4 : A4), k ≤ N → N - k < n → P k a1 a2 a3 a4 → Q (lq4 F n a1 a2 a3 a4) := by
  intro n
  induction n with
  | zero => intro k a1 a2 a3 a4 h1 h2; omega
  | succ n ih =>
    intro k a1 a2 a3 a4 h1 h2 hp
    rw [lq4_1]
    by_cases c : k = N
    · subst c; exact hN _ a1 a2 a3 a4 hp
    · rcases h (lq4 F n) k a1 a2 a3 a4 (by omega) hp with ⟨b1, b2, b3, b4, hb, e⟩ | hq
      · rw [e]; exact ih (k + 1) b1 b2 b3 b4 (by omega) (by omega) hb
      · exact hq
theorem jn5_e {A1 A2 A3 A4 A5 B C : Type} (J : A1 → A2 → A3 → A4 → A5 → Option B) (k : (A1 → A2 → A3 → A4 → A5 → Option B) → C) : jn5 J k = k J := rfl
theorem lq5_inv {A1 A2 A3 A4 A5 B : Type} {F : (A1 → A2 → A3 → A4 → A5 → Option B) → A1 → A2 → A3 → A4 → A5 → Option B} (P : Nat → A1 → A2 → A3 → A4 → A5 → Prop) (Q : Option B → Prop) (N : Nat)
    (h : ∀ (rec : A1 → A2 → A3 → A4 → A5 → Option B) (k : Nat) (a1 : A1) (a2 : A2) (a3 : A3) (a4 : A4) (a5 : A5), k < N → P k a1 a2 a3 a4 a5 → (∃ (b1 : A1) (b2 : A2) (b3 : A3) (b4 : A4) (b5 : A5), P (k + 1) b1 b2 b3 b4 b5 ∧ F rec a1 a2 a3 a4 a5 = rec b1 b2 b3 b4 b5) ∨ Q (F rec a1 a2 a3 a4 a5)) (hN : ∀ (rec : A1 → A2 → A3 → A4 → A5 → Option B) (a1 : A1) (a2 : A2) (a3 : A3) (a4 : A4) (a5 : A5), P N a1 a2 a3 a4 a5 → Q (F rec a1 a2 a3 a4 a5)) :
    ∀ (n k : Nat) (a1 : A1) (a2 : A2) (a3 : A3) (a4 : A4) (a5 : A5), k ≤ N → N - k < n → P k a1 a2 a3 a4 a5 → Q (lq5 F n a1 a2 a3 a4 a5) := by
  intro n
  induction n with
  | zero => intro k a1 a2 a3 a4 a5 h1 h2; omega
  | succ n ih =>
    intro k a1 a2 a3 a4 a5 h1 h2 hp
    rw [lq5_1]
    by_cases c : k = N
    · subst c; exact hN _ a1 a2 a3 a4 a5 hp
    · rcases h (lq5 F n) k a1 a2 a3 a4 a5 (by omega) hp with ⟨b1, b2, b3, b4, b5, hb, e⟩ | hq
      · rw [e]; exact ih (k + 1) b1 b2 b3 b4 b5 (by omega) (by omega) hb
      · exact hq
theorem bn6_some {A1 A2 A3 A4 A5 A6 B : Type} (a1 : A1) (a2 : A2) (a3 : A3) (a4 : A4) (a5 : A5) (a6 : A6) (k : A1 → A2 → A3 → A4 → A5 → A6 → Option B) : bn6 (some (a1, a2, a3, a4, a5, a6)) k = k a1 a2 a3 a4 a5 a6 := rfl
theorem lq6_1 {A1 A2 A3 A4 A5 A6 B : Type} (f : (A1 → A2 → A3 → A4 → A5 → A6 → Option B) → A1 → A2 → A3 → A4 → A5 → A6 → Option B) (n : Nat) (a1 : A1) (a2 : A2) (a3 : A3) (a4 : A4) (a5 : A5) (a6 : A6) : lq6 f (n + 1) a1 a2 a3 a4 a5 a6 = f (lq6 f n) a1 a2 a3 a4 a5 a6 := rfl
theorem jn6_e {A1 A2 A3 A4 A5 A6 B C : Type} (J : A1 → A2 → A3 → A4 → A5 → A6 → Option B) (k : (A1 → A2 → A3 → A4 → A5 → A6 → Option B) → C) : jn6 J k = k J := rfl
theorem lq6_inv {A1 A2 A3 A4 A5 A6 B : Type} {F : (A1 → A2 → A3 → A4 → A5 → A6 → Option B) → A1 → A2 → A3 → A4 → A5 → A6 → Option B} (P : Nat → A1 → A2 → A3 → A4 → A5 → A6 → Prop) (Q : Option B → Prop) (N : Nat)
    (h : ∀ (rec : A1 → A2 → A3 → A4 → A5 → A6 → Option B) (k : Nat) (a1 : A1) (a2 : A2) (a3 : A3) (a4 : A4) (a5 : A5) (a6 : A6), k < N → P k a1 a2 a3 a4 a5 a6 → (∃ (b1 : A1) (b2 : A2) (b3 : A3) (b4 : A4) (b5 : A5) (b6 : A6), P (k + 1) b1 b2 b3 b4 b5 b6 ∧ F rec a1 a2 a3 a4 a5 a6 = rec b1 b2 b3 b4 b5 b6) ∨ Q (F rec a1 a2 a3 a4 a5 a6)) (hN : ∀ (rec : A1 → A2 → A3 → A4 → A5 → A6 → Option B) (a1 : A1) (a2 : A2) (a3 : A3) (a4 : A4) (a5 : A5) (a6 : A6), P N a1 a2 a3 a4 a5 a6 → Q (F rec a1 a2 a3 a4 a5 a6)) :
    ∀ (n k : Nat) (a1 : A1) (a2 : A2) (a3 : A3) (a4 : A4) (a5 : A5) (a6 : A6), k ≤ N → N - k < n → P k a1 a2 a3 a4 a5 a6 → Q (lq6 F n a1 a2 a3 a4 a5 a6) := by
  intro n
  induction n with
  | zero => intro k a1 a2 a3 a4 a5 a6 h1 h2; omega
  | succ n ih =>
    intro k a1 a2 a3 a4 a5 a6 h1 h2 hp
    rw [lq6_1]
    by_cases c : k = N
    · subst c; exact hN _ a1 a2 a3 a4 a5 a6 hp
    · rcases h (lq6 F n) k a1 a2 a3 a4 a5 a6 (by omega) hp with ⟨b1, b2, b3, b4, b5, b6, hb, e⟩ | hq
      · rw [e]; exact ih (k + 1) b1 b2 b3 b4 b5 b6 (by omega) (by omega) hb
      · exact hq
theorem bn7_some {A1 A2 A3 A4 A5 A6 A7 B : Type} (a1 : A1) (a2 : A2) (a3 : A3) (a4 : A4) (a5 : A5) (a6 : A6) (a7 : A7) (k : A1 → A2 → A3 → A4 → A5 → A6 → A7 → Option B) : bn7 (some (a1, a2, a3, a4, a5, a6, a7)) k = k a1 a2 a3 a4 a5 a6 a7 := rfl
theorem lq7_1 {A1 A2 A3 A4 A5 A6 A7 B : Type} (f : (A1 → A2 → A3 → A4 → A5 → A6 → A7 → Option B) → A1 → A2 → A3 → A4 → A5 → A6 → A7 → Option B) (n : Nat) (a1 : A1) (a2 : A2) (a3 : A3) (a4 : A4) (a5 : A5) (a6 : A6) (a7 : A7) : lq7 f (n + 1) a1 a2 a3 a4 a5 a6 a7 = f (lq7 f n) a1 a2 a3 a4 a5 a6 a7 := rfl
theorem jn7_e {A1 A2 A3 A4 A5 A6 A7 B C : Type} (J : A1 → A2 → A3 → A4 → A5 → A6 → A7 → Option B) (k : (A1 → A2 → A3 → A4 → A5 → A6 → A7 → Option B) → C) : jn7 J k = k J := rfl
theorem lq7_inv {A1 A2 A3 A4 A5 A6 A7 B : Type} {F : (A1 → A2 → A3 → A4 → A5 → A6 → A7 → Option B) → A1 → A2 → A3 → A4 → A5 → A6 → A7 → Option B} (P : Nat → A1 → A2 → A3 → A4 → A5 → A6 → A7 → Prop) (Q : Option B → Prop) (N : Nat)
    (h : ∀ (rec : A1 → A2 → A3 → A4 → A5 → A6 → A7 → Option B) (k : Nat) (a1 : A1) (a2 : A2) (a3 : A3) (a4 : A4) (a5 : A5) (a6 : A6) (a7 : A7), k < N → P k a1 a2 a3 a4 a5 a6 a7 → (∃ (b1 : A1) (b2 : A2) (b3 : A3) (b4 : A4) (b5 : A5) (b6 : A6) (b7 : A7), P (k + 1) b1 b2 b3 b4 b5 b6 b7 ∧ F rec a1 a2 a3 a4 a5 a6 a7 = rec b1 b2 b3 b4 b5 b6 b7) ∨ Q (F rec a1 a2 a3 a4 a5 a6 a7)) (hN : ∀ (rec : A1 → A2 → A3 → A4 → A5 → A6 → A7 → Option B) (a1 : A1) (a2 : A2) (a3 : A3) (a4 : A4) (a5 : A5) (a6 : A6) (a7 : A7), P N a1 a2 a3 a4 a5 a6 a7 → Q (F rec a1 a2 a3 a4 a5 a6 a7)) :
    ∀ (n k : Nat) (a1 : A1) (a2 : A2) (a3 : A3) (a4 : A4) (a5 : A5) (a6 : A6) (a7 : A7), k ≤ N → N - k < n → P k a1 a2 a3 a4 a5 a6 a7 → Q (lq7 F n a1 a2 a3 a4 a5 a6 a7) := by
  intro n
  induction n with
  | zero => intro k a1 a2 a3 a4 a5 a6 a7 h1 h2; omega
  | succ n ih =>
    intro k a1 a2 a3 a4 a5 a6 a7 h1 h2 hp
    rw [lq7_1]
    by_cases c : k = N
    · subst c; exact hN _ a1 a2 a3 a4 a5 a6 a7 hp
    · rcases h (lq7 F n) k a1 a2 a3 a4 a5 a6 a7 (by omega) hp with ⟨b1, b2, b3, b4, b5, b6, b7, hb, e⟩ | hq
      · rw [e]; exact ih (k + 1) b1 b2 b3 b4 b5 b6 b7 (by omega) (by omega) hb
      · exact hq
theorem bn8_some {A1 A2 A3 A4 A5 A6 A7 A8 B : Type} (a1 : A1) (a2 : A2) (a3 : A3) (a4 : A4) (a5 : A5) (a6 : A6) (a7 : A7) (a8 : A8) (k : A1 → A2 → A3 → A4 → A5 → A6 → A7 → A8 → Option B) : bn8 (some (a1, a2, a3, a4, a5, a6, a7, a8)) k = k a1 a2 a3 a4 a5 a6 a7 a8 := rfl
theorem lq8_1 {A1 A2 A3 A4 A5 A6 A7 A8 B : Type} (f : (A1 → A2 → A3 → A4 → A5 → A6 → A7 → A8 → Option B) → A1 → A2 → A3 → A4 → A5 → A6 → A7 → A8 → Option B) (n : Nat) (a1 : A1) (a2 : A2) (a3 : A3) (a4 : A4) (a5 : A5) (a6 : A6) (a7 : A7) (a8 : A8) : lq8 f (n + 1) a1 a2 a3 a4 a5 a6 a7 a8 = f (lq8 f n) a1 a2 a3 a4 a5 a6 a7 a8 := rfl
theorem jn8_e {A1 A2 A3 A4 A5 A6 A7 A8 B C : Type} (J : A1 → A2 → A3 → A4 → A5 → A6 → A7 → A8 → Option B) (k : (A1 → A2 → A3 → A4 → A5 → A6 → A7 → A8 → Option B) → C) : jn8 J k = k J := rfl
theorem lq8_inv {A1 A2 A3 A4 A5 A6 A7 A8 B : Type} {F : (A1 → A2 → A3 → A4 → A5 → A6 → A7 → A8 → Option B) → A1 → A2 → A3 → A4 → A5 → A6 → A7 → A8 → Option B} (P : Nat → A1 → A2 → A3 → A4 → A5 → A6 → A7 → A8 → Prop) (Q : Option B → Prop) (N : Nat)
    (h : ∀ (rec : A1 → A2 → A3 → A4 → A5 → A6 → A7 → A8 → Option B) (k : Nat) (a1 : A1) (a2 : A2) (a3 : A3) (a4 : A4) (a5 : A5) (a6 : A6) (a7 : A7) (a8 : A8), k < N → P k a1 a2 a3 a4 a5 a6 a7 a8 → (∃ (b1 : A1) (b2 : A2) (b3 : A3) (b4 : A4) (b5 : A5) (b6 : A6) (b7 : A7) (b8 : A8), P (k + 1) b1 b2 b3 b4 b5 b6 b7 b8 ∧ F rec a1 a2 a3 a4 a5 a6 a7 a8 = rec b1 b2 b3 b4 b5 b6 b7 b8) ∨ Q (F rec a1 a2 a3 a4 a5 a6 a7 a8)) (hN : ∀ (rec : A1 → A2 → A3 → A4 → A5 → A6 → A7 → A8 → Option B) (a1 : A1) (a2 : A2) (a3 : A3) (a4 : A4) (a5 : A5) (a6 : A6) (a7 : A7) (a8 : A8), P N a1 a2 a3 a4 a5 a6 a7 a8 → Q (F rec a1 a2 a3 a4 a5 a6 a7 a8)) :
    ∀ (n k : Nat) (a1 : A1) (a2 : A2) (a3 : A3) (a4 : A4) (a5 : A5) (a6 : A6) (a7 : A7) (a8 : A8), k ≤ N → N - k < n → P k a1 a2 a3 a4 a5 a6 a7 a8 → Q (lq8 F n a1 a2 a3 a4 a5 a6 a7 a8) := by
  intro n
  induction n with
  | zero => intro k a1 a2 a3 a4 a5 a6 a7 a8 h1 h2; omega
  | succ n ih =>
    intro k a1 a2 a3 a4 a5 a6 a7 a8 h1 h2 hp
    rw [lq8_1]
    by_cases c : k = N
    · subst c; exact hN _ a1 a2 a3 a4 a5 a6 a7 a8 hp
    · rcases h (lq8 F n) k a1 a2 a3 a4 a5 a6 a7 a8 (by omega) hp with ⟨b1, b2, b3, b4, b5, b6, b7, b8, hb, e⟩ | hq
      · rw [e]; exact ih (k + 1) b1 b2 b3 b4 b5 b6 b7 b8 (by omega) (by omega) hb
      · exact hq
theorem bn9_some {A1 A2 A3 A4 A5 A6 A7 A8 A9 B : Type} (a1 : A1) (a2 : A2) (a3 : A3) (a4 : A4) (a5 : A5) (a6 : A6) (a7 : A7) (a8 : A8) (a9 : A9) (k : A1 → A2 → A3 → A4 → A5 → A6 → A7 → A8 → A9 → Option B) : bn9 (some (a1, a2, a3, a4, a5, a6, a7, a8, a9)) k = k a1 a2 a3 a4 a5 a6 a7 a8 a9 := rfl
theorem lq9_1 {A1 A2 A3 A4 A5 A6 A7 A8 A9 B : Type} (f : (A1 → A2 → A3 → A4 → A5 → A6 → A7 → A8 → A9 → Option B) → A1 → A2 → A3 → A4 → A5 → A6 → A7 → A8 → A9 → Option B) (n : Nat) (a1 : A1) (a2 : A2) (a3 : A3) (a4 : A4) (a5 : A5) (a6 : A6) (a7 : A7) (a8 : A8) (a9 : A9) : lq9 f (n + 1) a1 a2 a3 a4 a5 a6 a7 a8 a9 = f (lq9 f n) a1 a2 a3 a4 a5 a6 a7 a8 a9 := rfl
theorem jn9_e {A1 A2 A3 A4 A5 A6 A7 A8 A9 B C : Type} (J : A1 → A2 → A3 → A4 → A5 → A6 → A7 → A8 → A9 → Option B) (k : (A1 → A2 → A3 → A4 → A5 → A6 → A7 → A8 → A9 → Option B) → C) : jn9 J k = k J := rfl
theorem lq9_inv {A1 A2 A3 A4 A5 A6 A7 A8 A9 B : Type} {F : (A1 → A2 → A3 → A4 → A5 → A6 → A7 → A8 → A9 → Option B) → A1 → A2 → A3 → A4 → A5 → A6 → A7 → A8 → A9 → Option B} (P : Nat → A1 → A2 → A3 → A4 → A5 → A6 → A7 → A8 → A9 → Prop) (Q : Option B → Prop) (N : Nat)
    (h : ∀ (rec : A1 → A2 → A3 → A4 → A5 → A6 → A7 → A8 → A9 → Option B) (k : Nat) (a1 : A1) (a2 : A2) (a3 : A3) (a4 : A4) (a5 : A5) (a6 : A6) (a7 : A7) (a8 : A8) (a9 : A9), k < N → P k a1 a2 a3 a4 a5 a6 a7 a8 a9 → (∃ (b1 : A1) (b2 : A2) (b3 : A3) (b4 : A4) (b5 : A5) (b6 : A6) (b7 : A7) (b8 : A8) (b9 : A9), P (k + 1) b1 b2 b3 b4 b5 b6 b7 b8 b9 ∧ F rec a1 a2 a3 a4 a5 a6 a7 a8 a9 = rec b1 b2 b3 b4 b5 b6 b7 b8 b9) ∨ Q (F rec a1 a2 a3 a4 a5 a6 a7 a8 a9)) (hN : ∀ (rec : A1 → A2 → A3 → A4 → A5 → A6 → A7 → A8 → A9 → Option B) (a1 : A1) (a2 : A2) (a3 : A3) (a4 : A4) (a5 : A5) (a6 : A6) (a7 : A7) (a8 : A8) (a9 : A9), P N a1 a2 a3 a4 a5 a6 a7 a8 a9 → Q (F rec a1 a2 a3 a4 a5 a6 a7 a8 a9)) :
    ∀ (n k : Nat) (a1 : A1) (a2 : A2) (a3 : A3) (a4 : A4) (a5 : A5) (a6 : A6) (a7 : A7) (a8 : A8) (a9 : A9), k ≤ N → N - k < n → P k a1 a2 a3 a4 a5 a6 a7 a8 a9 → Q (lq9 F n a1 a2 a3 a4 a5 a6 a7 a8 a9) := by
  intro n
  induction n with
  | zero => intro k a1 a2 a3 a4 a5 a6 a7 a8 a9 h1 h2; omega
  | succ n ih =>
    intro k a1 a2 a3 a4 a5 a6 a7 a8 a9 h1 h2 hp
    rw [lq9_1]
    by_cases c : k = N
    · subst c; exact hN _ a1 a2 a3 a4 a5 a6 a7 a8 a9 hp
    · rcases h (lq9 F n) k a1 a2 a3 a4 a5 a6 a7 a8 a9 (by omega) hp with ⟨b1, b2, b3, b4, b5, b6, b7, b8, b9, hb, e⟩ | hq
      · rw [e]; exact ih (k + 1) b1 b2 b3 b4 b5 b6 b7 b8 b9 (by omega) (by omega) hb
      · exact hq
theorem bn10_some {A1 A2 A3 A4 A5 A6 A7 A8 A9 A10 B : Type} (a1 : A1) (a2 : A2) (a3 : A3) (a4 : A4) (a5 : A5) (a6 : A6) (a7 : A7) (a8 : A8) (a9 : A9) (a10 : A10) (k : A1 → A2 → A3 → A4 → A5 → A6 → A7 → A8 → A9 → A10 → Option B) : bn10 (some (a1, a2, a3, a4, a5, a6, a7, a8, a9, a10)) k = k a1 a2 a3 a4 a5 a6 a7 a8 a9 a10 := rfl
theorem lq10_1 {A1 A2 A3 A4 A5 A6 A7 A8 A9 A10 B : Type} (f : (A1 → A2 → A3 → A4 → A5 → A6 → A7 → A8 → A9 → A10 → Option B) → A1 → A2 → A3 → A4 → A5 → A6 → A7 → A8 → A9 → A10 → Option B) (n : Nat) (a1 : A1) (a2 : A2) (a3 : A3) (a4 : A4) (a5 : A5) (a6 : A6) (a7 : A7) (a8 : A8) (a9 : A9) (a10 : A10) : lq10 f (n + 1) a1 a2 a3 a4 a5 a6 a7 a8 a9 a10 = f (lq10 f n) a1 a2 a3 a4 a5 a6 a7 a8 a9 a10 := rfl
theorem jn10_e {A1 A2 A3 A4 A5 A6 A7 A8 A9 A10 B C : Type} (J : A1 → A2 → A3 → A4 → A5 → A6 → A7 → A8 → A9 → A10 → Option B) (k : (A1 → A2 → A3 → A4 → A5 → A6 → A7 → A8 → A9 → A10 → Option B) → C) : jn10 J k = k J := rfl
theorem lq10_inv {A1 A2 A3 A4 A5 A6 A7 A8 A9 A10 B : Type} {F : (A1 → A2 → A3 → A4 → A5 → A6 → A7 → A8 → A9 → A10 → Option B) → A1 → A2 → A3 → A4 → A5 → A6 → A7 → A8 → A9 → A10 → Option B} (P : Nat → A1 → A2 → A3 → A4 → A5 → A6 → A7 → A8 → A9 → A10 → Prop) (Q : Option B → Prop) (N : Nat)
    (h : ∀ (rec : A1 → A2 → A3 → A4 → A5 → A6 → A7 → A8 → A9 → A10 → Option B) (k : Nat) (a1 : A1) (a2 : A2) (a3 : A3) (a4 : A4) (a5 : A5) (a6 : A6) (a7 : A7) (a8 : A8) (a9 : A9) (a10 : A10), k < N → P k a1 a2 a3 a4 a5 a6 a7 a8 a9 a10 → (∃ (b1 : A1) (b2 : A2) (b3 : A3) (b4 : A4) (b5 : A5) (b6 : A6) (b7 : A7) (b8 : A8) (b9 : A9) (b10 : A10), P (k + 1) b1 b2 b3 b4 b5 b6 b7 b8 b9 b10 ∧ F rec a1 a2 a3 a4 a5 a6 a7 a8 a9 a10 = rec b1 b2 b3 b4 b5 b6 b7 b8 b9 b10) ∨ Q (F rec a1 a2 a3 a4 a5 a6 a7 a8 a9 a10)) (hN : ∀ (rec : A1 → A2 → A3 → A4 → A5 → A6 → A7 → A8 → A9 → A10 → Option B) (a1 : A1) (a2 : A2) (a3 : A3) (a4 : A4) (a5 : A5) (a6 : A6) (a7 : A7) (a8 : A8) (a9 : A9) (a10 : A10), P N a1 a2 a3 a4 a5 a6 a7 a8 a9 a10 → Q (F rec a1 a2 a3 a4 a5 a6 a7 a8 a9 a10)) :
    ∀ (n k : Nat) (a1 : A1) (a2 : A2) (a3 : A3) (a4 : A4) (a5 : A5) (a6 : A6) (a7 : A7) (a8 : A8) (a9 : A9) (a10 : A10), k ≤ N → N - k < n → P k a1 a2 a3 a4 a5 a6 a7 a8 a9 a10 → Q (lq10 F n a1 a2 a3 a4 a5 a6 a7 a8 a9 a10) := by
  intro n
  induction n with
  | zero => intro k a1 a2 a3 a4 a5 a6 a7 a8 a9 a10 h1 h2; omega
  | succ n ih =>
    intro k a1 a2 a3 a4 a5 a6 a7 a8 a9 a10 h1 h2 hp
    rw [lq10_1]
    by_cases c : k = N
    · subst c; exact hN _ a1 a2 a3 a4 a5 a6 a7 a8 a9 a10 hp
    · rcases h (lq10 F n) k a1 a2 a3 a4 a5 a6 a7 a8 a9 a10 (by omega) hp with ⟨b1, b2, b3, b4, b5, b6, b7, b8, b9, b10, hb, e⟩ | hq
      · rw [e]; exact ih (k + 1) b1 b2 b3 b4 b5 b6 b7 b8 b9 b10 (by omega) (by omega) hb
      · exact hq
theorem bn11_some {A1 A2 A3 A4 A5 A6 A7 A8 A9 A10 A11 B : Type} (a1 : A1) (a2 : A2) (a3 : A3) (a4 : A4) (a5 : A5) (a6 : A6) (a7 : A7) (a8 : A8) (a9 : A9) (a10 : A10) (a11 : A11) (k : A1 → A2 → A3 → A4 → A5 → A6 → A7 → A8 → A9 → A10 → A11 → Option B) : bn11 (some (a1, a2, a3, a4, a5, a6, a7, a8, a9, a10, a11)) k = k a1 a2 a3 a4 a5 a6 a7 a8 a9 a10 a11 := rfl
theorem lq11_1 {A1 A2 A3 A4 A5 A6 A7 A8 A9 A10 A11 B : Type} (f : (A1 → A2 → A3 → A4 → A5 → A6 → A7 → A8 → A9 → A10 → A11 → Option B) → A1 → A2 → A3 → A4 → A5 → A6 → A7 → A8 → A9 → A10 → A11 → Option B) (n : Nat) (a1 : A1) (a2 : A2) (a3 : A3) (a4 : A4) (a5 : A5) (a6 : A6) (a7 : A7) (a8 : A8) (a9 : A9) (a10 : A10) (a11 : A11) : lq11 f (n + 1) a1 a2 a3 a4 a5 a6 a7 a8 a9 a10 a11 = f (lq11 f n) a1 a2 a3 a4 a5 a6 a7 a8 a9 a10 a11 := rfl
theorem jn11_e {A1 A2 A3 A4 A5 A6 A7 A8 A9 A10 A11 B C : Type} (J : A1 → A2 → A3 → A4 → A5 → A6 → A7 → A8 → A9 → A10 → A11 → Option B) (k : (A1 → A2 → A3 → A4 → A5 → A6 → A7 → A8 → A9 → A10 → A11 → Option B) → C) : jn11 J k = k J := rfl
theorem lq11_inv {A1 A2 A3 A4 A5 A6 A7 A8 A9 A10 A11 B : Type} {F : (A1 → A2 → A3 → A4 → A5 → A6 → A7 → A8 → A9 → A10 → A11 → Option B) → A1 → A2 → A3 → A4 → A5 → A6 → A7 → A8 → A9 → A10 → A11 → Option B} (P : Nat → A1 → A2 → A3 → A4 → A5 → A6 → A7 → A8 → A9 → A10 → A11 → Prop) (Q : Option B → Prop) (N : Nat)
    (h : ∀ (rec : A1 → A2 → A3 → A4 → A5 → A6 → A7 → A8 → A9 → A10 → A11 → Option B) (k : Nat) (a1 : A1) (a2 : A2) (a3 : A3) (a4 : A4) (a5 : A5) (a6 : A6) (a7 : A7) (a8 : A8) (a9 : A9) (a10 : A10) (a11 : A11), k < N → P k a1 a2 a3 a4 a5 a6 a7 a8 a9 a10 a11 → (∃ (b1 : A1) (b2 : A2) (b3 : A3) (b4 : A4) (b5 : A5) (b6 : A6) (b7 : A7) (b8 : A8) (b9 : A9) (b10 : A10) (b11 : A11), P (k + 1) b1 b2 b3 b4 b5 b6 b7 b8 b9 b10 b11 ∧ F rec a1 a2 a3 a4 a5 a6 a7 a8 a9 a10 a11 = rec b1 b2 b3 b4 b5 b6 b7 b8 b9 b10 b11) ∨ Q (F rec a1 a2 a3 a4 a5 a6 a7 a8 a9 a10 a11)) (hN : ∀ (rec : A1 → A2 → A3 → A4 → A5 → A6 → A7 → A8 → A9 → A10 → A11 → Option B) (a1 : A1) (a2 : A2) (a3 : A3) (a4 : A4) (a5 : A5) (a6 : A6) (a7 : A7) (a8 : A8) (a9 : A9) (a10 : A10) (a11 : A11), P N a1 a2 a3 a4 a5 a6 a7 a8 a9 a10 a11 → Q (F rec a1 a2 a3 a4 a5 a6 a7 a8 a9 a10 a11)) :
    ∀ (n k : Nat) (a1 : A1) (a2 : A2) (a3 : A3) (a4 : A4) (a5 : A5) (a6 : A6) (a7 : A7) (a8 : A8) (a9 : A9) (a10 : A10) (a11 : A11), k ≤ N → N - k < n → P k a1 a2 a3 a4 a5 a6 a7 a8 a9 a10 a11 → Q (lq11 F n a1 a2 a3 a4 a5 a6 a7 a8 a9 a10 a11) := by
  intro n
  induction n with
  | zero => intro k a1 a2 a3 a4 a5 a6 a7 a8 a9 a10 a11 h1 h2; omega
  | succ n ih =>
    intro k a1 a2 a3 a4 a5 a6 a7 a8 a9 a10 a11 h1 h2 hp
    rw [lq11_1]
    by_cases c : k = N
    · subst c; exact hN _ a1 a2 a3 a4 a5 a6 a7 a8 a9 a10 a11 hp
    · rcases h (lq11 F n) k a1 a2 a3 a4 a5 a6 a7 a8 a9 a10 a11 (by omega) hp with ⟨b1, b2, b3, b4, b5, b6, b7, b8, b9, b10, b11, hb, e⟩ | hq
      · rw [e]; exact ih (k + 1) b1 b2 b3 b4 b5 b6 b7 b8 b9 b10 b11 (by omega) (by omega) hb
      · exact hq
theorem bn12_some {A1 A2 A3 A4 A5 A6 A7 A8 A9 A10 A11 A12 B : Type} (a1 : A1) (a2 : A2) (a3 : A3) (a4 : A4) (a5 : A5) (a6 : A6) (a7 : A7) (a8 : A8) (a9 : A9) (a10 : A10) (a11 : A11) (a12 : A12) (k : A1 → A2 → A3 → A4 → A5 → A6 → A7 → A8 → A9 → A10 → A11 → A12 → Option B) : bn12 (some (a1, a2, a3, a4, a5, a6, a7, a8, a9, a10, a11, a12)) k = k a1 a2 a3 a4 a5 a6 a7 a8 a9 a10 a11 a12 := rfl
theorem lq12_1 {A1 A2 A3 A4 A5 A6 A7 A8 A9 A10 A11 A12 B : Type} (f : (A1 → A2 → A3 → A4 → A5 → A6 → A7 → A8 → A9 → A10 → A11 → A12 → Option B) → A1 → A2 → A3 → A4 → A5 → A6 → A7 → A8 → A9 → A10 → A11 → A12 → Option B) (n : Nat) (a1 : A1) (a2 : A2) (a3 : A3) (a4 : A4) (a5 : A5) (a6 : A6) (a7 : A7) (a8 : A8) (a9 : A9) (a10 : A10) (a11 : A11) (a12 : A12) : lq12 f (n + 1) a1 a2 a3 a4 a5 a6 a7 a8 a9 a10 a11 a12 = f (lq12 f n) a1 a2 a3 a4 a5 a6 a7 a8 a9 a10 a11 a12 := rfl
theorem jn12_e {A1 A2 A3 A4 A5 A6 A7 A8 A9 A10 A11 A12 B C : Type} (J : A1 → A2 → A3 → A4 → A5 → A6 → A7 → A8 → A9 → A10 → A11 → A12 → Option B) (k : (A1 → A2 → A3 → A4 → A5 → A6 → A7 → A8 → A9 → A10 → A11 → A12 → Option B) → C) : jn12 J k = k J := rfl
theorem lq12_inv {A1 A2 A3 A4 A5 A6 A7 A8 A9 A10 A11 A12 B : Type} {F : (A1 → A2 → A3 → A4 → A5 → A6 → A7 → A8 → A9 → A10 → A11 → A12 → Option B) → A1 → A2 → A3 → A4 → A5 → A6 → A7 → A8 → A9 → A10 → A11 → A12 → Option B} (P : Nat → A1 → A2 → A3 → A4 → A5 → A6 → A7 → A8 → A9 → A10 → A11 → A12 → Prop) (Q : Option B → Prop) (N : Nat)
    (h : ∀ (rec : A1 → A2 → A3 → A4 → A5 → A6 → A7 → A8 → A9 → A10 → A11 → A12 → Option B) (k : Nat) (a1 : A1) (a2 : A2) (a3 : A3) (a4 : A4) (a5 : A5) (a6 : A6) (a7 : A7) (a8 : A8) (a9 : A9) (a10 : A10) (a11 : A11) (a12 : A12), k < N → P k a1 a2 a3 a4 a5 a6 a7 a8 a9 a10 a11 a12 → (∃ (b1 : A1) (b2 : A2) (b3 : A3) (b4 : A4) (b5 : A5) (b6 : A6) (b7 : A7) (b8 : A8) (b9 : A9) (b10 : A10) (b11 : A11) (b12 : A12), P (k + 1) b1 b2 b3 b4 b5 b6 b7 b8 b9 b10 b11 b12 ∧ F rec a1 a2 a3 a4 a5 a6 a7 a8 a9 a10 a11 a12 = rec b1 b2 b3 b4 b5 b6 b7 b8 b9 b10 b11 b12) ∨ Q (F rec a1 a2 a3 a4 a5 a6 a7 a8 a9 a10 a11 a12)) (hN : ∀ (rec : A1 → A2 → A3 → A4 → A5 → A6 → A7 → A8 → A9 → A10 → A11 → A12 → Option B) (a1 : A1) (a2 : A2) (a3 : A3) (a4 : A4) (a5 : A5) (a6 : A6) (a7 : A7) (a8 : A8) (a9 : A9) (a10 : A10) (a11 : A11) (a12 : A12), P N a1 a2 a3 a4 a5 a6 a7 a8 a9 a10 a11 a12 → Q (F rec a1 a2 a3 a4 a5 a6 a7 a8 a9 a10 a11 a12)) :
    ∀ (n k : Nat) (a1 : A1) (a2 : A2) (a3 : A3) (a4 : A4) (a5 : A5) (a6 : A6) (a7 : A7) (a8 : A8) (a9 : A9) (a10 : A10) (a11 : A11) (a12 : A12), k ≤ N → N - k < n → P k a1 a2 a3 a4 a5 a6 a7 a8 a9 a10 a11 a12 → Q (lq12 F n a1 a2 a3 a4 a5 a6 a7 a8 a9 a10 a11 a12) := by
  intro n
  induction n with
  | zero => intro k a1 a2 a3 a4 a5 a6 a7 a8 a9 a10 a11 a12 h1 h2; omega
  | succ n ih =>
    intro k a1 a2 a3 a4 a5 a6 a7 a8 a9 a10 a11 a12 h1 h2 hp
    rw [lq12_1]
    by_cases c : k = N
    · subst c; exact hN _ a1 a2 a3 a4 a5 a6 a7 a8 a9 a10 a11 a12 hp
    · rcases h (lq12 F n) k a1 a2 a3 a4 a5 a6 a7 a8 a9 a10 a11 a12 (by omega) hp with ⟨b1, b2, b3, b4, b5, b6, b7, b8, b9, b10, b11, b12, hb, e⟩ | hq
      · rw [e]; exact ih (k + 1) b1 b2 b3 b4 b5 b6 b7 b8 b9 b10 b11 b12 (by omega) (by omega) hb
      · exact hq
theorem bn13_some {A1 A2 A3 A4 A5 A6 A7 A8 A9 A10 A11 A12 A13 B : Type} (a1 : A1) (a2 : A2) (a3 : A3) (a4 : A4) (a5 : A5) (a6 : A6) (a7 : A7) (a8 : A8) (a9 : A9) (a10 : A10) (a11 : A11) (a12 : A12) (a13 : A13) (k : A1 → A2 → A3 → A4 → A5 → A6 → A7 → A8 → A9 → A10 → A11 → A12 → A13 → Option B) : bn13 (some (a1, a2, a3, a4, a5, a6, a7, a8, a9, a10, a11, a12, a13)) k = k a1 a2 a3 a4 a5 a6 a7 a8 a9 a10 a11 a12 a13 := rfl
theorem lq13_1 {A1 A2 A3 A4 A5 A6 A7 A8 A9 A10 A11 A12 A13 B : Type} (f : (A1 → A2 → A3 → A4 → A5 → A6 → A7 → A8 → A9 → A10 → A11 → A12 → A13 → Option B) → A1 → A2 → A3 → A4 → A5 → A6 → A7 → A8 → A9 → A10 → A11 → A12 → A13 → Option B) (n : Nat) (a1 : A1) (a2 : A2) (a3 : A3) (a4 : A4) (a5 : A5) (a6 : A6) (a7 : A7) (a8 : A8) (a9 : A9) (a10 : A10) (a11 : A11) (a12 : A12) (a13 : A13) : lq13 f (n + 1) a1 a2 a3 a4 a5 a6 a7 a8 a9 a10 a11 a12 a13 = f (lq13 f n) a1 a2 a3 a4 a5 a6 a7 a8 a9 a10 a11 a12 a13 := rfl
theorem jn13_e {A1 A2 A3 A4 A5 A6 A7 A8 A9 A10 A11 A12 A13 B C : Type} (J : A1 → A2 → A3 → A4 → A5 → A6 → A7 → A8 → A9 → A10 → A11 → A12 → A13 → Option B) (k : (A1 → A2 → A3 → A4 → A5 → A6 → A7 → A8 → A9 → A10 → A11 → A12 → A13 → Option B) → C) : jn13 J k = k J := rfl
theorem lq13_inv {A1 A2 A3 A4 A5 A6 A7 A8 A9 A10 A11 A12 A13 B : Type} {F : (A1 → A2 → A3 → A4 → A5 → A6 → A7 → A8 → A9 → A10 → A11 → A12 → A13 → Option B) → A1 → A2 → A3 → A4 → A5 → A6 → A7 → A8 → A9 → A10 → A11 → A12 → A13 → Option B} (P : Nat → A1 → A2 → A3 → A4 → A5 → A6 → A7 → A8 → A9 → A10 → A11 → A12 → A13 → Prop) (Q : Option B → Prop) (N : Nat)
    (h : ∀ (rec : A1 → A2 → A3 → A4 → A5 → A6 → A7 → A8 → A9 → A10 → A11 → A12 → A13 → Option B) (k : Nat) (a1 : A1) (a2 : A2) (a3 : A3) (a4 : A4) (a5 : A5) (a6 : A6) (a7 : A7) (a8 : A8) (a9 : A9) (a10 : A10) (a11 : A11) (a12 : A12) (a13 : A13), k < N → P k a1 a2 a3 a4 a5 a6 a7 a8 a9 a10 a11 a12 a13 → (∃ (b1 : A1) (b2 : A2) (b3 : A3) (b4 : A4) (b5 : A5) (b6 : A6) (b7 : A7) (b8 : A8) (b9 : A9) (b10 : A10) (b11 : A11) (b12 : A12) (b13 : A13), P (k + 1) b1 b2 b3 b4 b5 b6 b7 b8 b9 b10 b11 b12 b13 ∧ F rec a1 a2 a3 a4 a5 a6 a7 a8 a9 a10 a11 a12 a13 = rec b1 b2 b3 b4 b5 b6 b7 b8 b9 b10 b11 b12 b13) ∨ Q (F rec a1 a2 a3 a4 a5 a6 a7 a8 a9 a10 a11 a12 a13)) (hN : ∀ (rec : A1 → A2 → A3 → A4 → A5 → A6 → A7 → A8 → A9 → A10 → A11 → A12 → A13 → Option B) (a1 : A1) (a2 : A2) (a3 : A3) (a4 : A4) (a5 : A5) (a6 : A6) (a7 : A7) (a8 : A8) (a9 : A9) (a10 : A10) (a11 : A11) (a12 : A12) (a13 : A13), P N a1 a2 a3 a4 a5 a6 a7 a8 a9 a10 a11 a12 a13 → Q (F rec a1 a2 a3 a4 a5 a6 a7 a8 a9 a10 a11 a12 a13)) :
    ∀ (n k : Nat) (a1 : A1) (a2 : A2) (a3 : A3) (a4 : A4) (a5 : A5) (a6 : A6) (a7 : A7) (a8 : A8) (a9 : A9) (a10 : A10) (a11 : A11) (a12 : A12) (a13 : A13), k ≤ N → N - k < n → P k a1 a2 a3 a4 a5 a6 a7 a8 a9 a10 a11 a12 a13 → Q (lq13 F n a1 a2 a3 a4 a5 a6 a7 a8 a9 a10 a11 a12 a13) := by
  intro n
  induction n with
  | zero => intro k a1 a2 a3 a4 a5 a6 a7 a8 a9 a10 a11 a12 a13 h1 h2; omega
  | succ n ih =>
    intro k a1 a2 a3 a4 a5 a6 a7 a8 a9 a10 a11 a12 a13 h1 h2 hp
    rw [lq13_1]
    by_cases c : k = N
    · subst c; exact hN _ a1 a2 a3 a4 a5 a6 a7 a8 a9 a10 a11 a12 a13 hp
    · rcases h (lq13 F n) k a1 a2 a3 a4 a5 a6 a7 a8 a9 a10 a11 a12 a13 (by omega) hp with ⟨b1, b2, b3, b4, b5, b6, b7, b8, b9, b10, b11, b12, b13, hb, e⟩ | hq
      · rw [e]; exact ih (k + 1) b1 b2 b3 b4 b5 b6 b7 b8 b9 b10 b11 b12 b13 (by omega) (by omega) hb
      · exact hq
theorem bn14_some {A1 A2 A3 A4 A5 A6 A7 A8 A9 A10 A11 A12 A13 A14 B : Type} (a1 : A1) (a2 : A2) (a3 : A3) (a4 : A4) (a5 : A5) (a6 : A6) (a7 : A7) (a8 : A8) (a9 : A9) (a10 : A10) (a11 : A11) (a12 : A12) (a13 : A13) (a14 : A14) (k : A1 → A2 → A3 → A4 → A5 → A6 → A7 → A8 → A9 → A10 → A11 → A12 → A13 → A14 → Option B) : bn14 (some (a1, a2, a3, a4, a5, a6, a7, a8, a9, a10, a11, a12, a13, a14)) k = k a1 a2 a3 a4 a5 a6 a7 a8 a9 a10 a11 a12 a13 a14 := rfl
theorem lq14_1 {A1 A2 A3 A4 A5 A6 A7 A8 A9 A10 A11 A12 A13 A14 B : Type} (f : (A1 → A2 → A3 → A4 → A5 → A6 → A7 → A8 → A9 → A10 → A11 → A12 → A13 → A14 → Option B) → A1 → A2 → A3 → A4 → A5 → A6 → A7 → A8 → A9 → A10 → A11 → A12 → A13 → A14 → Option B) (n : Nat) (a1 : A1) (a2 : A2) (a3 : A3) (a4 : A4) (a5 : A5) (a6 : A6) (a7 : A7) (a8 : A8) (a9 : A9) (a10 : A10) (a11 : A11) (a12 : A12) (a13 : A13) (a14 : A14) : lq14 f (n + 1) a1 a2 a3 a4 a5 a6 a7 a8 a9 a10 a11 a12 a13 a14 = f (lq14 f n) a1 a2 a3 a4 a5 a6 a7 a8 a9 a10 a11 a12 a13 a14 := rfl
theorem jn14_e {A1 A2 A3 A4 A5 A6 A7 A8 A9 A10 A11 A12 A13 A14 B C : Type} (J : A1 → A2 → A3 → A4 → A5 → A6 → A7 → A8 → A9 → A10 → A11 → A12 → A13 → A14 → Option B) (k : (A1 → A2 → A3 → A4 → A5 → A6 → A7 → A8 → A9 → A10 → A11 → A12 → A13 → A14 → Option B) → C) : jn14 J k = k J := rfl
theorem lq14_inv {A1 A2 A3 A4 A5 A6 A7 A8 A9 A10 A11 A12 A13 A14 B : Type} {F : (A1 → A2 → A3 → A4 → A5 → A6 → A7 → A8 → A9 → A10 → A11 → A12 → A13 → A14 → Option B) → A1 → A2 → A3 → A4 → A5 → A6 → A7 → A8 → A9 → A10 → A11 → A12 → A13 → A14 → Option B} (P : Nat → A1 → A2 → A3 → A4 → A5 → A6 → A7 → A8 → A9 → A10 → A11 → A12 → A13 → A14 → Prop) (Q : Option B → Prop) (N : Nat)
    (h : ∀ (rec : A1 → A2 → A3 → A4 → A5 → A6 → A7 → A8 → A9 → A10 → A11 → A12 → A13 → A14 → Option B) (k : Nat) (a1 : A1) (a2 : A2) (a3 : A3) (a4 : A4) (a5 : A5) (a6 : A6) (a7 : A7) (a8 : A8) (a9 : A9) (a10 : A10) (a11 : A11) (a12 : A12) (a13 : A13) (a14 : A14), k < N → P k a1 a2 a3 a4 a5 a6 a7 a8 a9 a10 a11 a12 a13 a14 → (∃ (b1 : A1) (b2 : A2) (b3 : A3) (b4 : A4) (b5 : A5) (b6 : A6) (b7 : A7) (b8 : A8) (b9 : A9) (b10 : A10) (b11 : A11) (b12 : A12) (b13 : A13) (b14 : A14), P (k + 1) b1 b2 b3 b4 b5 b6 b7 b8 b9 b10 b11 b12 b13 b14 ∧ F rec a1 a2 a3 a4 a5 a6 a7 a8 a9 a10 a11 a12 a13 a14 = rec b1 b2 b3 b4 b5 b6 b7 b8 b9 b10 b11 b12 b13 b14) ∨ Q (F rec a1 a2 a3 a4 a5 a6 a7 a8 a9 a10 a11 a12 a13 a14)) (hN : ∀ (rec : A1 → A2 → A3 → A4 → A5 → A6 → A7 → A8 → A9 → A10 → A11 → A12 → A13 → A14 → Option B) (a1 : A1) (a2 : A2) (a3 : A3) (a4 : A4) (a5 : A5) (a6 : A6) (a7 : A7) (a8 : A8) (a9 : A9) (a10 : A10) (a11 : A11) (a12 : A12) (a13 : A13) (a14 : A14), P N a1 a2 a3 a4 a5 a6 a7 a8 a9 a10 a11 a12 a13 a14 → Q (F rec a1 a2 a3 a4 a5 a6 a7 a8 a9 a10 a11 a12 a13 a14)) :
    ∀ (n k : Nat) (a1 : A1) (a2 : A2) (a3 : A3) (a4 : A4) (a5 : A5) (a6 : A6) (a7 : A7) (a8 : A8) (a9 : A9) (a10 : A10) (a11 : A11) (a12 : A12) (a13 : A13) (a14 : A14), k ≤ N → N - k < n → P k a1 a2 a3 a4 a5 a6 a7 a8 a9 a10 a11 a12 a13 a14 → Q (lq14 F n a1 a2 a3 a4 a5 a6 a7 a8 a9 a10 a11 a12 a13 a14) := by
  intro n
  induction n with
  | zero => intro k a1 a2 a3 a4 a5 a6 a7 a8 a9 a10 a11 a12 a13 a14 h1 h2; omega
  | succ n ih =>
    intro k a1 a2 a3 a4 a5 a6 a7 a8 a9 a10 a11 a12 a13 a14 h1 h2 hp
    rw [lq14_1]
    by_cases c : k = N
    · subst c; exact hN _ a1 a2 a3 a4 a5 a6 a7 a8 a9 a10 a11 a12 a13 a14 hp
    · rcases h (lq14 F n) k a1 a2 a3 a4 a5 a6 a7 a8 a9 a10 a11 a12 a13 a14 (by omega) hp with ⟨b1, b2, b3, b4, b5, b6, b7, b8, b9, b10, b11, b12, b13, b14, hb, e⟩ | hq
      · rw [e]; exact ih (k + 1) b1 b2 b3 b4 b5 b6 b7 b8 b9 b10 b11 b12 b13 b14 (by omega) (by omega) hb
      · exact hq
theorem bn15_some {A1 A2 A3 A4 A5 A6 A7 A8 A9 A10 A11 A12 A13 A14 A15 B : Type} (a1 : A1) (a2 : A2) (a3 : A3) (a4 : A4) (a5 : A5) (a6 : A6) (a7 : A7) (a8 : A8) (a9 : A9) (a10 : A10) (a11 : A11) (a12 : A12) (a13 : A13) (a14 : A14) (a15 : A15) (k : A1 → A2 → A3 → A4 → A5 → A6 → A7 → A8 → A9 → A10 → A11 → A12 → A13 → A14 → A15 → Option B) : bn15 (some (a1, a2, a3, a4, a5, a6, a7, a8, a9, a10, a11, a12, a13, a14, a15)) k = k a1 a2 a3 a4 a5 a6 a7 a8 a9 a10 a11 a12 a13 a14 a15 := rfl
theorem lq15_1 {A1 A2 A3 A4 A5 A6 A7 A8 A9 A10 A11 A12 A13 A14 A15 B : Type} (f : (A1 → A2 → A3 → A4 → A5 → A6 → A7 → A8 → A9 → A10 → A11 → A12 → A13 → A14 → A15 → Option B) → A1 → A2 → A3 → A4 → A5 → A6 → A7 → A8 → A9 → A10 → A11 → A12 → A13 → A14 → A15 → Option B) (n : Nat) (a1 : A1) (a2 : A2) (a3 : A3) (a4 : A4) (a5 : A5) (a6 : A6) (a7 : A7) (a8 : A8) (a9 : A9) (a10 : A10) (a11 : A11) (a12 : A12) (a13 : A13) (a14 : A14) (a15 : A15) : lq15 f (n + 1) a1 a2 a3 a4 a5 a6 a7 a8 a9 a10 a11 a12 a13 a14 a15 = f (lq15 f n) a1 a2 a3 a4 a5 a6 a7 a8 a9 a10 a11 a12 a13 a14 a15 := rfl
theorem jn15_e {A1 A2 A3 A4 A5 A6 A7 A8 A9 A10 A11 A12 A13 A14 A15 B C : Type} (J : A1 → A2 → A3 → A4 → A5 → A6 → A7 → A8 → A9 → A10 → A11 → A12 → A13 → A14 → A15 → Option B) (k : (A1 → A2 → A3 → A4 → A5 → A6 → A7 → A8 → A9 → A10 → A11 → A12 → A13 → A14 → A15 → Option B) → C) : jn15 J k = k J := rfl
theorem lq15_inv {A1 A2 A3 A4 A5 A6 A7 A8 A9 A10 A11 A12 A13 A14 A15 B : Type} {F : (A1 → A2 → A3 → A4 → A5 → A6 → A7 → A8 → A9 → A10 → A11 → A12 → A13 → A14 → A15 → Option B) → A1 → A2 → A3 → A4 → A5 → A6 → A7 → A8 → A9 → A10 → A11 → A12 → A13 → A14 → A15 → Option B} (P : Nat → A1 → A2 → A3 → A4 → A5 → A6 → A7 → A8 → A9 → A10 → A11 → A12 → A13 → A14 → A15 → Prop) (Q : Option B → Prop) (N : Nat)
    (h : ∀ (rec : A1 → A2 → A3 → A4 → A5 → A6 → A7 → A8 → A9 → A10 → A11 → A12 → A13 → A14 → A15 → Option B) (k : Nat) (a1 : A1) (a2 : A2) (a3 : A3) (a4 : A4) (a5 : A5) (a6 : A6) (a7 : A7) (a8 : A8) (a9 : A9) (a10 : A10) (a11 : A11) (a12 : A12) (a13 : A13) (a14 : A14) (a15 : A15), k < N → P k a1 a2 a3 a4 a5 a6 a7 a8 a9 a10 a11 a12 a13 a14 a15 → (∃ (b1 : A1) (b2 : A2) (b3 : A3) (b4 : A4) (b5 : A5) (b6 : A6) (b7 : A7) (b8 : A8) (b9 : A9) (b10 : A10) (b11 : A11) (b12 : A12) (b13 : A13) (b14 : A14) (b15 : A15), P (k + 1) b1 b2 b3 b4 b5 b6 b7 b8 b9 b10 b11 b12 b13 b14 b15 ∧ F rec a1 a2 a3 a4 a5 a6 a7 a8 a9 a10 a11 a12 a13 a14 a15 = rec b1 b2 b3 b4 b5 b6 b7 b8 b9 b10 b11 b12 b13 b14 b15) ∨ Q (F rec a1 a2 a3 a4 a5 a6 a7 a8 a9 a10 a11 a12 a13 a14 a15)) (hN : ∀ (rec : A1 → A2 → A3 → A4 → A5 → A6 → A7 → A8 → A9 → A10 → A11 → A12 → A13 → A14 → A15 → Option B) (a1 : A1) (a2 : A2) (a3 : A3) (a4 : A4) (a5 : A5) (a6 : A6) (a7 : A7) (a8 : A8) (a9 : A9) (a10 : A10) (a11 : A11) (a12 : A12) (a13 : A13) (a14 : A14) (a15 : A15), P N a1 a2 a3 a4 a5 a6 a7 a8 a9 a10 a11 a12 a13 a14 a15 → Q (F rec a1 a2 a3 a4 a5 a6 a7 a8 a9 a10 a11 a12 a13 a14 a15)) :
    ∀ (n k : Nat) (a1 : A1) (a2 : A2) (a3 : A3) (a4 : A4) (a5 : A5) (a6 : A6) (a7 : A7) (a8 : A8) (a9 : A9) (a10 : A10) (a11 : A11) (a12 : A12) (a13 : A13) (a14 : A14) (a15 : A15), k ≤ N → N - k < n → P k a1 a2 a3 a4 a5 a6 a7 a8 a9 a10 a11 a12 a13 a14 a15 → Q (lq15 F n a1 a2 a3 a4 a5 a6 a7 a8 a9 a10 a11 a12 a13 a14 a15) := by
  intro n
  induction n with
  | zero => intro k a1 a2 a3 a4 a5 a6 a7 a8 a9 a10 a11 a12 a13 a14 a15 h1 h2; omega
  | succ n ih =>
    intro k a1 a2 a3 a4 a5 a6 a7 a8 a9 a10 a11 a12 a13 a14 a15 h1 h2 hp
    rw [lq15_1]
    by_cases c : k = N
    · subst c; exact hN _ a1 a2 a3 a4 a5 a6 a7 a8 a9 a10 a11 a12 a13 a14 a15 hp
    · rcases h (lq15 F n) k a1 a2 a3 a4 a5 a6 a7 a8 a9 a10 a11 a12 a13 a14 a15 (by omega) hp with ⟨b1, b2, b3, b4, b5, b6, b7, b8, b9, b10, b11, b12, b13, b14, b15, hb, e⟩ | hq
      · rw [e]; exact ih (k + 1) b1 b2 b3 b4 b5 b6 b7 b8 b9 b10 b11 b12 b13 b14 b15 (by omega) (by omega) hb
      · exact hq
theorem bn16_some {A1 A2 A3 A4 A5 A6 A7 A8 A9 A10 A11 A12 A13 A14 A15 A16 B : Type} (a1 : A1) (a2 : A2) (a3 : A3) (a4 : A4) (a5 : A5) (a6 : A6) (a7 : A7) (a8 : A8) (a9 : A9) (a10 : A10) (a11 : A11) (a12 : A12) (a13 : A13) (a14 : A14) (a15 : A15) (a16 : A16) (k : A1 → A2 → A3 → A4 → A5 → A6 → A7 → A8 → A9 → A10 → A11 → A12 → A13 → A14 → A15 → A16 → Option B) : bn16 (some (a1, a2, a3, a4, a5, a6, a7, a8, a9, a10, a11, a12, a13, a14, a15, a16)) k = k a1 a2 a3 a4 a5 a6 a7 a8 a9 a10 a11 a12 a13 a14 a15 a16 := rfl
theorem lq16_1 {A1 A2 A3 A4 A5 A6 A7 A8 A9 A10 A11 A12 A13 A14 A15 A16 B : Type} (f : (A1 → A2 → A3 → A4 → A5 → A6 → A7 → A8 → A9 → A10 → A11 → A12 → A13 → A14 → A15 → A16 → Option B) → A1 → A2 → A3 → A4 → A5 → A6 → A7 → A8 → A9 → A10 → A11 → A12 → A13 → A14 → A15 → A16 → Option B) (n : Nat) (a1 : A1) (a2 : A2) (a3 : A3) (a4 : A4) (a5 : A5) (a6 : A6) (a7 : A7) (a8 : A8) (a9 : A9) (a10 : A10) (a11 : A11) (a12 : A12) (a13 : A13) (a14 : A14) (a15 : A15) (a16 : A16) : lq16 f (n + 1) a1 a2 a3 a4 a5 a6 a7 a8 a9 a10 a11 a12 a13 a14 a15 a16 = f (lq16 f n) a1 a2 a3 a4 a5 a6 a7 a8 a9 a10 a11 a12 a13 a14 a15 a16 := rfl
theorem jn16_e {A1 A2 A3 A4 A5 A6 A7 A8 A9 A10 A11 A12 A13 A14 A15 A16 B C : Type} (J : A1 → A2 → A3 → A4 → A5 → A6 → A7 → A8 → A9 → A10 → A11 → A12 → A13 → A14 → A15 → A16 → Option B) (k : (A1 → A2 → A3 → A4 → A5 → A6 → A7 → A8 → A9 → A10 → A11 → A12 → A13 → A14 → A15 → A16 → Option B) → C) : jn16 J k = k J := rfl
theorem lq16_inv {A1 A2 A3 A4 A5 A6 A7 A8 A9 A10 A11 A12 A13 A14 A15 A16 B : Type} {F : (A1 → A2 → A3 → A4 → A5 → A6 → A7 → A8 → A9 → A10 → A11 → A12 → A13 → A14 → A15 → A16 → Option B) → A1 → A2 → A3 → A4 → A5 → A6 → A7 → A8 → A9 → A10 → A11 → A12 → A13 → A14 → A15 → A16 → Option B} (P : Nat → A1 → A2 → A3 → A4 → A5 → A6 → A7 → A8 → A9 → A10 → A11 → A12 → A13 → A14 → A15 → A16 → Prop) (Q : Option B → Prop) (N : Nat)
    (h : ∀ (rec : A1 → A2 → A3 → A4 → A5 → A6 → A7 → A8 → A9 → A10 → A11 → A12 → A13 → A14 → A15 → A16 → Option B) (k : Nat) (a1 : A1) (a2 : A2) (a3 : A3) (a4 : A4) (a5 : A5) (a6 : A6) (a7 : A7) (a8 : A8) (a9 : A9) (a10 : A10) (a11 : A11) (a12 : A12) (a13 : A13) (a14 : A14) (a15 : A15) (a16 : A16), k < N → P k a1 a2 a3 a4 a5 a6 a7 a8 a9 a10 a11 a12 a13 a14 a15 a16 → (∃ (b1 : A1) (b2 : A2) (b3 : A3) (b4 : A4) (b5 : A5) (b6 : A6) (b7 : A7) (b8 : A8) (b9 : A9) (b10 : A10) (b11 : A11) (b12 : A12) (b13 : A13) (b14 : A14) (b15 : A15) (b16 : A16), P (k + 1) b1 b2 b3 b4 b5 b6 b7 b8 b9 b10 b11 b12 b13 b14 b15 b16 ∧ F rec a1 a2 a3 a4 a5 a6 a7 a8 a9 a10 a11 a12 a13 a14 a15 a16 = rec b1 b2 b3 b4 b5 b6 b7 b8 b9 b10 b11 b12 b13 b14 b15 b16) ∨ Q (F rec a1 a2 a3 a4 a5 a6 a7 a8 a9 a10 a11 a12 a13 a14 a15 a16)) (hN : ∀ (rec : A1 → A2 → A3 → A4 → A5 → A6 → A7 → A8 → A9 → A10 → A11 → A12 → A13 → A14 → A15 → A16 → Option B) (a1 : A1) (a2 : A2) (a3 : A3) (a4 : A4) (a5 : A5) (a6 : A6) (a7 : A7) (a8 : A8) (a9 : A9) (a10 : A10) (a11 : A11) (a12 : A12) (a13 : A13) (a14 : A14) (a15 : A15) (a16 : A16), P N a1 a2 a3 a4 a5 a6 a7 a8 a9 a10 a11 a12 a13 a14 a15 a16 → Q (F rec a1 a2 a3 a4 a5 a6 a7 a8 a9 a10 a11 a12 a13 a14 a15 a16)) :
    ∀ (n k : Nat) (a1 : A1) (a2 : A2) (a3 : A3) (a4 : A4) (a5 : A5) (a6 : A6) (a7 : A7) (a8 : A8) (a9 : A9) (a10 : A10) (a11 : A11) (a12 : A12) (a13 : A13) (a14 : A14) (a15 : A15) (a16 : A16), k ≤ N → N - k < n → P k a1 a2 a3 a4 a5 a6 a7 a8 a9 a10 a11 a12 a13 a14 a15 a16 → Q (lq16 F n a1 a2 a3 a4 a5 a6 a7 a8 a9 a10 a11 a12 a13 a14 a15 a16) := by
  intro n
  induction n with
  | zero => intro k a1 a2 a3 a4 a5 a6 a7 a8 a9 a10 a11 a12 a13 a14 a15 a16 h1 h2; omega
  | succ n ih =>
    intro k a1 a2 a3 a4 a5 a6 a7 a8 a9 a10 a11 a12 a13 a14 a15 a16 h1 h2 hp
    rw [lq16_1]
    by_cases c : k = N
    · subst c; exact hN _ a1 a2 a3 a4 a5 a6 a7 a8 a9 a10 a11 a12 a13 a14 a15 a16 hp
    · rcases h (lq16 F n) k a1 a2 a3 a4 a5 a6 a7 a8 a9 a10 a11 a12 a13 a14 a15 a16 (by omega) hp with ⟨b1, b2, b3, b4, b5, b6, b7, b8, b9, b10, b11, b12, b13, b14, b15, b16, hb, e⟩ | hq
      · rw [e]; exact ih (k + 1) b1 b2 b3 b4 b5 b6 b7 b8 b9 b10 b11 b12 b13 b14 b15 b16 (by omega) (by omega) hb
      · exact hq
theorem bn17_some {A1 A2 A3 A4 A5 A6 A7 A8 A9 A10 A11 A12 A13 A14 A15 A16 A17 B : Type} (a1 : A1) (a2 : A2) (a3 : A3) (a4 : A4) (a5 : A5) (a6 : A6) (a7 : A7) (a8 : A8) (a9 : A9) (a10 : A10) (a11 : A11) (a12 : A12) (a13 : A13) (a14 : A14) (a15 : A15) (a16 : A16) (a17 : A17) (k : A1 → A2 → A3 → A4 → A5 → A6 → A7 → A8 → A9 → A10 → A11 → A12 → A13 → A14 → A15 → A16 → A17 → Option B) : bn17 (some (a1, a2, a3, a4, a5, a6, a7, a8, a9, a10, a11, a12, a13, a14, a15, a16, a17)) k = k a1 a2 a3 a4 a5 a6 a7 a8 a9 a10 a11 a12 a13 a14 a15 a16 a17 := rfl
theorem lq17_1 {A1 A2 A3 A4 A5 A6 A7 A8 A9 A10 A11 A12 A13 A14 A15 A16 A17 B : Type} (f : (A1 → A2 → A3 → A4 → A5 → A6 → A7 → A8 → A9 → A10 → A11 → A12 → A13 → A14 → A15 → A16 → A17 → Option B) → A1 → A2 → A3 → A4 → A5 → A6 → A7 → A8 → A9 → A10 → A11 → A12 → A13 → A14 → A15 → A16 → A17 → Option B) (n : Nat) (a1 : A1) (a2 : A2) (a3 : A3) (a4 : A4) (a5 : A5) (a6 : A6) (a7 : A7) (a8 : A8) (a9 : A9) (a10 : A10) (a11 : A11) (a12 : A12) (a13 : A13) (a14 : A14) (a15 : A15) (a16 : A16) (a17 : A17) : lq17 f (n + 1) a1 a2 a3 a4 a5 a6 a7 a8 a9 a10 a11 a12 a13 a14 a15 a16 a17 = f (lq17 f n) a1 a2 a3 a4 a5 a6 a7 a8 a9 a10 a11 a12 a13 a14 a15 a16 a17 := rfl
theorem jn17_e {A1 A2 A3 A4 A5 A6 A7 A8 A9 A10 A11 A12 A13 A14 A15 A16 A17 B C : Type} (J : A1 → A2 → A3 → A4 → A5 → A6 → A7 → A8 → A9 → A10 → A11 → A12 → A13 → A14 → A15 → A16 → A17 → Option B) (k : (A1 → A2 → A3 → A4 → A5 → A6 → A7 → A8 → A9 → A10 → A11 → A12 → A13 → A14 → A15 → A16 → A17 → Option B) → C) : jn17 J k = k J := rfl
theorem lq17_inv {A1 A2 A3 A4 A5 A6 A7 A8 A9 A10 A11 A12 A13 A14 A15 A16 A17 B : Type} {F : (A1 → A2 → A3 → A4 → A5 → A6 → A7 → A8 → A9 → A10 → A11 → A12 → A13 → A14 → A15 → A16 → A17 → Option B) → A1 → A2 → A3 → A4 → A5 → A6 → A7 → A8 → A9 → A10 → A11 → A12 → A13 → A14 → A15 → A16 → A17 → Option B} (P : Nat → A1 → A2 → A3 → A4 → A5 → A6 → A7 → A8 → A9 → A10 → A11 → A12 → A13 → A14 → A15 → A16 → A17 → Prop) (Q : Option B → Prop) (N : Nat)
    (h : ∀ (rec : A1 → A2 → A3 → A4 → A5 → A6 → A7 → A8 → A9 → A10 → A11 → A12 → A13 → A14 → A15 → A16 → A17 → Option B) (k : Nat) (a1 : A1) (a2 : A2) (a3 : A3) (a4 : A4) (a5 : A5) (a6 : A6) (a7 : A7) (a8 : A8) (a9 : A9) (a10 : A10) (a11 : A11) (a12 : A12) (a13 : A13) (a14 : A14) (a15 : A15) (a16 : A16) (a17 : A17), k < N → P k a1 a2 a3 a4 a5 a6 a7 a8 a9 a10 a11 a12 a13 a14 a15 a16 a17 → (∃ (b1 : A1) (b2 : A2) (b3 : A3) (b4 : A4) (b5 : A5) (b6 : A6) (b7 : A7) (b8 : A8) (b9 : A9) (b10 : A10) (b11 : A11) (b12 : A12) (b13 : A13) (b14 : A14) (b15 : A15) (b16 : A16) (b17 : A17), P (k + 1) b1 b2 b3 b4 b5 b6 b7 b8 b9 b10 b11 b12 b13 b14 b15 b16 b17 ∧ F rec a1 a2 a3 a4 a5 a6 a7 a8 a9 a10 a11 a12 a13 a14 a15 a16 a17 = rec b1 b2 b3 b4 b5 b6 b7 b8 b9 b10 b11 b12 b13 b14 b15 b16 b17) ∨ Q (F rec a1 a2 a3 a4 a5 a6 a7 a8 a9 a10 a11 a12 a13 a14 a15 a16 a17)) (hN : ∀ (rec : A1 → A2 → A3 → A4 → A5 → A6 → A7 → A8 → A9 → A10 → A11 → A12 → A13 → A14 → A15 → A16 → A17 → Option B) (a1 : A1) (a2 : A2) (a3 : A3) (a4 : A4) (a5 : A5) (a6 : A6) (a7 : A7) (a8 : A8) (a9 : A9) (a10 : A10) (a11 : A11) (a12 : A12) (a13 : A13) (a14 : A14) (a15 : A15) (a16 : A16) (a17 : A17), P N a1 a2 a3 a4 a5 a6 a7 a8 a9 a10 a11 a12 a13 a14 a15 a16 a17 → Q (F rec a1 a2 a3 a4 a5 a6 a7 a8 a9 a10 a11 a12 a13 a14 a15 a16 a17)) :
    ∀ (n k : Nat) (a1 : A1) (a2 : A2) (a3 : A3) (a4 : A4) (a5 : A5) (a6 : A6) (a7 : A7) (a8 : A8) (a9 : A9) (a10 : A10) (a11 : A11) (a12 : A12) (a13 : A13) (a14 : A14) (a15 : A15) (a16 : A16) (a17 : A17), k ≤ N → N - k < n → P k a1 a2 a3 a4 a5 a6 a7 a8 a9 a10 a11 a12 a13 a14 a15 a16 a17 → Q (lq17 F n a1 a2 a3 a4 a5 a6 a7 a8 a9 a10 a11 a12 a13 a14 a15 a16 a17) := by
  intro n
  induction n with
  | zero => intro k a1 a2 a3 a4 a5 a6 a7 a8 a9 a10 a11 a12 a13 a14 a15 a16 a17 h1 h2; omega
  | succ n ih =>
    intro k a1 a2 a3 a4 a5 a6 a7 a8 a9 a10 a11 a12 a13 a14 a15 a16 a17 h1 h2 hp
    rw [lq17_1]
    by_cases c : k = N
    · subst c; exact hN _ a1 a2 a3 a4 a5 a6 a7 a8 a9 a10 a11 a12 a13 a14 a15 a16 a17 hp
    · rcases h (lq17 F n) k a1 a2 a3 a4 a5 a6 a7 a8 a9 a10 a11 a12 a13 a14 a15 a16 a17 (by omega) hp with ⟨b1, b2, b3, b4, b5, b6, b7, b8, b9, b10, b11, b12, b13, b14, b15, b16, b17, hb, e⟩ | hq
      · rw [e]; exact ih (k + 1) b1 b2 b3 b4 b5 b6 b7 b8 b9 b10 b11 b12 b13 b14 b15 b16 b17 (by omega) (by omega) hb
      · exact hq
theorem bn18_some {A1 A2 A3 A4 A5 A6 A7 A8 A9 A10 A11 A12 A13 A14 A15 A16 A17 A18 B : Type} (a1 : A1) (a2 : A2) (a3 : A3) (a4 : A4) (a5 : A5) (a6 : A6) (a7 : A7) (a8 : A8) (a9 : A9) (a10 : A10) (a11 : A11) (a12 : A12) (a13 : A13) (a14 : A14) (a15 : A15) (a16 : A16) (a17 : A17) (a18 : A18) (k : A1 → A2 → A3 → A4 → A5 → A6 → A7 → A8 → A9 → A10 → A11 → A12 → A13 → A14 → A15 → A16 → A17 → A18 → Option B) : bn18 (some (a1, a2, a3, a4, a5, a6, a7, a8, a9, a10, a11, a12, a13, a14, a15, a16, a17, a18)) k = k a1 a2 a3 a4 a5 a6 a7 a8 a9 a10 a11 a12 a13 a14 a15 a16 a17 a18 := rfl
theorem lq18_1 {A1 A2 A3 A4 A5 A6 A7 A8 A9 A10 A11 A12 A13 A14 A15 A16 A17 A18 B : Type} (f : (A1 → A2 → A3 → A4 → A5 → A6 → A7 → A8 → A9 → A10 → A11 → A12 → A13 → A14 → A15 → A16 → A17 → A18 → Option B) → A1 → A2 → A3 → A4 → A5 → A6 → A7 → A8 → A9 → A10 → A11 → A12 → A13 → A14 → A15 → A16 → A17 → A18 → Option B) (n : Nat) (a1 : A1) (a2 : A2) (a3 : A3) (a4 : A4) (a5 : A5) (a6 : A6) (a7 : A7) (a8 : A8) (a9 : A9) (a10 : A10) (a11 : A11) (a12 : A12) (a13 : A13) (a14 : A14) (a15 : A15) (a16 : A16) (a17 : A17) (a18 : A18) : lq18 f (n + 1) a1 a2 a3 a4 a5 a6 a7 a8 a9 a10 a11 a12 a13 a14 a15 a16 a17 a18 = f (lq18 f n) a1 a2 a3 a4 a5 a6 a7 a8 a9 a10 a11 a12 a13 a14 a15 a16 a17 a18 := rfl
theorem jn18_e {A1 A2 A3 A4 A5 A6 A7 A8 A9 A10 A11 A12 A13 A14 A15 A16 A17 A18 B C : Type} (J : A1 → A2 → A3 → A4 → A5 → A6 → A7 → A8 → A9 → A10 → A11 → A12 → A13 → A14 → A15 → A16 → A17 → A18 → Option B) (k : (A1 → A2 → A3 → A4 → A5 → A6 → A7 → A8 → A9 → A10 → A11 → A12 → A13 → A14 → A15 → A16 → A17 → A18 → Option B) → C) : jn18 J k = k J := rfl
theorem lq18_inv {A1 A2 A3 A4 A5 A6 A7 A8 A9 A10 A11 A12 A13 A14 A15 A16 A17 A18 B : Type} {F : (A1 → A2 → A3 → A4 → A5 → A6 → A7 → A8 → A9 → A10 → A11 → A12 → A13 → A14 → A15 → A16 → A17 → A18 → Option B) → A1 → A2 → A3 → A4 → A5 → A6 → A7 → A8 → A9 → A10 → A11 → A12 → A13 → A14 → A15 → A16 → A17 → A18 → Option B} (P : Nat → A1 → A2 → A3 → A4 → A5 → A6 → A7 → A8 → A9 → A10 → A11 → A12 → A13 → A14 → A15 → A16 → A17 → A18 → Prop) (Q : Option B → Prop) (N : Nat)
    (h : ∀ (rec : A1 → A2 → A3 → A4 → A5 → A6 → A7 → A8 → A9 → A10 → A11 → A12 → A13 → A14 → A15 → A16 → A17 → A18 → Option B) (k : Nat) (a1 : A1) (a2 : A2) (a3 : A3) (a4 : A4) (a5 : A5) (a6 : A6) (a7 : A7) (a8 : A8) (a9 : A9) (a10 : A10) (a11 : A11) (a12 : A12) (a13 : A13) (a14 : A14) (a15 : A15) (a16 : A16) (a17 : A17) (a18 : A18), k < N → P k a1 a2 a3 a4 a5 a6 a7 a8 a9 a10 a11 a12 a13 a14 a15 a16 a17 a18 → (∃ (b1 : A1) (b2 : A2) (b3 : A3) (b4 : A4) (b5 : A5) (b6 : A6) (b7 : A7) (b8 : A8) (b9 : A9) (b10 : A10) (b11 : A11) (b12 : A12) (b13 : A13) (b14 : A14) (b15 : A15) (b16 : A16) (b17 : A17) (b18 : A18), P (k + 1) b1 b2 b3 b4 b5 b6 b7 b8 b9 b10 b11 b12 b13 b14 b15 b16 b17 b18 ∧ F rec a1 a2 a3 a4 a5 a6 a7 a8 a9 a10 a11 a12 a13 a14 a15 a16 a17 a18 = rec b1 b2 b3 b4 b5 b6 b7 b8 b9 b10 b11 b12 b13 b14 b15 b16 b17 b18) ∨ Q (F rec a1 a2 a3 a4 a5 a6 a7 a8 a9 a10 a11 a12 a13 a14 a15 a16 a17 a18)) (hN : ∀ (rec : A1 → A2 → A3 → A4 → A5 → A6 → A7 → A8 → A9 → A10 → A11 → A12 → A13 → A14 → A15 → A16 → A17 → A18 → Option B) (a1 : A1) (a2 : A2) (a3 : A3) (a4 : A4) (a5 : A5) (a6 : A6) (a7 : A7) (a8 : A8) (a9 : A9) (a10 : A10) (a11 : A11) (a12 : A12) (a13 : A13) (a14 : A14) (a15 : A15) (a16 : A16) (a17 : A17) (a18 : A18), P N a1 a2 a3 a4 a5 a6 a7 a8 a9 a10 a11 a12 a13 a14 a15 a16 a17 a18 → Q (F rec a1 a2 a3 a4 a5 a6 a7 a8 a9 a10 a11 a12 a13 a14 a15 a16 a17 a18)) :
    ∀ (n k : Nat) (a1 : A1) (a2 : A2) (a3 : A3) (a4 : A4) (a5 : A5) (a6 : A6) (a7 : A7) (a8 : A8) (a9 : A9) (a10 : A10) (a11 : A11) (a12 : A12) (a13 : A13) (a14 : A14) (a15 : A15) (a16 : A16) (a17 : A17) (a18 : A18), k ≤ N → N - k < n → P k a1 a2 a3 a4 a5 a6 a7 a8 a9 a10 a11 a12 a13 a14 a15 a16 a17 a18 → Q (lq18 F n a1 a2 a3 a4 a5 a6 a7 a8 a9 a10 a11 a12 a13 a14 a15 a16 a17 a18) := by
  intro n
  induction n with
  | zero => intro k a1 a2 a3 a4 a5 a6 a7 a8 a9 a10 a11 a12 a13 a14 a15 a16 a17 a18 h1 h2; omega
  | succ n ih =>
    intro k a1 a2 a3 a4 a5 a6 a7 a8 a9 a10 a11 a12 a13 a14 a15 a16 a17 a18 h1 h2 hp
    rw [lq18_1]
    by_cases c : k = N
    · subst c; exact hN _ a1 a2 a3 a4 a5 a6 a7 a8 a9 a10 a11 a12 a13 a14 a15 a16 a17 a18 hp
    · rcases h (lq18 F n) k a1 a2 a3 a4 a5 a6 a7 a8 a9 a10 a11 a12 a13 a14 a15 a16 a17 a18 (by omega) hp with ⟨b1, b2, b3, b4, b5, b6, b7, b8, b9, b10, b11, b12, b13, b14, b15, b16, b17, b18, hb, e⟩ | hq
      · rw [e]; exact ih (k + 1) b1 b2 b3 b4 b5 b6 b7 b8 b9 b10 b11 b12 b13 b14 b15 b16 b17 b18 (by omega) (by omega) hb
      · exact hq
theorem bn19_some {A1 A2 A3 A4 A5 A6 A7 A8 A9 A10 A11 A12 A13 A14 A15 A16 A17 A18 A19 B : Type} (a1 : A1) (a2 : A2) (a3 : A3) (a4 : A4) (a5 : A5) (a6 : A6) (a7 : A7) (a8 : A8) (a9 : A9) (a10 : A10) (a11 : A11) (a12 : A12) (a13 : A13) (a14 : A14) (a15 : A15) (a16 : A16) (a17 : A17) (a18 : A18) (a19 : A19) (k : A1 → A2 → A3 → A4 → A5 → A6 → A7 → A8 → A9 → A10 → A11 → A12 → A13 → A14 → A15 → A16 → A17 → A18 → A19 → Option B) : bn19 (some (a1, a2, a3, a4, a5, a6, a7, a8, a9, a10, a11, a12, a13, a14, a15, a16, a17, a18, a19)) k = k a1 a2 a3 a4 a5 a6 a7 a8 a9 a10 a11 a12 a13 a14 a15 a16 a17 a18 a19 := rfl
theorem lq19_1 {A1 A2 A3 A4 A5 A6 A7 A8 A9 A10 A11 A12 A13 A14 A15 A16 A17 A18 A19 B : Type} (f : (A1 → A2 → A3 → A4 → A5 → A6 → A7 → A8 → A9 → A10 → A11 → A12 → A13 → A14 → A15 → A16 → A17 → A18 → A19 → Option B) → A1 → A2 → A3 → A4 → A5 → A6 → A7 → A8 → A9 → A10 → A11 → A12 → A13 → A14 → A15 → A16 → A17 → A18 → A19 → Option B) (n : Nat) (a1 : A1) (a2 : A2) (a3 : A3) (a4 : A4) (a5 : A5) (a6 : A6) (a7 : A7) (a8 : A8) (a9 : A9) (a10 : A10) (a11 : A11) (a12 : A12) (a13 : A13) (a14 : A14) (a15 : A15) (a16 : A16) (a17 : A17) (a18 : A18) (a19 : A19) : lq19 f (n + 1) a1 a2 a3 a4 a5 a6 a7 a8 a9 a10 a11 a12 a13 a14 a15 a16 a17 a18 a19 = f (lq19 f n) a1 a2 a3 a4 a5 a6 a7 a8 a9 a10 a11 a12 a13 a14 a15 a16 a17 a18 a19 := rfl
theorem jn19_e {A1 A2 A3 A4 A5 A6 A7 A8 A9 A10 A11 A12 A13 A14 A15 A16 A17 A18 A19 B C : Type} (J : A1 → A2 → A3 → A4 → A5 → A6 → A7 → A8 → A9 → A10 → A11 → A12 → A13 → A14 → A15 → A16 → A17 → A18 → A19 → Option B) (k : (A1 → A2 → A3 → A4 → A5 → A6 → A7 → A8 → A9 → A10 → A11 → A12 → A13 → A14 → A15 → A16 → A17 → A18 → A19 → Option B) → C) : jn19 J k = k J := rfl
theorem lq19_inv {A1 A2 A3 A4 A5 A6 A7 A8 A9 A10 A11 A12 A13 A14 A15 A16 A17 A18 A19 B : Type} {F : (A1 → A2 → A3 → A4 → A5 → A6 → A7 → A8 → A9 → A10 → A11 → A12 → A13 → A14 → A15 → A16 → A17 → A18 → A19 → Option B) → A1 → A2 → A3 → A4 → A5 → A6 → A7 → A8 → A9 → A10 → A11 → A12 → A13 → A14 → A15 → A16 → A17 → A18 → A19 → Option B} (P : Nat → A1 → A2 → A3 → A4 → A5 → A6 → A7 → A8 → A9 → A10 → A11 → A12 → A13 → A14 → A15 → A16 → A17 → A18 → A19 → Prop) (Q : Option B → Prop) (N : Nat)
    (h : ∀ (rec : A1 → A2 → A3 → A4 → A5 → A6 → A7 → A8 → A9 → A10 → A11 → A12 → A13 → A14 → A15 → A16 → A17 → A18 → A19 → Option B) (k : Nat) (a1 : A1) (a2 : A2) (a3 : A3) (a4 : A4) (a5 : A5) (a6 : A6) (a7 : A7) (a8 : A8) (a9 : A9) (a10 : A10) (a11 : A11) (a12 : A12) (a13 : A13) (a14 : A14) (a15 : A15) (a16 : A16) (a17 : A17) (a18 : A18) (a19 : A19), k < N → P k a1 a2 a3 a4 a5 a6 a7 a8 a9 a10 a11 a12 a13 a14 a15 a16 a17 a18 a19 → (∃ (b1 : A1) (b2 : A2) (b3 : A3) (b4 : A4) (b5 : A5) (b6 : A6) (b7 : A7) (b8 : A8) (b9 : A9) (b10 : A10) (b11 : A11) (b12 : A12) (b13 : A13) (b14 : A14) (b15 : A15) (b16 : A16) (b17 : A17) (b18 : A18) (b19 : A19), P (k + 1) b1 b2 b3 b4 b5 b6 b7 b8 b9 b10 b11 b12 b13 b14 b15 b16 b17 b18 b19 ∧ F rec a1 a2 a3 a4 a5 a6 a7 a8 a9 a10 a11 a12 a13 a14 a15 a16 a17 a18 a19 = rec b1 b2 b3 b4 b5 b6 b7 b8 b9 b10 b11 b12 b13 b14 b15 b16 b17 b18 b19) ∨ Q (F rec a1 a2 a3 a4 a5 a6 a7 a8 a9 a10 a11 a12 a13 a14 a15 a16 a17 a18 a19)) (hN : ∀ (rec : A1 → A2 → A3 → A4 → A5 → A6 → A7 → A8 → A9 → A10 → A11 → A12 → A13 → A14 → A15 → A16 → A17 → A18 → A19 → Option B) (a1 : A1) (a2 : A2) (a3 : A3) (a4 : A4) (a5 : A5) (a6 : A6) (a7 : A7) (a8 : A8) (a9 : A9) (a10 : A10) (a11 : A11) (a12 : A12) (a13 : A13) (a14 : A14) (a15 : A15) (a16 : A16) (a17 : A17) (a18 : A18) (a19 : A19), P N a1 a2 a3 a4 a5 a6 a7 a8 a9 a10 a11 a12 a13 a14 a15 a16 a17 a18 a19 → Q (F rec a1 a2 a3 a4 a5 a6 a7 a8 a9 a10 a11 a12 a13 a14 a15 a16 a17 a18 a19)) :
    ∀ (n k : Nat) (a1 : A1) (a2 : A2) (a3 : A3) (a4 : A4) (a5 : A5) (a6 : A6) (a7 : A7) (a8 : A8) (a9 : A9) (a10 : A10) (a11 : A11) (a12 : A12) (a13 : A13) (a14 : A14) (a15 : A15) (a16 : A16) (a17 : A17) (a18 : A18) (a19 : A19), k ≤ N → N - k < n → P k a1 a2 a3 a4 a5 a6 a7 a8 a9 a10 a11 a12 a13 a14 a15 a16 a17 a18 a19 → Q (lq19 F n a1 a2 a3 a4 a5 a6 a7 a8 a9 a10 a11 a12 a13 a14 a15 a16 a17 a18 a19) := by
  intro n
  induction n with
  | zero => intro k a1 a2 a3 a4 a5 a6 a7 a8 a9 a10 a11 a12 a13 a14 a15 a16 a17 a18 a19 h1 h2; omega
  | succ n ih =>
    intro k a1 a2 a3 a4 a5 a6 a7 a8 a9 a10 a11 a12 a13 a14 a15 a16 a17 a18 a19 h1 h2 hp
    rw [lq19_1]
    by_cases c : k = N
    · subst c; exact hN _ a1 a2 a3 a4 a5 a6 a7 a8 a9 a10 a11 a12 a13 a14 a15 a16 a17 a18 a19 hp
    · rcases h (lq19 F n) k a1 a2 a3 a4 a5 a6 a7 a8 a9 a10 a11 a12 a13 a14 a15 a16 a17 a18 a19 (by omega) hp with ⟨b1, b2, b3, b4, b5, b6, b7, b8, b9, b10, b11, b12, b13, b14, b15, b16, b17, b18, b19, hb, e⟩ | hq
      · rw [e]; exact ih (k + 1) b1 b2 b3 b4 b5 b6 b7 b8 b9 b10 b11 b12 b13 b14 b15 b16 b17 b18 b19 (by omega) (by omega) hb
      · exact hq
theorem bn20_some {A1 A2 A3 A4 A5 A6 A7 A8 A9 A10 A11 A12 A13 A14 A15 A16 A17 A18 A19 A20 B : Type} (a1 : A1) (a2 : A2) (a3 : A3) (a4 : A4) (a5 : A5) (a6 : A6) (a7 : A7) (a8 : A8) (a9 : A9) (a10 : A10) (a11 : A11) (a12 : A12) (a13 : A13) (a14 : A14) (a15 : A15) (a16 : A16) (a17 : A17) (a18 : A18) (a19 : A19) (a20 : A20) (k : A1 → A2 → A3 → A4 → A5 → A6 → A7 → A8 → A9 → A10 → A11 → A12 → A13 → A14 → A15 → A16 → A17 → A18 → A19 → A20 → Option B) : bn20 (some (a1, a2, a3, a4, a5, a6, a7, a8, a9, a10, a11, a12, a13, a14, a15, a16, a17, a18, a19, a20)) k = k a1 a2 a3 a4 a5 a6 a7 a8 a9 a10 a11 a12 a13 a14 a15 a16 a17 a18 a19 a20 := rfl
theorem lq20_1 {A1 A2 A3 A4 A5 A6 A7 A8 A9 A10 A11 A12 A13 A14 A15 A16 A17 A18 A19 A20 B : Type} (f : (A1 → A2 → A3 → A4 → A5 → A6 → A7 → A8 → A9 → A10 → A11 → A12 → A13 → A14 → A15 → A16 → A17 → A18 → A19 → A20 → Option B) → A1 → A2 → A3 → A4 → A5 → A6 → A7 → A8 → A9 → A10 → A11 → A12 → A13 → A14 → A15 → A16 → A17 → A18 → A19 → A20 → Option B) (n : Nat) (a1 : A1) (a2 : A2) (a3 : A3) (a4 : A4) (a5 : A5) (a6 : A6) (a7 : A7) (a8 : A8) (a9 : A9) (a10 : A10) (a11 : A11) (a12 : A12) (a13 : A13) (a14 : A14) (a15 : A15) (a16 : A16) (a17 : A17) (a18 : A18) (a19 : A19) (a20 : A20) : lq20 f (n + 1) a1 a2 a3 a4 a5 a6 a7 a8 a9 a10 a11 a12 a13 a14 a15 a16 a17 a18 a19 a20 = f (lq20 f n) a1 a2 a3 a4 a5 a6 a7 a8 a9 a10 a11 a12 a13 a14 a15 a16 a17 a18 a19 a20 := rfl
theorem jn20_e {A1 A2 A3 A4 A5 A6 A7 A8 A9 A10 A11 A12 A13 A14 A15 A16 A17 A18 A19 A20 B C : Type} (J : A1 → A2 → A3 → A4 → A5 → A6 → A7 → A8 → A9 → A10 → A11 → A12 → A13 → A14 → A15 → A16 → A17 → A18 → A19 → A20 → Option B) (k : (A1 → A2 → A3 → A4 → A5 → A6 → A7 → A8 → A9 → A10 → A11 → A12 → A13 → A14 → A15 → A16 → A17 → A18 → A19 → A20 → Option B) → C) : jn20 J k = k J := rfl
theorem lq20_inv {A1 A2 A3 A4 A5 A6 A7 A8 A9 A10 A11 A12 A13 A14 A15 A16 A17 A18 A19 A20 B : Type} {F : (A1 → A2 → A3 → A4 → A5 → A6 → A7 → A8 → A9 → A10 → A11 → A12 → A13 → A14 → A15 → A16 → A17 → A18 → A19 → A20 → Option B) → A1 → A2 → A3 → A4 → A5 → A6 → A7 → A8 → A9 → A10 → A11 → A12 → A13 → A14 → A15 → A16 → A17 → A18 → A19 → A20 → Option B} (P : Nat → A1 → A2 → A3 → A4 → A5 → A6 → A7 → A8 → A9 → A10 → A11 → A12 → A13 → A14 → A15 → A16 → A17 → A18 → A19 → A20 → Prop) (Q : Option B → Prop) (N : Nat)
    (h : ∀ (rec : A1 → A2 → A3 → A4 → A5 → A6 → A7 → A8 → A9 → A10 → A11 → A12 → A13 → A14 → A15 → A16 → A17 → A18 → A19 → A20 → Option B) (k : Nat) (a1 : A1) (a2 : A2) (a3 : A3) (a4 : A4) (a5 : A5) (a6 : A6) (a7 : A7) (a8 : A8) (a9 : A9) (a10 : A10) (a11 : A11) (a12 : A12) (a13 : A13) (a14 : A14) (a15 : A15) (a16 : A16) (a17 : A17) (a18 : A18) (a19 : A19) (a20 : A20), k < N → P k a1 a2 a3 a4 a5 a6 a7 a8 a9 a10 a11 a12 a13 a14 a15 a16 a17 a18 a19 a20 → (∃ (b1 : A1) (b2 : A2) (b3 : A3) (b4 : A4) (b5 : A5) (b6 : A6) (b7 : A7) (b8 : A8) (b9 : A9) (b10 : A10) (b11 : A11) (b12 : A12) (b13 : A13) (b14 : A14) (b15 : A15) (b16 : A16) (b17 : A17) (b18 : A18) (b19 : A19) (b20 : A20), P (k + 1) b1 b2 b3 b4 b5 b6 b7 b8 b9 b10 b11 b12 b13 b14 b15 b16 b17 b18 b19 b20 ∧ F rec a1 a2 a3 a4 a5 a6 a7 a8 a9 a10 a11 a12 a13 a14 a15 a16 a17 a18 a19 a20 = rec b1 b2 b3 b4 b5 b6 b7 b8 b9 b10 b11 b12 b13 b14 b15 b16 b17 b18 b19 b20) ∨ Q (F rec a1 a2 a3 a4 a5 a6 a7 a8 a9 a10 a11 a12 a13 a14 a15 a16 a17 a18 a19 a20)) (hN : ∀ (rec : A1 → A2 → A3 → A4 → A5 → A6 → A7 → A8 → A9 → A10 → A11 → A12 → A13 → A14 → A15 → A16 → A17 → A18 → A19 → A20 → Option B) (a1 : A1) (a2 : A2) (a3 : A3) (a4 : A4) (a5 : A5) (a6 : A6) (a7 : A7) (a8 : A8) (a9 : A9) (a10 : A10) (a11 : A11) (a12 : A12) (a13 : A13) (a14 : A14) (a15 : A15) (a16 : A16) (a17 : A17) (a18 : A18) (a19 : A19) (a20 : A20), P N a1 a2 a3 a4 a5 a6 a7 a8 a9 a10 a11 a12 a13 a14 a15 a16 a17 a18 a19 a20 → Q (F rec a1 a2 a3 a4 a5 a6 a7 a8 a9 a10 a11 a12 a13 a14 a15 a16 a17 a18 a19 a20)) :
    ∀ (n k : Nat) (a1 : A1) (a2 : A2) (a3 : A3) (a4 : A4) (a5 : A5) (a6 : A6) (a7 : A7) (a8 : A8) (a9 : A9) (a10 : A10) (a11 : A11) (a12 : A12) (a13 : A13) (a14 : A14) (a15 : A15) (a16 : A16) (a17 : A17) (a18 : A18) (a19 : A19) (a20 : A20), k ≤ N → N - k < n → P k a1 a2 a3 a4 a5 a6 a7 a8 a9 a10 a11 a12 a13 a14 a15 a16 a17 a18 a19 a20 → Q (lq20 F n a1 a2 a3 a4 a5 a6 a7 a8 a9 a10 a11 a12 a13 a14 a15 a16 a17 a18 a19 a20) := by
  intro n
  induction n with
  | zero => intro k a1 a2 a3 a4 a5 a6 a7 a8 a9 a10 a11 a12 a13 a14 a15 a16 a17 a18 a19 a20 h1 h2; omega
  | succ n ih =>
    intro k a1 a2 a3 a4 a5 a6 a7 a8 a9 a10 a11 a12 a13 a14 a15 a16 a17 a18 a19 a20 h1 h2 hp
    rw [lq20_1]
    by_cases c : k = N
    · subst c; exact hN _ a1 a2 a3 a4 a5 a6 a7 a8 a9 a10 a11 a12 a13 a14 a15 a16 a17 a18 a19 a20 hp
    · rcases h (lq20 F n) k a1 a2 a3 a4 a5 a6 a7 a8 a9 a10 a11 a12 a13 a14 a15 a16 a17 a18 a19 a20 (by omega) hp with ⟨b1, b2, b3, b4, b5, b6, b7, b8, b9, b10, b11, b12, b13, b14, b15, b16, b17, b18, b19, b20, hb, e⟩ | hq
      · rw [e]; exact ih (k + 1) b1 b2 b3 b4 b5 b6 b7 b8 b9 b10 b11 b12 b13 b14 b15 b16 b17 b18 b19 b20 (by omega) (by omega) hb
      · exact hq
theorem bn21_some {A1 A2 A3 A4 A5 A6 A7 A8 A9 A10 A11 A12 A13 A14 A15 A16 A17 A18 A19 A20 A21 B : Type} (a1 : A1) (a2 : A2) (a3 : A3) (a4 : A4) (a5 : A5) (a6 : A6) (a7 : A7) (a8 : A8) (a9 : A9) (a10 : A10) (a11 : A11) (a12 : A12) (a13 : A13) (a14 : A14) (a15 : A15) (a16 : A16) (a17 : A17) (a18 : A18) (a19 : A19) (a20 : A20) (a21 : A21) (k : A1 → A2 → A3 → A4 → A5 → A6 → A7 → A8 → A9 → A10 → A11 → A12 → A13 → A14 → A15 → A16 → A17 → A18 → A19 → A20 → A21 → Option B) : bn21 (some (a1, a2, a3, a4, a5, a6, a7, a8, a9, a10, a11, a12, a13, a14, a15, a16, a17, a18, a19, a20, a21)) k = k a1 a2 a3 a4 a5 a6 a7 a8 a9 a10 a11 a12 a13 a14 a15 a16 a17 a18 a19 a20 a21 := rfl
theorem lq21_1 {A1 A2 A3 A4 A5 A6 A7 A8 A9 A10 A11 A12 A13 A14 A15 A16 A17 A18 A19 A20 A21 B : Type} (f : (A1 → A2 → A3 → A4 → A5 → A6 → A7 → A8 → A9 → A10 → A11 → A12 → A13 → A14 → A15 → A16 → A17 → A18 → A19 → A20 → A21 → Option B) → A1 → A2 → A3 → A4 → A5 → A6 → A7 → A8 → A9 → A10 → A11 → A12 → A13 → A14 → A15 → A16 → A17 → A18 → A19 → A20 → A21 → Option B) (n : Nat) (a1 : A1) (a2 : A2) (a3 : A3) (a4 : A4) (a5 : A5) (a6 : A6) (a7 : A7) (a8 : A8) (a9 : A9) (a10 : A10) (a11 : A11) (a12 : A12) (a13 : A13) (a14 : A14) (a15 : A15) (a16 : A16) (a17 : A17) (a18 : A18) (a19 : A19) (a20 : A20) (a21 : A21) : lq21 f (n + 1) a1 a2 a3 a4 a5 a6 a7 a8 a9 a10 a11 a12 a13 a14 a15 a16 a17 a18 a19 a20 a21 = f (lq21 f n) a1 a2 a3 a4 a5 a6 a7 a8 a9 a10 a11 a12 a13 a14 a15 a16 a17 a18 a19 a20 a21 := rfl
theorem jn21_e {A1 A2 A3 A4 A5 A6 A7 A8 A9 A10 A11 A12 A13 A14 A15 A16 A17 A18 A19 A20 A21 B C : Type} (J : A1 → A2 → A3 → A4 → A5 → A6 → A7 → A8 → A9 → A10 → A11 → A12 → A13 → A14 → A15 → A16 → A17 → A18 → A19 → A20 → A21 → Option B) (k : (A1 → A2 → A3 → A4 → A5 → A6 → A7 → A8 → A9 → A10 → A11 → A12 → A13 → A14 → A15 → A16 → A17 → A18 → A19 → A20 → A21 → Option B) → C) : jn21 J k = k J := rfl
theorem lq21_inv {A1 A2 A3 A4 A5 A6 A7 A8 A9 A10 A11 A12 A13 A14 A15 A16 A17 A18 A19 A20 A21 B : Type} {F : (A1 → A2 → A3 → A4 → A5 → A6 → A7 → A8 → A9 → A10 → A11 → A12 → A13 → A14 → A15 → A16 → A17 → A18 → A19 → A20 → A21 → Option B) → A1 → A2 → A3 → A4 → A5 → A6 → A7 → A8 → A9 → A10 → A11 → A12 → A13 → A14 → A15 → A16 → A17 → A18 → A19 → A20 → A21 → Option B} (P : Nat → A1 → A2 → A3 → A4 → A5 → A6 → A7 → A8 → A9 → A10 → A11 → A12 → A13 → A14 → A15 → A16 → A17 → A18 → A19 → A20 → A21 → Prop) (Q : Option B → Prop) (N : Nat)
    (h : ∀ (rec : A1 → A2 → A3 → A4 → A5 → A6 → A7 → A8 → A9 → A10 → A11 → A12 → A13 → A14 → A15 → A16 → A17 → A18 → A19 → A20 → A21 → Option B) (k : Nat) (a1 : A1) (a2 : A2) (a3 : A3) (a4 : A4) (a5 : A5) (a6 : A6) (a7 : A7) (a8 : A8) (a9 : A9) (a10 : A10) (a11 : A11) (a12 : A12) (a13 : A13) (a14 : A14) (a15 : A15) (a16 : A16) (a17 : A17) (a18 : A18) (a19 : A19) (a20 : A20) (a21 : A21), k < N → P k a1 a2 a3 a4 a5 a6 a7 a8 a9 a10 a11 a12 a13 a14 a15 a16 a17 a18 a19 a20 a21 → (∃ (b1 : A1) (b2 : A2) (b3 : A3) (b4 : A4) (b5 : A5) (b6 : A6) (b7 : A7) (b8 : A8) (b9 : A9) (b10 : A10) (b11 : A11) (b12 : A12) (b13 : A13) (b14 : A14) (b15 : A15) (b16 : A16) (b17 : A17) (b18 : A18) (b19 : A19) (b20 : A20) (b21 : A21), P (k + 1) b1 b2 b3 b4 b5 b6 b7 b8 b9 b10 b11 b12 b13 b14 b15 b16 b17 b18 b19 b20 b21 ∧ F rec a1 a2 a3 a4 a5 a6 a7 a8 a9 a10 a11 a12 a13 a14 a15 a16 a17 a18 a19 a20 a21 = rec b1 b2 b3 b4 b5 b6 b7 b8 b9 b10 b11 b12 b13 b14 b15 b16 b17 b18 b19 b20 b21) ∨ Q (F rec a1 a2 a3 a4 a5 a6 a7 a8 a9 a10 a11 a12 a13 a14 a15 a16 a17 a18 a19 a20 a21)) (hN : ∀ (rec : A1 → A2 → A3 → A4 → A5 → A6 → A7 → A8 → A9 → A10 → A11 → A12 → A13 → A14 → A15 → A16 → A17 → A18 → A19 → A20 → A21 → Option B) (a1 : A1) (a2 : A2) (a3 : A3) (a4 : A4) (a5 : A5) (a6 : A6) (a7 : A7) (a8 : A8) (a9 : A9) (a10 : A10) (a11 : A11) (a12 : A12) (a13 : A13) (a14 : A14) (a15 : A15) (a16 : A16) (a17 : A17) (a18 : A18) (a19 : A19) (a20 : A20) (a21 : A21), P N a1 a2 a3 a4 a5 a6 a7 a8 a9 a10 a11 a12 a13 a14 a15 a16 a17 a18 a19 a20 a21 → Q (F rec a1 a2 a3 a4 a5 a6 a7 a8 a9 a10 a11 a12 a13 a14 a15 a16 a17 a18 a19 a20 a21)) :
    ∀ (n k : Nat) (a1 : A1) (a2 : A2) (a3 : A3) (a4 : A4) (a5 : A5) (a6 : A6) (a7 : A7) (a8 : A8) (a9 : A9) (a10 : A10) (a11 : A11) (a12 : A12) (a13 : A13) (a14 : A14) (a15 : A15) (a16 : A16) (a17 : A17) (a18 : A18) (a19 : A19) (a20 : A20) (a21 : A21), k ≤ N → N - k < n → P k a1 a2 a3 a4 a5 a6 a7 a8 a9 a10 a11 a12 a13 a14 a15 a16 a17 a18 a19 a20 a21 → Q (lq21 F n a1 a2 a3 a4 a5 a6 a7 a8 a9 a10 a11 a12 a13 a14 a15 a16 a17 a18 a19 a20 a21) := by
  intro n
  induction n with
  | zero => intro k a1 a2 a3 a4 a5 a6 a7 a8 a9 a10 a11 a12 a13 a14 a15 a16 a17 a18 a19 a20 a21 h1 h2; omega
  | succ n ih =>
    intro k a1 a2 a3 a4 a5 a6 a7 a8 a9 a10 a11 a12 a13 a14 a15 a16 a17 a18 a19 a20 a21 h1 h2 hp
    rw [lq21_1]
    by_cases c : k = N
    · subst c; exact hN _ a1 a2 a3 a4 a5 a6 a7 a8 a9 a10 a11 a12 a13 a14 a15 a16 a17 a18 a19 a20 a21 hp
    · rcases h (lq21 F n) k a1 a2 a3 a4 a5 a6 a7 a8 a9 a10 a11 a12 a13 a14 a15 a16 a17 a18 a19 a20 a21 (by omega) hp with ⟨b1, b2, b3, b4, b5, b6, b7, b8, b9, b10, b11, b12, b13, b14, b15, b16, b17, b18, b19, b20, b21, hb, e⟩ | hq
      · rw [e]; exact ih (k + 1) b1 b2 b3 b4 b5 b6 b7 b8 b9 b10 b11 b12 b13 b14 b15 b16 b17 b18 b19 b20 b21 (by omega) (by omega) hb
      · exact hq
theorem bn22_some {A1 A2 A3 A4 A5 A6 A7 A8 A9 A10 A11 A12 A13 A14 A15 A16 A17 A18 A19 A20 A21 A22 B : Type} (a1 : A1) (a2 : A2) (a3 : A3) (a4 : A4) (a5 : A5) (a6 : A6) (a7 : A7) (a8 : A8) (a9 : A9) (a10 : A10) (a11 : A11) (a12 : A12) (a13 : A13) (a14 : A14) (a15 : A15) (a16 : A16) (a17 : A17) (a18 : A18) (a19 : A19) (a20 : A20) (a21 : A21) (a22 : A22) (k : A1 → A2 → A3 → A4 → A5 → A6 → A7 → A8 → A9 → A10 → A11 → A12 → A13 → A14 → A15 → A16 → A17 → A18 → A19 → A20 → A21 → A22 → Option B) : bn22 (some (a1, a2, a3, a4, a5, a6, a7, a8, a9, a10, a11, a12, a13, a14, a15, a16, a17, a18, a19, a20, a21, a22)) k = k a1 a2 a3 a4 a5 a6 a7 a8 a9 a10 a11 a12 a13 a14 a15 a16 a17 a18 a19 a20 a21 a22 := rfl
theorem lq22_1 {A1 A2 A3 A4 A5 A6 A7 A8 A9 A10 A11 A12 A13 A14 A15 A16 A17 A18 A19 A20 A21 A22 B : Type} (f : (A1 → A2 → A3 → A4 → A5 → A6 → A7 → A8 → A9 → A10 → A11 → A12 → A13 → A14 → A15 → A16 → A17 → A18 → A19 → A20 → A21 → A22 → Option B) → A1 → A2 → A3 → A4 → A5 → A6 → A7 → A8 → A9 → A10 → A11 → A12 → A13 → A14 → A15 → A16 → A17 → A18 → A19 → A20 → A21 → A22 → Option B) (n : Nat) (a1 : A1) (a2 : A2) (a3 : A3) (a4 : A4) (a5 : A5) (a6 : A6) (a7 : A7) (a8 : A8) (a9 : A9) (a10 : A10) (a11 : A11) (a12 : A12) (a13 : A13) (a14 : A14) (a15 : A15) (a16 : A16) (a17 : A17) (a18 : A18) (a19 : A19) (a20 : A20) (a21 : A21) (a22 : A22) : lq22 f (n + 1) a1 a2 a3 a4 a5 a6 a7 a8 a9 a10 a11 a12 a13 a14 a15 a16 a17 a18 a19 a20 a21 a22 = f (lq22 f n) a1 a2 a3 a4 a5 a6 a7 a8 a9 a10 a11 a12 a13 a14 a15 a16 a17 a18 a19 a20 a21 a22 := rfl
theorem jn22_e {A1 A2 A3 A4 A5 A6 A7 A8 A9 A10 A11 A12 A13 A14 A15 A16 A17 A18 A19 A20 A21 A22 B C : Type} (J : A1 → A2 → A3 → A4 → A5 → A6 → A7 → A8 → A9 → A10 → A11 → A12 → A13 → A14 → A15 → A16 → A17 → A18 → A19 → A20 → A21 → A22 → Option B) (k : (A1 → A2 → A3 → A4 → A5 → A6 → A7 → A8 → A9 → A10 → A11 → A12 → A13 → A14 → A15 → A16 → A17 → A18 → A19 → A20 → A21 → A22 → Option B) → C) : jn22 J k = k J := rfl
theorem lq22_inv {A1 A2 A3 A4 A5 A6 A7 A8 A9 A10 A11 A12 A13 A14 A15 A16 A17 A18 A19 A20 A21 A22 B : Type} {F : (A1 → A2 → A3 → A4 → A5 → A6 → A7 → A8 → A9 → A10 → A11 → A12 → A13 → A14 → A15 → A16 → A17 → A18 → A19 → A20 → A21 → A22 → Option B) → A1 → A2 → A3 → A4 → A5 → A6 → A7 → A8 → A9 → A10 → A11 → A12 → A13 → A14 → A15 → A16 → A17 → A18 → A19 → A20 → A21 → A22 → Option B} (P : Nat → A1 → A2 → A3 → A4 → A5 → A6 → A7 → A8 → A9 → A10 → A11 → A12 → A13 → A14 → A15 → A16 → A17 → A18 → A19 → A20 → A21 → A22 → Prop) (Q : Option B → Prop) (N : Nat)
    (h : ∀ (rec : A1 → A2 → A3 → A4 → A5 → A6 → A7 → A8 → A9 → A10 → A11 → A12 → A13 → A14 → A15 → A16 → A17 → A18 → A19 → A20 → A21 → A22 → Option B) (k : Nat) (a1 : A1) (a2 : A2) (a3 : A3) (a4 : A4) (a5 : A5) (a6 : A6) (a7 : A7) (a8 : A8) (a9 : A9) (a10 : A10) (a11 : A11) (a12 : A12) (a13 : A13) (a14 : A14) (a15 : A15) (a16 : A16) (a17 : A17) (a18 : A18) (a19 : A19) (a20 : A20) (a21 : A21) (a22 : A22), k < N → P k a1 a2 a3 a4 a5 a6 a7 a8 a9 a10 a11 a12 a13 a14 a15 a16 a17 a18 a19 a20 a21 a22 → (∃ (b1 : A1) (b2 : A2) (b3 : A3) (b4 : A4) (b5 : A5) (b6 : A6) (b7 : A7) (b8 : A8) (b9 : A9) (b10 : A10) (b11 : A11) (b12 : A12) (b13 : A13) (b14 : A14) (b15 : A15) (b16 : A16) (b17 : A17) (b18 : A18) (b19 : A19) (b20 : A20) (b21 : A21) (b22 : A22), P (k + 1) b1 b2 b3 b4 b5 b6 b7 b8 b9 b10 b11 b12 b13 b14 b15 b16 b17 b18 b19 b20 b21 b22 ∧ F rec a1 a2 a3 a4 a5 a6 a7 a8 a9 a10 a11 a12 a13 a14 a15 a16 a17 a18 a19 a20 a21 a22 = rec b1 b2 b3 b4 b5 b6 b7 b8 b9 b10 b11 b12 b13 b14 b15 b16 b17 b18 b19 b20 b21 b22) ∨ Q (F rec a1 a2 a3 a4 a5 a6 a7 a8 a9 a10 a11 a12 a13 a14 a15 a16 a17 a18 a19 a20 a21 a22)) (hN : ∀ (rec : A1 → A2 → A3 → A4 → A5 → A6 → A7 → A8 → A9 → A10 → A11 → A12 → A13 → A14 → A15 → A16 → A17 → A18 → A19 → A20 → A21 → A22 → Option B) (a1 : A1) (a2 : A2) (a3 : A3) (a4 : A4) (a5 : A5) (a6 : A6) (a7 : A7) (a8 : A8) (a9 : A9) (a10 : A10) (a11 : A11) (a12 : A12) (a13 : A13) (a14 : A14) (a15 : A15) (a16 : A16) (a17 : A17) (a18 : A18) (a19 : A19) (a20 : A20) (a21 : A21) (a22 : A22), P N a1 a2 a3 a4 a5 a6 a7 a8 a9 a10 a11 a12 a13 a14 a15 a16 a17 a18 a19 a20 a21 a22 → Q (F rec a1 a2 a3 a4 a5 a6 a7 a8 a9 a10 a11 a12 a13 a14 a15 a16 a17 a18 a19 a20 a21 a22)) :
    ∀ (n k : Nat) (a1 : A1) (a2 : A2) (a3 : A3) (a4 : A4) (a5 : A5) (a6 : A6) (a7 : A7) (a8 : A8) (a9 : A9) (a10 : A10) (a11 : A11) (a12 : A12) (a13 : A13) (a14 : A14) (a15 : A15) (a16 : A16) (a17 : A17) (a18 : A18) (a19 : A19) (a20 : A20) (a21 : A21) (a22 : A22), k ≤ N → N - k < n → P k a1 a2 a3 a4 a5 a6 a7 a8 a9 a10 a11 a12 a13 a14 a15 a16 a17 a18 a19 a20 a21 a22 → Q (lq22 F n a1 a2 a3 a4 a5 a6 a7 a8 a9 a10 a11 a12 a13 a14 a15 a16 a17 a18 a19 a20 a21 a22) := by
  intro n
  induction n with
  | zero => intro k a1 a2 a3 a4 a5 a6 a7 a8 a9 a10 a11 a12 a13 a14 a15 a16 a17 a18 a19 a20 a21 a22 h1 h2; omega
  | succ n ih =>
    intro k a1 a2 a3 a4 a5 a6 a7 a8 a9 a10 a11 a12 a13 a14 a15 a16 a17 a18 a19 a20 a21 a22 h1 h2 hp
    rw [lq22_1]
    by_cases c : k = N
    · subst c; exact hN _ a1 a2 a3 a4 a5 a6 a7 a8 a9 a10 a11 a12 a13 a14 a15 a16 a17 a18 a19 a20 a21 a22 hp
    · rcases h (lq22 F n) k a1 a2 a3 a4 a5 a6 a7 a8 a9 a10 a11 a12 a13 a14 a15 a16 a17 a18 a19 a20 a21 a22 (by omega) hp with ⟨b1, b2, b3, b4, b5, b6, b7, b8, b9, b10, b11, b12, b13, b14, b15, b16, b17, b18, b19, b20, b21, b22, hb, e⟩ | hq
      · rw [e]; exact ih (k + 1) b1 b2 b3 b4 b5 b6 b7 b8 b9 b10 b11 b12 b13 b14 b15 b16 b17 b18 b19 b20 b21 b22 (by omega) (by omega) hb
      · exact hq
theorem bn23_some {A1 A2 A3 A4 A5 A6 A7 A8 A9 A10 A11 A12 A13 A14 A15 A16 A17 A18 A19 A20 A21 A22 A23 B : Type} (a1 : A1) (a2 : A2) (a3 : A3) (a4 : A4) (a5 : A5) (a6 : A6) (a7 : A7) (a8 : A8) (a9 : A9) (a10 : A10) (a11 : A11) (a12 : A12) (a13 : A13) (a14 : A14) (a15 : A15) (a16 : A16) (a17 : A17) (a18 : A18) (a19 : A19) (a20 : A20) (a21 : A21) (a22 : A22) (a23 : A23) (k : A1 → A2 → A3 → A4 → A5 → A6 → A7 → A8 → A9 → A10 → A11 → A12 → A13 → A14 → A15 → A16 → A17 → A18 → A19 → A20 → A21 → A22 → A23 → Option B) : bn23 (some (a1, a2, a3, a4, a5, a6, a7, a8, a9, a10, a11, a12, a13, a14, a15, a16, a17, a18, a19, a20, a21, a22, a23)) k = k a1 a2 a3 a4 a5 a6 a7 a8 a9 a10 a11 a12 a13 a14 a15 a16 a17 a18 a19 a20 a21 a22 a23 := rfl
theorem lq23_1 {A1 A2 A3 A4 A5 A6 A7 A8 A9 A10 A11 A12 A13 A14 A15 A16 A17 A18 A19 A20 A21 A22 A23 B : Type} (f : (A1 → A2 → A3 → A4 → A5 → A6 → A7 → A8 → A9 → A10 → A11 → A12 → A13 → A14 → A15 → A16 → A17 → A18 → A19 → A20 → A21 → A22 → A23 → Option B) → A1 → A2 → A3 → A4 → A5 → A6 → A7 → A8 → A9 → A10 → A11 → A12 → A13 → A14 → A15 → A16 → A17 → A18 → A19 → A20 → A21 → A22 → A23 → Option B) (n : Nat) (a1 : A1) (a2 : A2) (a3 : A3) (a4 : A4) (a5 : A5) (a6 : A6) (a7 : A7) (a8 : A8) (a9 : A9) (a10 : A10) (a11 : A11) (a12 : A12) (a13 : A13) (a14 : A14) (a15 : A15) (a16 : A16) (a17 : A17) (a18 : A18) (a19 : A19) (a20 : A20) (a21 : A21) (a22 : A22) (a23 : A23) : lq23 f (n + 1) a1 a2 a3 a4 a5 a6 a7 a8 a9 a10 a11 a12 a13 a14 a15 a16 a17 a18 a19 a20 a21 a22 a23 = f (lq23 f n) a1 a2 a3 a4 a5 a6 a7 a8 a9 a10 a11 a12 a13 a14 a15 a16 a17 a18 a19 a20 a21 a22 a23 := rfl
theorem jn23_e {A1 A2 A3 A4 A5 A6 A7 A8 A9 A10 A11 A12 A13 A14 A15 A16 A17 A18 A19 A20 A21 A22 A23 B C : Type} (J : A1 → A2 → A3 → A4 → A5 → A6 → A7 → A8 → A9 → A10 → A11 → A12 → A13 → A14 → A15 → A16 → A17 → A18 → A19 → A20 → A21 → A22 → A23 → Option B) (k : (A1 → A2 → A3 → A4 → A5 → A6 → A7 → A8 → A9 → A10 → A11 → A12 → A13 → A14 → A15 → A16 → A17 → A18 → A19 → A20 → A21 → A22 → A23 → Option B) → C) : jn23 J k = k J := rfl
theorem lq23_inv {A1 A2 A3 A4 A5 A6 A7 A8 A9 A10 A11 A12 A13 A14 A15 A16 A17 A18 A19 A20 A21 A22 A23 B : Type} {F : (A1 → A2 → A3 → A4 → A5 → A6 → A7 → A8 → A9 → A10 → A11 → A12 → A13 → A14 → A15 → A16 → A17 → A18 → A19 → A20 → A21 → A22 → A23 → Option B) → A1 → A2 → A3 → A4 → A5 → A6 → A7 → A8 → A9 → A10 → A11 → A12 → A13 → A14 → A15 → A16 → A17 → A18 → A19 → A20 → A21 → A22 → A23 → Option B} (P : Nat → A1 → A2 → A3 → A4 → A5 → A6 → A7 → A8 → A9 → A10 → A11 → A12 → A13 → A14 → A15 → A16 → A17 → A18 → A19 → A20 → A21 → A22 → A23 → Prop) (Q : Option B → Prop) (N : Nat)
    (h : ∀ (rec : A1 → A2 → A3 → A4 → A5 → A6 → A7 → A8 → A9 → A10 → A11 → A12 → A13 → A14 → A15 → A16 → A17 → A18 → A19 → A20 → A21 → A22 → A23 → Option B) (k : Nat) (a1 : A1) (a2 : A2) (a3 : A3) (a4 : A4) (a5 : A5) (a6 : A6) (a7 : A7) (a8 : A8) (a9 : A9) (a10 : A10) (a11 : A11) (a12 : A12) (a13 : A13) (a14 : A14) (a15 : A15) (a16 : A16) (a17 : A17) (a18 : A18) (a19 : A19) (a20 : A20) (a21 : A21) (a22 : A22) (a23 : A23), k < N → P k a1 a2 a3 a4 a5 a6 a7 a8 a9 a10 a11 a12 a13 a14 a15 a16 a17 a18 a19 a20 a21 a22 a23 → (∃ (b1 : A1) (b2 : A2) (b3 : A3) (b4 : A4) (b5 : A5) (b6 : A6) (b7 : A7) (b8 : A8) (b9 : A9) (b10 : A10) (b11 : A11) (b12 : A12) (b13 : A13) (b14 : A14) (b15 : A15) (b16 : A16) (b17 : A17) (b18 : A18) (b19 : A19) (b20 : A20) (b21 : A21) (b22 : A22) (b23 : A23), P (k + 1) b1 b2 b3 b4 b5 b6 b7 b8 b9 b10 b11 b12 b13 b14 b15 b16 b17 b18 b19 b20 b21 b22 b23 ∧ F rec a1 a2 a3 a4 a5 a6 a7 a8 a9 a10 a11 a12 a13 a14 a15 a16 a17 a18 a19 a20 a21 a22 a23 = rec b1 b2 b3 b4 b5 b6 b7 b8 b9 b10 b11 b12 b13 b14 b15 b16 b17 b18 b19 b20 b21 b22 b23) ∨ Q (F rec a1 a2 a3 a4 a5 a6 a7 a8 a9 a10 a11 a12 a13 a14 a15 a16 a17 a18 a19 a20 a21 a22 a23)) (hN : ∀ (rec : A1 → A2 → A3 → A4 → A5 → A6 → A7 → A8 → A9 → A10 → A11 → A12 → A13 → A14 → A15 → A16 → A17 → A18 → A19 → A20 → A21 → A22 → A23 → Option B) (a1 : A1) (a2 : A2) (a3 : A3) (a4 : A4) (a5 : A5) (a6 : A6) (a7 : A7) (a8 : A8) (a9 : A9) (a10 : A10) (a11 : A11) (a12 : A12) (a13 : A13) (a14 : A14) (a15 : A15) (a16 : A16) (a17 : A17) (a18 : A18) (a19 : A19) (a20 : A20) (a21 : A21) (a22 : A22) (a23 : A23), P N a1 a2 a3 a4 a5 a6 a7 a8 a9 a10 a11 a12 a13 a14 a15 a16 a17 a18 a19 a20 a21 a22 a23 → Q (F rec a1 a2 a3 a4 a5 a6 a7 a8 a9 a10 a11 a12 a13 a14 a15 a16 a17 a18 a19 a20 a21 a22 a23)) :
    ∀ (n k : Nat) (a1 : A1) (a2 : A2) (a3 : A3) (a4 : A4) (a5 : A5) (a6 : A6) (a7 : A7) (a8 : A8) (a9 : A9) (a10 : A10) (a11 : A11) (a12 : A12) (a13 : A13) (a14 : A14) (a15 : A15) (a16 : A16) (a17 : A17) (a18 : A18) (a19 : A19) (a20 : A20) (a21 : A21) (a22 : A22) (a23 : A23), k ≤ N → N - k < n → P k a1 a2 a3 a4 a5 a6 a7 a8 a9 a10 a11 a12 a13 a14 a15 a16 a17 a18 a19 a20 a21 a22 a23 → Q (lq23 F n a1 a2 a3 a4 a5 a6 a7 a8 a9 a10 a11 a12 a13 a14 a15 a16 a17 a18 a19 a20 a21 a22 a23) := by
  intro n
  induction n with
  | zero => intro k a1 a2 a3 a4 a5 a6 a7 a8 a9 a10 a11 a12 a13 a14 a15 a16 a17 a18 a19 a20 a21 a22 a23 h1 h2; omega
  | succ n ih =>
    intro k a1 a2 a3 a4 a5 a6 a7 a8 a9 a10 a11 a12 a13 a14 a15 a16 a17 a18 a19 a20 a21 a22 a23 h1 h2 hp
    rw [lq23_1]
    by_cases c : k = N
    · subst c; exact hN _ a1 a2 a3 a4 a5 a6 a7 a8 a9 a10 a11 a12 a13 a14 a15 a16 a17 a18 a19 a20 a21 a22 a23 hp
    · rcases h (lq23 F n) k a1 a2 a3 a4 a5 a6 a7 a8 a9 a10 a11 a12 a13 a14 a15 a16 a17 a18 a19 a20 a21 a22 a23 (by omega) hp with ⟨b1, b2, b3, b4, b5, b6, b7, b8, b9, b10, b11, b12, b13, b14, b15, b16, b17, b18, b19, b20, b21, b22, b23, hb, e⟩ | hq
      · rw [e]; exact ih (k + 1) b1 b2 b3 b4 b5 b6 b7 b8 b9 b10 b11 b12 b13 b14 b15 b16 b17 b18 b19 b20 b21 b22 b23 (by omega) (by omega) hb
      · exact hq
theorem bn24_some {A1 A2 A3 A4 A5 A6 A7 A8 A9 A10 A11 A12 A13 A14 A15 A16 A17 A18 A19 A20 A21 A22 A23 A24 B : Type} (a1 : A1) (a2 : A2) (a3 : A3) (a4 : A4) (a5 : A5) (a6 : A6) (a7 : A7) (a8 : A8) (a9 : A9) (a10 : A10) (a11 : A11) (a12 : A12) (a13 : A13) (a14 : A14) (a15 : A15) (a16 : A16) (a17 : A17) (a18 : A18) (a19 : A19) (a20 : A20) (a21 : A21) (a22 : A22) (a23 : A23) (a24 : A24) (k : A1 → A2 → A3 → A4 → A5 → A6 → A7 → A8 → A9 → A10 → A11 → A12 → A13 → A14 → A15 → A16 → A17 → A18 → A19 → A20 → A21 → A22 → A23 → A24 → Option B) : bn24 (some (a1, a2, a3, a4, a5, a6, a7, a8, a9, a10, a11, a12, a13, a14, a15, a16, a17, a18, a19, a20, a21, a22, a23, a24)) k = k a1 a2 a3 a4 a5 a6 a7 a8 a9 a10 a11 a12 a13 a14 a15 a16 a17 a18 a19 a20 a21 a22 a23 a24 := rfl
theorem lq24_1 {A1 A2 A3 A4 A5 A6 A7 A8 A9 A10 A11 A12 A13 A14 A15 A16 A17 A18 A19 A20 A21 A22 A23 A24 B : Type} (f : (A1 → A2 → A3 → A4 → A5 → A6 → A7 → A8 → A9 → A10 → A11 → A12 → A13 → A14 → A15 → A16 → A17 → A18 → A19 → A20 → A21 → A22 → A23 → A24 → Option B) → A1 → A2 → A3 → A4 → A5 → A6 → A7 → A8 → A9 → A10 → A11 → A12 → A13 → A14 → A15 → A16 → A17 → A18 → A19 → A20 → A21 → A22 → A23 → A24 → Option B) (n : Nat) (a1 : A1) (a2 : A2) (a3 : A3) (a4 : A4) (a5 : A5) (a6 : A6) (a7 : A7) (a8 : A8) (a9 : A9) (a10 : A10) (a11 : A11) (a12 : A12) (a13 : A13) (a14 : A14) (a15 : A15) (a16 : A16) (a17 : A17) (a18 : A18) (a19 : A19) (a20 : A20) (a21 : A21) (a22 : A22) (a23 : A23) (a24 : A24) : lq24 f (n + 1) a1 a2 a3 a4 a5 a6 a7 a8 a9 a10 a11 a12 a13 a14 a15 a16 a17 a18 a19 a20 a21 a22 a23 a24 = f (lq24 f n) a1 a2 a3 a4 a5 a6 a7 a8 a9 a10 a11 a12 a13 a14 a15 a16 a17 a18 a19 a20 a21 a22 a23 a24 := rfl
theorem jn24_e {A1 A2 A3 A4 A5 A6 A7 A8 A9 A10 A11 A12 A13 A14 A15 A16 A17 A18 A19 A20 A21 A22 A23 A24 B C : Type} (J : A1 → A2 → A3 → A4 → A5 → A6 → A7 → A8 → A9 → A10 → A11 → A12 → A13 → A14 → A15 → A16 → A17 → A18 → A19 → A20 → A21 → A22 → A23 → A24 → Option B) (k : (A1 → A2 → A3 → A4 → A5 → A6 → A7 → A8 → A9 → A10 → A11 → A12 → A13 → A14 → A15 → A16 → A17 → A18 → A19 → A20 → A21 → A22 → A23 → A24 → Option B) → C) : jn24 J k = k J := rfl
theorem lq24_inv {A1 A2 A3 A4 A5 A6 A7 A8 A9 A10 A11 A12 A13 A14 A15 A16 A17 A18 A19 A20 A21 A22 A23 A24 B : Type} {F : (A1 → A2 → A3 → A4 → A5 → A6 → A7 → A8 → A9 → A10 → A11 → A12 → A13 → A14 → A15 → A16 → A17 → A18 → A19 → A20 → A21 → A22 → A23 → A24 → Option B) → A1 → A2 → A3 → A4 → A5 → A6 → A7 → A8 → A9 → A10 → A11 → A12 → A13 → A14 → A15 → A16 → A17 → A18 → A19 → A20 → A21 → A22 → A23 → A24 → Option B} (P : Nat → A1 → A2 → A3 → A4 → A5 → A6 → A7 → A8 → A9 → A10 → A11 → A12 → A13 → A14 → A15 → A16 → A17 → A18 → A19 → A20 → A21 → A22 → A23 → A24 → Prop) (Q : Option B → Prop) (N : Nat)
    (h : ∀ (rec : A1 → A2 → A3 → A4 → A5 → A6 → A7 → A8 → A9 → A10 → A11 → A12 → A13 → A14 → A15 → A16 → A17 → A18 → A19 → A20 → A21 → A22 → A23 → A24 → Option B) (k : Nat) (a1 : A1) (a2 : A2) (a3 : A3) (a4 : A4) (a5 : A5) (a6 : A6) (a7 : A7) (a8 : A8) (a9 : A9) (a10 : A10) (a11 : A11) (a12 : A12) (a13 : A13) (a14 : A14) (a15 : A15) (a16 : A16) (a17 : A17) (a18 : A18) (a19 : A19) (a20 : A20) (a21 : A21) (a22 : A22) (a23 : A23) (a24 : A24), k < N → P k a1 a2 a3 a4 a5 a6 a7 a8 a9 a10 a11 a12 a13 a14 a15 a16 a17 a18 a19 a20 a21 a22 a23 a24 → (∃ (b1 : A1) (b2 : A2) (b3 : A3) (b4 : A4) (b5 : A5) (b6 : A6) (b7 : A7) (b8 : A8) (b9 : A9) (b10 : A10) (b11 : A11) (b12 : A12) (b13 : A13) (b14 : A14) (b15 : A15) (b16 : A16) (b17 : A17) (b18 : A18) (b19 : A19) (b20 : A20) (b21 : A21) (b22 : A22) (b23 : A23) (b24 : A24), P (k + 1) b1 b2 b3 b4 b5 b6 b7 b8 b9 b10 b11 b12 b13 b14 b15 b16 b17 b18 b19 b20 b21 b22 b23 b24 ∧ F rec a1 a2 a3 a4 a5 a6 a7 a8 a9 a10 a11 a12 a13 a14 a15 a16 a17 a18 a19 a20 a21 a22 a23 a24 = rec b1 b2 b3 b4 b5 b6 b7 b8 b9 b10 b11 b12 b13 b14 b15 b16 b17 b18 b19 b20 b21 b22 b23 b24) ∨ Q (F rec a1 a2 a3 a4 a5 a6 a7 a8 a9 a10 a11 a12 a13 a14 a15 a16 a17 a18 a19 a20 a21 a22 a23 a24)) (hN : ∀ (rec : A1 → A2 → A3 → A4 → A5 → A6 → A7 → A8 → A9 → A10 → A11 → A12 → A13 → A14 → A15 → A16 → A17 → A18 → A19 → A20 → A21 → A22 → A23 → A24 → Option B) (a1 : A1) (a2 : A2) (a3 : A3) (a4 : A4) (a5 : A5) (a6 : A6) (a7 : A7) (a8 : A8) (a9 : A9) (a10 : A10) (a11 : A11) (a12 : A12) (a13 : A13) (a14 : A14) (a15 : A15) (a16 : A16) (a17 : A17) (a18 : A18) (a19 : A19) (a20 : A20) (a21 : A21) (a22 : A22) (a23 : A23) (a24 : A24), P N a1 a2 a3 a4 a5 a6 a7 a8 a9 a10 a11 a12 a13 a14 a15 a16 a17 a18 a19 a20 a21 a22 a23 a24 → Q (F rec a1 a2 a3 a4 a5 a6 a7 a8 a9 a10 a11 a12 a13 a14 a15 a16 a17 a18 a19 a20 a21 a22 a23 a24)) :
    ∀ (n k : Nat) (a1 : A1) (a2 : A2) (a3 : A3) (a4 : A4) (a5 : A5) (a6 : A6) (a7 : A7) (a8 : A8) (a9 : A9) (a10 : A10) (a11 : A11) (a12 : A12) (a13 : A13) (a14 : A14) (a15 : A15) (a16 : A16) (a17 : A17) (a18 : A18) (a19 : A19) (a20 : A20) (a21 : A21) (a22 : A22) (a23 : A23) (a24 : A24), k ≤ N → N - k < n → P k a1 a2 a3 a4 a5 a6 a7 a8 a9 a10 a11 a12 a13 a14 a15 a16 a17 a18 a19 a20 a21 a22 a23 a24 → Q (lq24 F n a1 a2 a3 a4 a5 a6 a7 a8 a9 a10 a11 a12 a13 a14 a15 a16 a17 a18 a19 a20 a21 a22 a23 a24) := by
  intro n
  induction n with
  | zero => intro k a1 a2 a3 a4 a5 a6 a7 a8 a9 a10 a11 a12 a13 a14 a15 a16 a17 a18 a19 a20 a21 a22 a23 a24 h1 h2; omega
  | succ n ih =>
    intro k a1 a2 a3 a4 a5 a6 a7 a8 a9 a10 a11 a12 a13 a14 a15 a16 a17 a18 a19 a20 a21 a22 a23 a24 h1 h2 hp
    rw [lq24_1]
    by_cases c : k = N
    · subst c; exact hN _ a1 a2 a3 a4 a5 a6 a7 a8 a9 a10 a11 a12 a13 a14 a15 a16 a17 a18 a19 a20 a21 a22 a23 a24 hp
    · rcases h (lq24 F n) k a1 a2 a3 a4 a5 a6 a7 a8 a9 a10 a11 a12 a13 a14 a15 a16 a17 a18 a19 a20 a21 a22 a23 a24 (by omega) hp with ⟨b1, b2, b3, b4, b5, b6, b7, b8, b9, b10, b11, b12, b13, b14, b15, b16, b17, b18, b19, b20, b21, b22, b23, b24, hb, e⟩ | hq
      · rw [e]; exact ih (k + 1) b1 b2 b3 b4 b5 b6 b7 b8 b9 b10 b11 b12 b13 b14 b15 b16 b17 b18 b19 b20 b21 b22 b23 b24 (by omega) (by omega) hb
      · exact hq
