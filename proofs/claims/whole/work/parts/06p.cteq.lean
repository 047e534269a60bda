/-! PURE SIDE: CARTS: the two ways through the rows find the same one -/
theorem betL_down {n m : Nat} {st : Option (List Nat)} (h : n ≤ m) (hb : betL m st = true) : betL n st = true := by
  cases hq : betL n st with
  | true => rfl
  | false => rw [betL_mono h hq] at hb; exact absurd hb (by decide)
theorem cF_spec {ov : List Nat → Bool} : ∀ (L : List (List Nat)) (st : Option (List Nat)), srt L = true →
    (cF [] ov L st = none ∧ st = none ∧ ∀ l, l ∈ L → ov l = false) ∨ ∃ r, cF [] ov L st = some r ∧ ((st = some r ∧ ∀ l, l ∈ L → ov l = true → r.length ≤ l.length) ∨ (r ∈ L ∧ ov r = true ∧ betL r.length st = true ∧ ∀ l, l ∈ L → ov l = true → r.length < l.length ∨ (r.length = l.length ∧ (l = r ∨ lx r l = true))))
  | [], st, _ => by
    cases st with
    | none => exact Or.inl ⟨rfl, rfl, fun l hl => absurd hl (List.not_mem_nil)⟩
    | some r => exact Or.inr ⟨r, rfl, Or.inl ⟨rfl, fun l hl => absurd hl (List.not_mem_nil)⟩⟩
  | l :: ls, st, hs => by
    have hs' : (ls.all (fun m => decide (l.length ≠ m.length) || lx l m) && srt ls) = true := hs
    rw [Bool.and_eq_true] at hs'
    obtain ⟨hs1, hs2⟩ := hs'
    have hs3 : ∀ m, m ∈ ls → l.length = m.length → lx l m = true := fun m hm he => by
      have := List.all_eq_true.mp hs1 m hm
      rw [Bool.or_eq_true, decide_eq_true_iff] at this
      exact this.resolve_left (fun z => z he)
    have hun : cF [] ov (l :: ls) st = cF [] ov ls (if (ov l && betL l.length st) = true then some l else st) := by
      show cF [] ov ls (if (ov l && betL (([] : List Nat).length + l.length) st) = true then some ([] ++ l) else st) = _
      rw [List.length_nil, Nat.zero_add, List.nil_append]
    rw [hun]
    by_cases c : (ov l && betL l.length st) = true
    · rw [if_pos c]
      rw [Bool.and_eq_true] at c
      rcases cF_spec ls (some l) hs2 with ⟨-, h2, -⟩ | ⟨r, h1, h2 | ⟨g1, g2, g3, g4⟩⟩
      · exact absurd h2 (by simp)
      · obtain ⟨q1, q2⟩ := h2
        have q1 : l = r := Option.some.inj q1
        subst q1
        refine Or.inr ⟨l, h1, Or.inr ⟨List.mem_cons_self .., c.1, c.2, fun m hm ho => ?_⟩⟩
        rcases List.mem_cons.mp hm with z | z
        · subst z; exact Or.inr ⟨rfl, Or.inl rfl⟩
        · have := q2 m z ho
          by_cases e : l.length = m.length
          · exact Or.inr ⟨e, Or.inr (hs3 m z e)⟩
          · exact Or.inl (by omega)
      · have g3' : r.length < l.length := of_decide_eq_true g3
        refine Or.inr ⟨r, h1, Or.inr ⟨List.mem_cons_of_mem _ g1, g2, betL_down (by omega) c.2, fun m hm ho => ?_⟩⟩
        rcases List.mem_cons.mp hm with z | z
        · subst z; exact Or.inl g3'
        · exact g4 m z ho
    · rw [if_neg c]
      have c' : ov l = true → betL l.length st = false := fun ho => by
        cases hb : betL l.length st with
        | false => rfl
        | true => exact absurd (by rw [ho, hb]; rfl) c
      rcases cF_spec ls st hs2 with ⟨h1, h2, h3⟩ | ⟨r, h1, h2 | ⟨g1, g2, g3, g4⟩⟩
      · refine Or.inl ⟨h1, h2, fun m hm => ?_⟩
        rcases List.mem_cons.mp hm with z | z
        · subst z
          cases ho : ov m with
          | false => rfl
          | true =>
            have := c' ho
            rw [h2] at this
            exact absurd (show true = false from this) (by decide)
        · exact h3 m z
      · obtain ⟨q1, q2⟩ := h2
        refine Or.inr ⟨r, h1, Or.inl ⟨q1, fun m hm ho => ?_⟩⟩
        rcases List.mem_cons.mp hm with z | z
        · subst z
          have := c' ho
          rw [q1] at this
          have this : decide (m.length < r.length) = false := this
          rw [decide_eq_false_iff_not] at this
          omega
        · exact q2 m z ho
      · refine Or.inr ⟨r, h1, Or.inr ⟨List.mem_cons_of_mem _ g1, g2, g3, fun m hm ho => ?_⟩⟩
        rcases List.mem_cons.mp hm with z | z
        · subst z
          by_cases e : r.length < m.length
          · exact Or.inl e
          · have := betL_mono (m := r.length) (by omega) (c' ho)
            rw [this] at g3
            exact absurd g3 (by decide)
        · exact g4 m z ho
theorem fM_s (C n : Nat) (ov : List Nat → Bool) (m : Nat) : fM C n ov (m + 1) = if isR C n m && (match fM C n ov m with | none => true | some r => lx (wRow C n m) r) && ov (wRow C n m) then some (wRow C n m) else fM C n ov m := rfl
theorem fM_spec {C n : Nat} {ov : List Nat → Bool} : ∀ m, (fM C n ov m = none ∧ ∀ way, way < m → isR C n way = true → ov (wRow C n way) = false) ∨ ∃ r w0, fM C n ov m = some r ∧ w0 < m ∧ isR C n w0 = true ∧ wRow C n w0 = r ∧ ov r = true ∧ ∀ way, way < m → isR C n way = true → ov (wRow C n way) = true → lx (wRow C n way) r = false
  | 0 => Or.inl ⟨rfl, fun way h => absurd h (by omega)⟩
  | m + 1 => by
    rw [fM_s]
    rcases fM_spec (C := C) (n := n) (ov := ov) m with ⟨h1, h2⟩ | ⟨r, w0, h1, h2, h3, h4, h5, h6⟩
    · rw [h1]
      dsimp only
      by_cases c : (isR C n m && true && ov (wRow C n m)) = true
      · rw [if_pos c]
        rw [Bool.and_true, Bool.and_eq_true] at c
        refine Or.inr ⟨_, m, rfl, by omega, c.1, rfl, c.2, fun way hw hi ho => ?_⟩
        by_cases e : way = m
        · subst e; exact lx_irr _
        · rw [h2 way (by omega) hi] at ho; exact absurd ho (by decide)
      · rw [if_neg c]
        refine Or.inl ⟨rfl, fun way hw hi => ?_⟩
        by_cases e : way = m
        · subst e
          cases ho : ov (wRow C n way) with
          | false => rfl
          | true => exact absurd (by rw [hi, ho]; rfl) c
        · exact h2 way (by omega) hi
    · rw [h1]
      dsimp only
      by_cases c : (isR C n m && lx (wRow C n m) r && ov (wRow C n m)) = true
      · rw [if_pos c]
        rw [Bool.and_eq_true, Bool.and_eq_true] at c
        refine Or.inr ⟨_, m, rfl, by omega, c.1.1, rfl, c.2, fun way hw hi ho => ?_⟩
        by_cases e : way = m
        · subst e; exact lx_irr _
        · have := h6 way (by omega) hi ho
          cases hx : lx (wRow C n way) (wRow C n m) with
          | false => rfl
          | true => rw [lx_trans _ _ _ hx c.1.2] at this; exact absurd this (by decide)
      · rw [if_neg c]
        refine Or.inr ⟨r, w0, rfl, by omega, h3, h4, h5, fun way hw hi ho => ?_⟩
        by_cases e : way = m
        · subst e
          cases hx : lx (wRow C n way) r with
          | false => rfl
          | true => exact absurd (by rw [hi, hx, ho]; rfl) c
        · exact h6 way (by omega) hi ho
theorem le4 {C : Nat} (h : C ≤ 4) : C = 0 ∨ C = 1 ∨ C = 2 ∨ C = 3 ∨ C = 4 := by omega
theorem chk1_a {C n way : Nat} (hC : C ≤ 4) (h1 : 1 ≤ n) (hn : n ≤ C) (hw : way < n ^ C) (hi : isR C n way = true) : wRow C n way ∈ prt 4 (2 ^ C - 1) := by
  have h : chk1 C = true := by
    obtain ⟨a, b, c, d, e⟩ := chk1_ok
    rcases le4 hC with rfl | rfl | rfl | rfl | rfl
    · exact a
    · exact b
    · exact c
    · exact d
    · exact e
  have h2 := List.all_eq_true.mp h (n - 1) (List.mem_range.mpr (by omega))
  rw [show n - 1 + 1 = n by omega] at h2
  have h3 := List.all_eq_true.mp h2 way (List.mem_range.mpr hw)
  rw [hi] at h3
  exact List.contains_iff_mem.mp h3
theorem chk2_a {C : Nat} (hC : C ≤ 4) (h0 : C ≠ 0) {l : List Nat} (hl : l ∈ prt 4 (2 ^ C - 1)) : 0 < l.length ∧ l.length ≤ C ∧ ∃ way, way < l.length ^ C ∧ isR C l.length way = true ∧ wRow C l.length way = l := by
  have h : chk2 C = true := by
    obtain ⟨a, b, c, d, e⟩ := chk2_ok
    rcases le4 hC with rfl | rfl | rfl | rfl | rfl
    · exact a
    · exact b
    · exact c
    · exact d
    · exact e
  have h2 := List.all_eq_true.mp h l hl
  rw [Bool.or_eq_true, decide_eq_true_iff] at h2
  have h3 := h2.resolve_left h0
  rw [Bool.and_eq_true, Bool.and_eq_true, decide_eq_true_iff, decide_eq_true_iff] at h3
  obtain ⟨⟨a, b⟩, c⟩ := h3
  obtain ⟨way, w1, w2⟩ := List.any_eq_true.mp c
  rw [Bool.and_eq_true, decide_eq_true_iff] at w2
  exact ⟨a, b, way, List.mem_range.mp w1, w2.1, w2.2⟩
theorem srt_a {C : Nat} (hC : C ≤ 4) : srt (prt 4 (2 ^ C - 1)) = true := by
  obtain ⟨a, b, c, d, e⟩ := srt_ok
  rcases le4 hC with rfl | rfl | rfl | rfl | rfl
  · exact a
  · exact b
  · exact c
  · exact d
  · exact e
theorem wRow_len (C n way : Nat) : (wRow C n way).length = n := by
  unfold wRow; rw [List.length_map, List.length_range]
/-- the class's row and the reference's -/
theorem ct_eq {C : Nat} (hC : C ≤ 4) (h0 : C ≠ 0) (ov : List Nat → Bool) :
    (cF [] ov (prt 4 (2 ^ C - 1)) none = none ∧ ∀ n, 1 ≤ n → n ≤ C → fM C n ov (n ^ C) = none) ∨ ∃ r, cF [] ov (prt 4 (2 ^ C - 1)) none = some r ∧ 1 ≤ r.length ∧ r.length ≤ C ∧ fM C r.length ov (r.length ^ C) = some r ∧ ∀ n, 1 ≤ n → n < r.length → fM C n ov (n ^ C) = none := by
  rcases cF_spec (ov := ov) (prt 4 (2 ^ C - 1)) none (srt_a hC) with ⟨h1, -, h3⟩ | ⟨r, h1, h2 | ⟨g1, g2, g3, g4⟩⟩
  · refine Or.inl ⟨h1, fun n n1 n2 => ?_⟩
    rcases fM_spec (C := C) (n := n) (ov := ov) (n ^ C) with ⟨q1, -⟩ | ⟨r, w0, q1, q2, q3, q4, q5, -⟩
    · exact q1
    · rw [← q4, h3 _ (chk1_a hC n1 n2 q2 q3)] at q5; exact absurd q5 (by decide)
  · exact absurd h2.1 (by simp)
  · obtain ⟨l1, l2, way, w1, w2, w3⟩ := chk2_a hC h0 g1
    refine Or.inr ⟨r, h1, l1, l2, ?_, fun n n1 n2 => ?_⟩
    · rcases fM_spec (C := C) (n := r.length) (ov := ov) (r.length ^ C) with ⟨q1, q2⟩ | ⟨r2, w0, q1, q2, q3, q4, q5, q6⟩
      · have := q2 way w1 w2
        rw [w3, g2] at this
        exact absurd this (by decide)
      · rw [q1]
        have hm := chk1_a hC l1 l2 q2 q3
        rw [q4] at hm
        have hlen : r2.length = r.length := by rw [← q4, wRow_len]
        rcases g4 r2 hm q5 with z | ⟨-, z | z⟩
        · omega
        · rw [z]
        · have := q6 way w1 w2 (by rw [w3]; exact g2)
          rw [w3, z] at this
          exact absurd this (by decide)
    · rcases fM_spec (C := C) (n := n) (ov := ov) (n ^ C) with ⟨q1, -⟩ | ⟨r2, w0, q1, q2, q3, q4, q5, -⟩
      · exact q1
      · have hm := chk1_a hC n1 (by omega) q2 q3
        rw [q4] at hm
        have hlen : r2.length = n := by rw [← q4, wRow_len]
        rcases g4 r2 hm q5 with z | ⟨z, -⟩
        · omega
        · omega
