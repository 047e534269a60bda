/-! PURE SIDE: CARTS: the reference's side -/
theorem e_loadOf {t : Nat → Int32} {s C : Nat} (hs : s < 16) (hC : C ≤ 4) (e4 : t 4 = nI C) : f_X9_loadOf (nI s) t = some (jI (cwt t s C)) := by
  have hf : f_X9_loadOf (nI s) t = lq2 (B_X9_loadOf_1 t (fun y => some y) (nI s)) fu 0 0 := by
    unfold f_X9_loadOf; rw [jn1_d]; rfl
  have q4 : t (Int32.toNatClampNeg 4) = nI C := e4
  rw [hf]
  refine lq2_inv (fun k y c => c = nI k ∧ y = jI (cwt t s k)) (fun z => z = some (jI (cwt t s C))) C ?_ ?_ fu 0 0 0 (by omega) (by unfold fu; omega) ⟨rfl, rfl⟩
  · rintro rec k y c hk ⟨rfl, rfl⟩
    refine Or.inl ⟨_, _, ⟨rfl, rfl⟩, ?_⟩
    unfold B_X9_loadOf_1
    have e80 : (80 : Int32) + nI k = nI (80 + k) := nI_add 80 k
    rw [q4, if_neg (nI_ge hk (by omega)), jn1_d, bit16 hs (by omega), nI_1, e80, if_neg (idx_ok (k := 80 + k) rfl (show 80 + k < 84 by omega) (by decide)), nI_clamp (by omega)]
    show _ = rec (jI (cwt t s k + if s.testBit k then (t (80 + k)).toInt else 0)) _
    by_cases q : s.testBit k = true
    · rw [if_pos q, if_pos q, if_pos rfl, ← jI_add, jI_self]
    · rw [if_neg q, if_neg q, if_neg (show ¬ (0 : Int32) = 1 by decide), Int.add_zero]
      rw [show (0 : Int32) = jI 0 from rfl]
      dsimp only
      rw [jI_add, Int.add_zero]
  · rintro rec y c ⟨rfl, rfl⟩
    unfold B_X9_loadOf_1
    rw [q4, if_pos (Int32.le_refl _)]
theorem trN_lt {n way : Nat} : ∀ c k, trN n way c k < 2 ^ c
  | 0, _ => by show 0 < 2 ^ 0; decide
  | c + 1, k => by
    have ih := trN_lt (n := n) (way := way) c k
    show trN n way c k + (if (way / n ^ c) % n = k then 2 ^ c else 0) < 2 ^ (c + 1)
    rw [Nat.pow_succ]
    by_cases q : (way / n ^ c) % n = k
    · rw [if_pos q]; omega
    · rw [if_neg q]; omega
theorem pow16 {c : Nat} (h : c ≤ 4) : 2 ^ c ≤ 16 := by
  rcases le4 h with rfl | rfl | rfl | rfl | rfl <;> decide
theorem or16 {x c : Nat} (hc : c < 4) (hx : x < 2 ^ c) : nI x ||| ((1 : Int32) <<< (nI c &&& 31)) = nI (x + 2 ^ c) := by
  have h : ∀ c : Fin 4, ∀ x : Fin 16, x.val < 2 ^ c.val → nI x.val ||| ((1 : Int32) <<< (nI c.val &&& 31)) = nI (x.val + 2 ^ c.val) := by decide +kernel
  have := pow16 (show c ≤ 4 by omega)
  exact h ⟨c, hc⟩ ⟨x, by omega⟩ hx
theorem isR_s (C n way k : Nat) : (List.range (k + 1)).all (fun j => !decide (trN n way C j = 0)) = ((List.range k).all (fun j => !decide (trN n way C j = 0)) && !decide (trN n way C k = 0)) := by
  rw [List.range_succ, List.all_append]
  simp
theorem e_isRow {t tr : Nat → Int32} {C n way : Nat} (hC : C ≤ 4) (e4 : t 4 = nI C) (h1 : 1 ≤ n) (h4 : n ≤ 4) (hw : way < 1000) :
    ∃ tr', f_X9_isRow (nI way) (nI n) t tr = some (if isR C n way = true then 1 else 0, tr') ∧ ∀ k, k < n → tr' k = nI (trN n way C k) := by
  have q4 : t (Int32.toNatClampNeg 4) = nI C := e4
  have hf : f_X9_isRow (nI way) (nI n) t tr = lq2 (B_X9_isRow_3 (nI n) (fun tr1 => jn1 (fun tr2 => jn1 (fun y => if y = 0 ∨ y = 1 then some (y, tr2) else none) (fun K101 => lq2 (B_X9_isRow_1 (nI n) K101 tr2) fu 1 0)) (fun K61 => lq3 (B_X9_isRow_2 t K61 (nI n)) fu (nI way) 0 tr1))) fu 0 tr := by
    unfold f_X9_isRow; rw [jn1_d]; rfl
  rw [hf]
  have h3 : ∀ K : (Nat → Int32) → Option (Int32 × (Nat → Int32)), lq2 (B_X9_isRow_3 (nI n) K) fu 0 tr = K (fA 0 n (fun _ _ => 0) tr) := fun K => by
    refine fillL 0 n (fun _ _ => 0) (by omega) (fun rec k v hk => ?_) (fun rec v => ?_) tr
    · unfold B_X9_isRow_3
      rw [if_neg (nI_ge hk (by omega)), if_neg (idx_ok (k := k) rfl (show k < 4 by omega) (by decide)), nI_1, nI_clamp (by omega), Nat.zero_add]
    · unfold B_X9_isRow_3
      rw [if_pos (Int32.le_refl _)]
  rw [h3]
  have h2 : ∀ K : (Nat → Int32) → Option (Int32 × (Nat → Int32)), ∃ tr', lq3 (B_X9_isRow_2 t K (nI n)) fu (nI way) 0 (fA 0 n (fun _ _ => 0) tr) = K tr' ∧ ∀ k, k < n → tr' k = nI (trN n way C k) := fun K => by
    refine lq3_inv (fun c y3 y4 tr => y4 = nI c ∧ y3 = nI (way / n ^ c) ∧ ∀ k, k < n → tr k = nI (trN n way c k)) (fun z => ∃ tr', z = K tr' ∧ ∀ k, k < n → tr' k = nI (trN n way C k)) C ?_ ?_ fu 0 (nI way) 0 (fA 0 n (fun _ _ => 0) tr) (by omega) (by unfold fu; omega) ⟨rfl, by rw [Nat.pow_zero, Nat.div_one], fun k hk => by rw [fA_0 hk]; rfl⟩
    · rintro rec c y3 y4 tr hc ⟨rfl, rfl, hT⟩
      have hdv : way / n ^ c < 2147483648 := by have := Nat.div_le_self way (n ^ c); omega
      have hd : way / n ^ c % n < n := Nat.mod_lt _ (by omega)
      have e1 : nI (way / n ^ c) / nI n = nI (way / n ^ (c + 1)) := by
        rw [pk_div (by omega) (by omega) (by omega), Nat.div_div_eq_div_mul, Nat.pow_succ]
      have e2 : nI (way / n ^ c) - nI (way / n ^ c) / nI n * nI n = nI (way / n ^ c % n) := pk_rem (by omega) (by omega) (by omega)
      refine Or.inl ⟨nI (way / n ^ (c + 1)), nI (c + 1), upd tr (way / n ^ c % n) (tr (way / n ^ c % n) ||| ((1 : Int32) <<< (nI c &&& 31))), ⟨rfl, rfl, ?_⟩, ?_⟩
      · intro k hk
        show _ = nI (trN n way c k + if way / n ^ c % n = k then 2 ^ c else 0)
        by_cases q : way / n ^ c % n = k
        · rw [if_pos q, q, upd_s, hT k hk, or16 (by omega) (trN_lt c k)]
        · rw [if_neg q, upd_n (fun z => q z.symm), hT k hk, Nat.add_zero]
      · unfold B_X9_isRow_2
        rw [q4, if_neg (nI_ge hc (by omega)), if_neg (nI_ne0 (by omega) (by omega)), e2, e1, if_neg (idx_ok (k := way / n ^ c % n) rfl (show way / n ^ c % n < 4 by omega) (by decide)), nI_1, nI_clamp (by omega)]
    · rintro rec y3 y4 tr ⟨rfl, rfl, hT⟩
      unfold B_X9_isRow_2
      rw [q4, if_pos (Int32.le_refl _)]
      exact ⟨tr, rfl, hT⟩
  obtain ⟨tr', z1, z2⟩ := h2 (fun tr2 => jn1 (fun y => if y = 0 ∨ y = 1 then some (y, tr2) else none) (fun K101 => lq2 (B_X9_isRow_1 (nI n) K101 tr2) fu 1 0))
  rw [jn1_d, z1]
  refine ⟨tr', ?_, z2⟩
  rw [jn1_d]
  show lq2 (B_X9_isRow_1 (nI n) (fun y => if y = 0 ∨ y = 1 then some (y, tr') else none) tr') fu 1 0 = _
  refine lq2_inv (fun k y4 y5 => y5 = nI k ∧ y4 = if (List.range k).all (fun j => !decide (trN n way C j = 0)) = true then 1 else 0) (fun z => z = some (if isR C n way = true then (1 : Int32) else 0, tr')) n ?_ ?_ fu 0 1 0 (by omega) (by unfold fu; omega) ⟨rfl, rfl⟩
  · rintro rec k y4 y5 hk ⟨rfl, rfl⟩
    refine Or.inl ⟨_, _, ⟨rfl, rfl⟩, ?_⟩
    unfold B_X9_isRow_1
    rw [if_neg (nI_ge hk (by omega))]
    dsimp only [jn1]
    rw [if_neg (idx_ok (k := k) rfl (show k < 4 by omega) (by decide)), nI_1, nI_clamp (by omega), z2 k hk, isR_s]
    have h0 : nI (trN n way C k) = 0 ↔ trN n way C k = 0 := by
      have := trN_lt (n := n) (way := way) C k
      have := pow16 hC
      exact nI_eq (b := 0) (by omega) (by omega)
    by_cases c1 : (List.range k).all (fun j => !decide (trN n way C j = 0)) = true
    · rw [if_pos c1, if_neg (show ¬ (1 : Int32) = 0 by decide), c1, Bool.true_and]
      by_cases c2 : trN n way C k = 0
      · rw [if_pos (h0.mpr c2), if_neg (by rw [c2]; decide)]
      · rw [if_neg (fun z => c2 (h0.mp z)), if_pos (by rw [decide_eq_false c2]; rfl)]
    · rw [if_neg c1, if_pos rfl, if_neg (fun z => c1 (by rw [Bool.and_eq_true] at z; exact z.1))]
  · rintro rec y4 y5 ⟨rfl, rfl⟩
    unfold B_X9_isRow_1
    rw [if_pos (Int32.le_refl _)]
    show (if (if isR C n way = true then (1 : Int32) else 0) = 0 ∨ (if isR C n way = true then (1 : Int32) else 0) = 1 then some ((if isR C n way = true then (1 : Int32) else 0), tr') else none) = _
    by_cases c1 : isR C n way = true
    · rw [if_pos c1, if_pos (Or.inr rfl)]
    · rw [if_neg c1, if_pos (Or.inl rfl)]
theorem wRow_get {C n way j : Nat} (hj : j < n) : (wRow C n way).getD j 0 = trN n way C j := by
  unfold wRow
  rw [List.getD_eq_getElem?_getD, List.getElem?_map, List.getElem?_range hj]; rfl
theorem drop_c {l : List Nat} {j : Nat} (h : j < l.length) : l.drop j = l.getD j 0 :: l.drop (j + 1) := by
  rw [List.getD_eq_getElem?_getD, List.getElem?_eq_getElem h, Option.getD_some]
  exact List.drop_eq_getElem_cons h
theorem e_isAhead {cart tr : Nat → Int32} {n : Nat} {l r : List Nat} (h4 : n ≤ 4) (hl : l.length = n) (hr : r.length = n) (bl : ∀ j, j < n → l.getD j 0 < 16) (br : ∀ j, j < n → r.getD j 0 < 16) (ht : ∀ j, j < n → tr j = nI (l.getD j 0)) (hc : ∀ j, j < n → cart j = nI (r.getD j 0)) :
    f_X9_isAhead (nI n) cart tr = some (if lx l r = true then 1 else 0) := by
  have hf : f_X9_isAhead (nI n) cart tr = lq1 (B_X9_isAhead_1 (nI n) (fun y => if nI n ≤ y then some 0 else if y < 0 ∨ 4 ≤ y.toNatClampNeg then none else if cart y.toNatClampNeg ≤ tr y.toNatClampNeg then some 0 else some 1) tr cart) fu 0 := by
    unfold f_X9_isAhead; rw [jn1_d]; rfl
  rw [hf]
  refine lq1_inv (fun j y => y = nI j ∧ lx (l.drop j) (r.drop j) = lx l r) (fun z => z = some (if lx l r = true then (1 : Int32) else 0)) n ?_ ?_ fu 0 0 (by omega) (by unfold fu; omega) ⟨rfl, by rw [List.drop_zero, List.drop_zero]⟩
  · rintro rec j y hj ⟨rfl, he⟩
    unfold B_X9_isAhead_1
    have hb1 := bl j hj
    have hb2 := br j hj
    rw [drop_c (by omega), drop_c (show j < r.length by omega)] at he
    have he' : (if l.getD j 0 = r.getD j 0 then lx (l.drop (j + 1)) (r.drop (j + 1)) else decide (l.getD j 0 < r.getD j 0)) = lx l r := he
    rw [if_neg (nI_ge hj (by omega)), if_neg (idx_ok (k := j) rfl (show j < 4 by omega) (by decide)), nI_1, nI_clamp (by omega), ht j hj, hc j hj]
    by_cases c : l.getD j 0 = r.getD j 0
    · rw [if_pos c] at he'
      left
      rw [if_pos (by rw [c])]
      exact ⟨_, ⟨rfl, he'⟩, rfl⟩
    · rw [if_neg c] at he'
      right
      rw [if_neg (fun z => c ((nI_eq (by omega) (by omega)).mp z))]
      dsimp only
      rw [if_neg (nI_ge hj (by omega)), if_neg (idx_ok (k := j) rfl (show j < 4 by omega) (by decide)), nI_clamp (by omega), ht j hj, hc j hj, ← he']
      by_cases c2 : l.getD j 0 < r.getD j 0
      · rw [if_neg (nI_ge c2 (by omega)), if_pos (decide_eq_true c2)]
      · rw [if_pos (nI_le (by omega) (by omega)), if_neg (fun z => c2 (of_decide_eq_true z))]
  · rintro rec y ⟨rfl, he⟩
    unfold B_X9_isAhead_1
    rw [if_pos (Int32.le_refl _)]
    dsimp only
    rw [if_pos (Int32.le_refl _)]
    rw [List.drop_eq_nil_of_le (by omega)] at he
    have he' : false = lx l r := he
    rw [← he']
    rfl
