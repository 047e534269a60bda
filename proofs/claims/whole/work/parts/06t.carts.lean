/-! PURE SIDE: CARTS: the reference's fewest; carts of both -/
abbrev T11 : Type := Int32 × Int32 × Int32 × Int32 × (Nat → Int32) × (Nat → Int32) × (Nat → Int32) × (Nat → Int32) × (Nat → Int32) × (Nat → Int32) × (Nat → Int32)
theorem cart_cp {n : Nat} (h4 : n ≤ 4) {tr : Nat → Int32} (K : (Nat → Int32) → Option T11) (cart : Nat → Int32) : lq2 (fun (rec13 : Int32 → (Nat → Int32) → Option T11) (y5 : Int32) (c13 : Nat → Int32) => if nI n ≤ y5 then K c13 else if y5 < 0 ∨ 4 ≤ y5.toNatClampNeg then none else rec13 (y5 + 1) (upd c13 y5.toNatClampNeg (tr y5.toNatClampNeg))) fu 0 cart = K (fA 0 n (fun k _ => tr k) cart) := by
  refine fillL 0 n (fun k _ => tr k) (by omega) (fun rec k u hk => ?_) (fun rec u => ?_) cart
  · rw [if_neg (nI_ge hk (by omega)), if_neg (idx_ok (k := k) rfl (show k < 4 by omega) (by decide)), nI_1, nI_clamp (by omega), Nat.zero_add]
  · rw [if_pos (Int32.le_refl _)]
theorem pow_b {n C : Nat} (h4 : n ≤ 4) (hC : C ≤ 4) : n ^ C ≤ 256 := by
  have h1 : n ^ C ≤ 4 ^ C := Nat.pow_le_pow_left h4 C
  have h2 : 4 ^ C ≤ 4 ^ 4 := Nat.pow_le_pow_right (by decide) hC
  have h3 : (4 : Nat) ^ 4 = 256 := by decide
  omega
/-- what the reference's ways have -/
def SrC (n : Nat) (v : Option (List Nat)) (y2 : Int32) (cart : Nat → Int32) : Prop := (v = none ∧ y2 = 0) ∨ ∃ r, v = some r ∧ y2 = 1 ∧ r.length = n ∧ (∀ j, j < n → r.getD j 0 < 16) ∧ ∀ j, j < n → cart j = nI (r.getD j 0)
theorem m_ways {hour oats missed seed : Int32} {t strength stands s : Nat → Int32} {b : Int} {P H C k n : Nat}
    (ht : TW t) (hs : TS t) (hN : RNb b hour oats missed seed strength stands s t) (e0 : t 0 = nI P) (e3 : t 3 = nI H) (hP : P ≤ 3) (hH : H ≤ 6) (e4 : t 4 = nI C) (hC : C ≤ 4) (hcb : ∀ c, c < C → 0 ≤ (t (80 + c)).toInt ∧ (t (80 + c)).toInt ≤ 60) (hk : k < 1000000000) (ek : hour = nI k)
    (h1 : 1 ≤ n) (h4 : n ≤ 4) (K : Int32 → Int32 → Int32 → Int32 → (Nat → Int32) → (Nat → Int32) → (Nat → Int32) → (Nat → Int32) → (Nat → Int32) → (Nat → Int32) → (Nat → Int32) → Option T11) (e bm bo : Int32) (w a pl best cart tr fr : Nat → Int32) :
    ∃ (y2 e' bm' bo' : Int32) (w' a' pl' best' cart' tr' fr' : Nat → Int32), lq12 (B_X9_fewest_2 (nI (n ^ C)) K (nI n) t (-1) s) fu 0 0 e bm bo w a pl best cart tr fr = K y2 e' bm' bo' w' a' pl' best' cart' tr' fr' ∧ SrC n (fM C n (fun l => cOv P H C t l strength k) (n ^ C)) y2 cart' := by
  have hpw := pow_b h4 hC
  refine lq12_inv (fun m y2 y4 e bm bo w a pl best cart tr fr => y4 = nI m ∧ SrC n (fM C n (fun l => cOv P H C t l strength k) m) y2 cart) (fun z => ∃ (y2 e' bm' bo' : Int32) (w' a' pl' best' cart' tr' fr' : Nat → Int32), z = K y2 e' bm' bo' w' a' pl' best' cart' tr' fr' ∧ SrC n (fM C n (fun l => cOv P H C t l strength k) (n ^ C)) y2 cart') (n ^ C) ?_ ?_ fu 0 0 0 e bm bo w a pl best cart tr fr (by omega) (by unfold fu; omega) ⟨rfl, Or.inl ⟨rfl, rfl⟩⟩
  · rintro rec m y2 y4 e bm bo w a pl best cart tr fr hm ⟨rfl, hS⟩
    left
    obtain ⟨tr', r1, r2⟩ := e_isRow (tr := tr) (way := m) hC e4 h1 h4 (by omega)
    have hlen := wRow_len C n m
    have hbl : ∀ j, j < n → (wRow C n m).getD j 0 < 16 := fun j hj => by
      rw [wRow_get hj]
      have := trN_lt (n := n) (way := m) C j
      have := pow16 hC
      omega
    have htr : ∀ j, j < n → tr' j = nI ((wRow C n m).getD j 0) := fun j hj => by rw [r2 j hj, wRow_get hj]
    obtain ⟨e', bm', bo', w', a', pl', best', fr', o1⟩ := m_over (l := wRow C n m) ht hs hN e0 e3 hP hH e4 hC hcb hk ek h4 hlen hbl htr e bm bo w a pl best fr
    unfold B_X9_fewest_2
    rw [if_neg (nI_ge hm (by omega)), if_neg (nI_nle (by omega) (by omega)), r1, bn2_some, jn10_e, nI_1, fM_s]
    by_cases c1 : isR C n m = true
    · rw [if_pos c1, if_neg (show ¬ (1 : Int32) = 0 by decide), c1, Bool.true_and, o1, jn1_d, bn9_some]
      have take : ∀ y2' : Int32, (∃ b1 b2 b3 b4 b5 b6 b7 b8 b9 b10 b11 b12, (b2 = nI (m + 1) ∧ SrC n (if cOv P H C t (wRow C n m) strength k = true then some (wRow C n m) else fM C n (fun l => cOv P H C t l strength k) m) b1 b10) ∧ (if (if cOv P H C t (wRow C n m) strength k = true then (1 : Int32) else 0) = 0 then rec y2 (nI (m + 1)) e' bm' bo' w' a' pl' best' cart tr' fr' else lq2 (fun (rec13 : Int32 → (Nat → Int32) → Option T11) (y5 : Int32) (c13 : Nat → Int32) => if nI n ≤ y5 then rec 1 (nI (m + 1)) e' bm' bo' w' a' pl' best' c13 tr' fr' else if y5 < 0 ∨ 4 ≤ y5.toNatClampNeg then none else rec13 (y5 + 1) (upd c13 y5.toNatClampNeg (tr' y5.toNatClampNeg))) fu 0 cart) = rec b1 b2 b3 b4 b5 b6 b7 b8 b9 b10 b11 b12) := fun _ => by
        by_cases c2 : cOv P H C t (wRow C n m) strength k = true
        · rw [if_pos c2, if_pos c2, if_neg (show ¬ (1 : Int32) = 0 by decide), cart_cp h4]
          exact ⟨_, _, _, _, _, _, _, _, _, _, _, _, ⟨rfl, Or.inr ⟨_, rfl, rfl, hlen, hbl, fun j hj => by rw [fA_0 hj, htr j hj]⟩⟩, rfl⟩
        · rw [if_neg c2, if_neg c2, if_pos rfl]
          exact ⟨_, _, _, _, _, _, _, _, _, _, _, _, ⟨rfl, hS⟩, rfl⟩
      rcases hS with ⟨q1, q2⟩ | ⟨r, q1, q2, q3, q4, q5⟩
      · rw [q1, if_pos q2]
        rw [q1] at take
        dsimp only
        rw [Bool.true_and]
        exact take 0
      · rw [q1, if_neg (show ¬ y2 = 0 by rw [q2]; decide), e_isAhead h4 hlen q3 hbl q4 htr q5, bn1_some]
        rw [q1] at take
        dsimp only
        by_cases c3 : lx (wRow C n m) r = true
        · rw [if_pos c3, if_neg (show ¬ (1 : Int32) = 0 by decide), if_iff (show (lx (wRow C n m) r && cOv P H C t (wRow C n m) strength k) = true ↔ cOv P H C t (wRow C n m) strength k = true by rw [c3, Bool.true_and])]
          exact take 0
        · have c4 : lx (wRow C n m) r = false := by
            cases hq : lx (wRow C n m) r with
            | false => rfl
            | true => exact absurd hq c3
          rw [if_neg c3, if_pos rfl, if_neg (show ¬ (lx (wRow C n m) r && cOv P H C t (wRow C n m) strength k) = true by rw [c4, Bool.false_and]; decide)]
          exact ⟨_, _, _, _, _, _, _, _, _, _, _, _, ⟨rfl, Or.inr ⟨r, rfl, q2, q3, q4, q5⟩⟩, rfl⟩
    · have c2 : isR C n m = false := by
        cases hq : isR C n m with
        | false => rfl
        | true => exact absurd hq c1
      rw [if_neg c1, if_pos rfl, c2, Bool.false_and, Bool.false_and, if_neg (by decide)]
      exact ⟨_, _, _, _, _, _, _, _, _, _, _, _, ⟨rfl, hS⟩, rfl⟩
  · rintro rec y2 y4 e bm bo w a pl best cart tr fr ⟨rfl, hS⟩
    unfold B_X9_fewest_2
    rw [if_pos (Int32.le_refl _)]
    exact ⟨_, _, _, _, _, _, _, _, _, _, _, rfl, hS⟩
theorem few_pow {t : Nat → Int32} {C n : Nat} (hC : C ≤ 4) (e4 : t 4 = nI C) (K : Int32 → Option T11) : lq2 (B_X9_fewest_4 t K (nI n)) fu 1 0 = K (nI (n ^ C)) := by
  have q4 : t (Int32.toNatClampNeg 4) = nI C := e4
  refine lq2_inv (fun c y3 y4 => y4 = nI c ∧ y3 = nI (n ^ c)) (fun z => z = K (nI (n ^ C))) C ?_ ?_ fu 0 1 0 (by omega) (by unfold fu; omega) ⟨rfl, by rw [Nat.pow_zero]; rfl⟩
  · rintro rec c y3 y4 hc ⟨rfl, rfl⟩
    refine Or.inl ⟨_, _, ⟨rfl, rfl⟩, ?_⟩
    unfold B_X9_fewest_4
    rw [q4, if_neg (nI_ge hc (by omega)), pk_mul, nI_1, Nat.pow_succ]
  · rintro rec y3 y4 ⟨rfl, rfl⟩
    unfold B_X9_fewest_4
    rw [q4, if_pos (Int32.le_refl _)]
theorem few_eq (e half bm bo : Int32) (t s w a pl best cart tr fr : Nat → Int32) : f_X9_fewest e half bm bo t s w a pl best cart tr fr = lq11 (B_X9_fewest_1 t (fun e bm bo w a pl best cart tr fr => some (-1, e, bm, bo, w, a, pl, best, cart, tr, fr)) half s) fu (if t ((4 : Int32)).toNatClampNeg = 0 then 0 else 1) e bm bo w a pl best cart tr fr := by
  unfold f_X9_fewest
  rw [jn1_if, jn10_e]
  rfl
theorem m_fewest {hour oats missed seed : Int32} {t strength stands s : Nat → Int32} {b : Int} {P H C k : Nat}
    (ht : TW t) (hs : TS t) (hN : RNb b hour oats missed seed strength stands s t) (e0 : t 0 = nI P) (e3 : t 3 = nI H) (hP : P ≤ 3) (hH : H ≤ 6) (e4 : t 4 = nI C) (hC : C ≤ 4) (hC0 : C ≠ 0) (hcb : ∀ c, c < C → 0 ≤ (t (80 + c)).toInt ∧ (t (80 + c)).toInt ≤ 60) (hk : k < 1000000000) (ek : hour = nI k) (e bm bo : Int32) (w a pl best cart tr fr : Nat → Int32) :
    ∃ (rN e' bm' bo' : Int32) (w' a' pl' best' cart' tr' fr' : Nat → Int32), f_X9_fewest e (-1) bm bo t s w a pl best cart tr fr = some (rN, e', bm', bo', w', a', pl', best', cart', tr', fr') ∧ ((rN = -1 ∧ ∀ n, 1 ≤ n → n ≤ C → fM C n (fun l => cOv P H C t l strength k) (n ^ C) = none) ∨ ∃ r, 1 ≤ r.length ∧ r.length ≤ C ∧ rN = nI r.length ∧ fM C r.length (fun l => cOv P H C t l strength k) (r.length ^ C) = some r ∧ (∀ n, 1 ≤ n → n < r.length → fM C n (fun l => cOv P H C t l strength k) (n ^ C) = none) ∧ ∀ j, j < r.length → cart' j = nI (r.getD j 0)) := by
  have q4 : t (Int32.toNatClampNeg 4) = nI C := e4
  rw [few_eq, q4, if_neg (nI_ne0 (by omega) (by omega))]
  refine lq11_inv (fun j y1 e bm bo w a pl best cart tr fr => y1 = nI (j + 1) ∧ ∀ n, 1 ≤ n → n ≤ j → fM C n (fun l => cOv P H C t l strength k) (n ^ C) = none) (fun z => ∃ (rN e' bm' bo' : Int32) (w' a' pl' best' cart' tr' fr' : Nat → Int32), z = some (rN, e', bm', bo', w', a', pl', best', cart', tr', fr') ∧ ((rN = -1 ∧ ∀ n, 1 ≤ n → n ≤ C → fM C n (fun l => cOv P H C t l strength k) (n ^ C) = none) ∨ ∃ r, 1 ≤ r.length ∧ r.length ≤ C ∧ rN = nI r.length ∧ fM C r.length (fun l => cOv P H C t l strength k) (r.length ^ C) = some r ∧ (∀ n, 1 ≤ n → n < r.length → fM C n (fun l => cOv P H C t l strength k) (n ^ C) = none) ∧ ∀ j, j < r.length → cart' j = nI (r.getD j 0))) C ?_ ?_ fu 0 1 e bm bo w a pl best cart tr fr (by omega) (by unfold fu; omega) ⟨rfl, fun n n1 n2 => by omega⟩
  · rintro rec j y1 e bm bo w a pl best cart tr fr hj ⟨rfl, hno⟩
    unfold B_X9_fewest_1
    rw [q4, if_neg (nI_nlt (by omega) (by omega)), jn1_if, if_neg (nI_ne0 (by omega) (by omega)), jn1_d, nI_1]
    have kp : ∀ (Z : Option T11 → Prop) (K5 : Int32 → Option T11), Z (K5 (nI ((j + 1) ^ C))) → Z (lq2 (B_X9_fewest_4 t K5 (nI (j + 1))) fu 1 0) := fun Z K5 hZ => by rw [few_pow hC e4]; exact hZ
    have kp' : ∀ (Z : Option T11 → Prop) (K5 : Int32 → Option T11), Z (K5 (nI ((j + 1) ^ C))) → Z (lq2 (fun (rec16 : Int32 → Int32 → Option T11) (y3 : Int32) (y4 : Int32) => if nI C ≤ y4 then K5 y3 else rec16 (y3 * nI (j + 1)) (y4 + 1)) fu 1 0) := fun Z K5 hZ => by
      have := kp Z K5 hZ
      unfold B_X9_fewest_4 at this
      rw [q4] at this
      exact this
    refine kp' (fun o => (∃ b1 b2 b3 b4 b5 b6 b7 b8 b9 b10 b11, (b1 = nI (j + 1 + 1) ∧ ∀ n, 1 ≤ n → n ≤ j + 1 → fM C n (fun l => cOv P H C t l strength k) (n ^ C) = none) ∧ o = rec b1 b2 b3 b4 b5 b6 b7 b8 b9 b10 b11) ∨ ∃ (rN e' bm' bo' : Int32) (w' a' pl' best' cart' tr' fr' : Nat → Int32), o = some (rN, e', bm', bo', w', a', pl', best', cart', tr', fr') ∧ ((rN = -1 ∧ ∀ n, 1 ≤ n → n ≤ C → fM C n (fun l => cOv P H C t l strength k) (n ^ C) = none) ∨ ∃ r, 1 ≤ r.length ∧ r.length ≤ C ∧ rN = nI r.length ∧ fM C r.length (fun l => cOv P H C t l strength k) (r.length ^ C) = some r ∧ (∀ n, 1 ≤ n → n < r.length → fM C n (fun l => cOv P H C t l strength k) (n ^ C) = none) ∧ ∀ j, j < r.length → cart' j = nI (r.getD j 0))) _ ?_
    rw [jn11_e]
    obtain ⟨y2, e', bm', bo', w', a', pl', best', cart', tr', fr', g1, g2⟩ := m_ways (n := j + 1) ht hs hN e0 e3 hP hH e4 hC hcb hk ek (by omega) (by omega) (fun y2 e bm bo w a pl best cart tr fr => if y2 = 0 then rec (nI (j + 1 + 1)) e bm bo w a pl best cart tr fr else some (nI (j + 1), e, bm, bo, w, a, pl, best, cart, tr, fr)) e bm bo w a pl best cart tr fr
    have kw : ∀ (Z : Option T11 → Prop), Z (if y2 = 0 then rec (nI (j + 1 + 1)) e' bm' bo' w' a' pl' best' cart' tr' fr' else some (nI (j + 1), e', bm', bo', w', a', pl', best', cart', tr', fr')) → Z (lq12 (B_X9_fewest_2 (nI ((j + 1) ^ C)) (fun y2 e bm bo w a pl best cart tr fr => if y2 = 0 then rec (nI (j + 1 + 1)) e bm bo w a pl best cart tr fr else some (nI (j + 1), e, bm, bo, w, a, pl, best, cart, tr, fr)) (nI (j + 1)) t (-1) s) fu 0 0 e bm bo w a pl best cart tr fr) := fun Z hZ => by rw [g1]; exact hZ
    refine kw (fun o => (∃ b1 b2 b3 b4 b5 b6 b7 b8 b9 b10 b11, (b1 = nI (j + 1 + 1) ∧ ∀ n, 1 ≤ n → n ≤ j + 1 → fM C n (fun l => cOv P H C t l strength k) (n ^ C) = none) ∧ o = rec b1 b2 b3 b4 b5 b6 b7 b8 b9 b10 b11) ∨ ∃ (rN e' bm' bo' : Int32) (w' a' pl' best' cart' tr' fr' : Nat → Int32), o = some (rN, e', bm', bo', w', a', pl', best', cart', tr', fr') ∧ ((rN = -1 ∧ ∀ n, 1 ≤ n → n ≤ C → fM C n (fun l => cOv P H C t l strength k) (n ^ C) = none) ∨ ∃ r, 1 ≤ r.length ∧ r.length ≤ C ∧ rN = nI r.length ∧ fM C r.length (fun l => cOv P H C t l strength k) (r.length ^ C) = some r ∧ (∀ n, 1 ≤ n → n < r.length → fM C n (fun l => cOv P H C t l strength k) (n ^ C) = none) ∧ ∀ j, j < r.length → cart' j = nI (r.getD j 0))) ?_
    rcases g2 with ⟨q1, q2⟩ | ⟨r, q1, q2, q3, -, q5⟩
    · left
      rw [if_pos q2]
      refine ⟨_, _, _, _, _, _, _, _, _, _, _, ⟨rfl, fun n n1 n2 => ?_⟩, rfl⟩
      by_cases c : n = j + 1
      · subst c; exact q1
      · exact hno n n1 (by omega)
    · right
      rw [if_neg (show ¬ y2 = 0 by rw [q2]; decide)]
      refine ⟨_, _, _, _, _, _, _, _, _, _, _, rfl, Or.inr ⟨r, by omega, by omega, by rw [q3], by rw [q3]; exact q1, fun n n1 n2 => hno n n1 (by omega), fun i hi => q5 i (by omega)⟩⟩
  · rintro rec y1 e bm bo w a pl best cart tr fr ⟨rfl, hno⟩
    unfold B_X9_fewest_1
    rw [q4, if_pos (nI_lt (by omega) (by omega))]
    exact ⟨_, _, _, _, _, _, _, _, _, _, _, rfl, Or.inl ⟨rfl, hno⟩⟩
theorem m_few0 {t s : Nat → Int32} (e4 : t 4 = nI 0) (e half bm bo : Int32) (w a pl best cart tr fr : Nat → Int32) :
    ∃ (e' bm' bo' : Int32) (w' a' pl' best' cart' tr' fr' : Nat → Int32), f_X9_fewest e half bm bo t s w a pl best cart tr fr = some (0, e', bm', bo', w', a', pl', best', cart', tr', fr') := by
  obtain ⟨n9, efu⟩ := fu_4
  have q4 : t (Int32.toNatClampNeg 4) = nI 0 := e4
  rw [few_eq, q4, if_pos (show nI 0 = 0 from rfl), efu, lq11_1]
  unfold B_X9_fewest_1
  rw [q4, if_neg (show ¬ nI 0 < 0 by decide), jn1_if, if_pos rfl, jn1_d, efu, lq2_1, if_pos (show nI 0 ≤ 0 by decide)]
  dsimp only
  rw [jn11_e, lq12_1, if_neg (show ¬ (1 : Int32) ≤ 0 by decide), if_pos (show (0 : Int32) ≤ 0 by decide)]
  dsimp only
  rw [if_neg (show ¬ (1 : Int32) = 0 by decide)]
  exact ⟨_, _, _, _, _, _, _, _, _, _, rfl⟩
/-- what the class keeps of CARTS is so -/
def CKN (P H C : Nat) (t w : Nat → Int32) (k : Nat) (known crossings : Int32) (sets : Nat → Int32) : Prop := known = 0 ∨ StG (cF [] (fun l => cOv P H C t l w k) (prt 4 (2 ^ C - 1)) none) crossings sets
theorem full_C {cartN : Int32} {C : Nat} (hC : C ≤ 4) (ec : cartN = nI C) : ((1 : Int32) <<< (cartN &&& 31)) - 1 = nI (2 ^ C - 1) ∧ 2 ^ C - 1 < 16 := by
  rw [ec]
  rcases le4 hC with rfl | rfl | rfl | rfl | rfl <;> decide +kernel
theorem m_carts {law places broad horses blinds tideN cartN hour oats missed seed last n1 th e bm bo gk gc crew mi oa : Int32} {pull str back moods tides carts t strength stands s who cp w a pl best cart tr fr sets tried g0 g1 g2 g3 g4 : Nat → Int32} {b : Int} {P H C : Nat}
    (hX : CX law places broad horses blinds tideN cartN last pull str back moods tides carts t who cp P H C) (hN : RNb b hour oats missed seed strength stands s t) (hb : b < 500000000) (hK : CKN P H C t strength hour.toNatClampNeg gk gc sets) :
    ∃ (rr crew' mi' oa' gk' gc' : Int32) (sets' tried' g0' g1' g2' g3' g4' : Nat → Int32) (e' bm' bo' : Int32) (w' a' pl' best' cart' tr' fr' : Nat → Int32), f_X8_carts n1 law broad horses tideN cartN str back tides carts last who cp hour strength crew mi oa gk gc sets tried g0 g1 g2 g3 g4 = some (rr, crew', mi', oa', gk', gc', sets', tried', g0', g1', g2', g3', g4') ∧ f_X9_carts n1 th e (-1) bm bo t s w a pl best cart tr fr = some (rr, 0, e', bm', bo', w', a', pl', best', cart', tr', fr') ∧ CKN P H C t strength hour.toNatClampNeg gk' gc' sets' := by
  obtain ⟨hB, e0, e3, hP, hH, hF, e4, hC, ec, hca⟩ := id hX
  obtain ⟨ht, hs, -⟩ := id hB
  obtain ⟨⟨s9, hh0, hhb⟩, -⟩ := id hN
  obtain ⟨hWB, -⟩ := asnow_f (fr := fr) ht hN
  obtain ⟨k, hk, ek, ekI⟩ := hour_n hh0
  have ekc : hour.toNatClampNeg = k := by rw [ek, nI_clamp (by omega)]
  rw [ekc] at hK ⊢
  obtain ⟨hfl, hfl16⟩ := full_C hC ec
  -- the class
  have hcls : ∃ (crew' mi' oa' gk' gc' : Int32) (sets' tried' g0' g1' g2' g3' g4' : Nat → Int32), f_X1_find hour gk gc sets tried g0 g1 g2 g3 g4 crew mi oa last who cp law broad horses tideN cartN str back tides carts strength = some (gk', gc', sets', tried', g0', g1', g2', g3', g4', crew', mi', oa') ∧ StG (cF [] (fun l => cOv P H C t l strength k) (prt 4 (2 ^ C - 1)) none) gc' sets' := by
    unfold f_X1_find
    by_cases c : gk = 0
    · have hE : WEQ t (va_cpy strength g0 0 0 6) strength := fun h hh => by
        have h6 : h < 6 := by rw [e3, nI_clamp (by omega)] at hh; omega
        exact cpy0 h6
      obtain ⟨gc', sets', tried', s1', s2', s3', s4', crew', mi', oa', z1, z2, -⟩ := c_over0 (k := k) (left := 2 ^ C - 1) (pre := []) (st := none) hX hWB hE (by omega) hfl16 rfl rfl (-1) sets tried g1 g2 g3 g4 crew mi oa (Or.inl ⟨rfl, rfl⟩) (fun j hj => absurd hj (by omega))
      rw [if_pos c, hfl, ek, z1, bn10_some]
      exact ⟨_, _, _, _, _, _, _, _, _, _, _, _, rfl, z2⟩
    · rw [if_neg c]
      exact ⟨_, _, _, _, _, _, _, _, _, _, _, _, rfl, hK.resolve_left c⟩
  obtain ⟨crew', mi', oa', gk', gc', sets', tried', g0', g1', g2', g3', g4', f1, f2⟩ := hcls
  -- the reference
  have href : ∃ (rN e' bm' bo' : Int32) (w' a' pl' best' cart' tr' fr' : Nat → Int32), f_X9_fewest e (-1) bm bo t s w a pl best cart tr fr = some (rN, e', bm', bo', w', a', pl', best', cart', tr', fr') ∧ ((rN = -1 ∧ gc' = -1) ∨ ∃ r : List Nat, r.length ≤ 4 ∧ rN = nI r.length ∧ gc' = nI r.length ∧ ∀ j, j < r.length → cart' j = sets' j) := by
    by_cases c0 : C = 0
    · subst c0
      obtain ⟨e', bm', bo', w', a', pl', best', cart', tr', fr', q⟩ := m_few0 (s := s) e4 e (-1) bm bo w a pl best cart tr fr
      refine ⟨0, e', bm', bo', w', a', pl', best', cart', tr', fr', q, Or.inr ⟨[], by decide, rfl, ?_, fun j hj => absurd hj (by rw [List.length_nil]; omega)⟩⟩
      have hcf : cF [] (fun l => cOv P H 0 t l strength k) (prt 4 (2 ^ 0 - 1)) none = some [] := leaf_cF (pre := []) 4 rfl rfl
      rw [hcf] at f2
      rcases f2 with ⟨z, -⟩ | ⟨r, z1, z2, z3, -⟩
      · exact absurd z (by simp)
      · rw [z3, ← Option.some.inj z1]
    · obtain ⟨rN, e', bm', bo', w', a', pl', best', cart', tr', fr', q1, q2⟩ := m_fewest (P := P) (H := H) ht hs hN e0 e3 hP hH e4 hC c0 (fun c hc => by rw [(hca c hc).1]; exact (hca c hc).2) (k := k) (by omega) ek e bm bo w a pl best cart tr fr
      refine ⟨rN, e', bm', bo', w', a', pl', best', cart', tr', fr', q1, ?_⟩
      rcases ct_eq hC c0 (fun l => cOv P H C t l strength k) with ⟨h1, h2⟩ | ⟨r, h1, h2, h3, h4, h5⟩
      · rw [h1] at f2
        rcases f2 with ⟨-, z⟩ | ⟨r, z1, -⟩
        · rcases q2 with ⟨y1, -⟩ | ⟨r, y1, y2, y3, y4, -⟩
          · exact Or.inl ⟨y1, z⟩
          · rw [h2 r.length y1 y2] at y4; exact absurd y4 (by simp)
        · exact absurd z1 (by simp)
      · rw [h1] at f2
        rcases f2 with ⟨z, -⟩ | ⟨r', z1, z2, z3, z4⟩
        · exact absurd z (by simp)
        · have hrr : r = r' := Option.some.inj z1
          subst hrr
          rcases q2 with ⟨-, y2⟩ | ⟨r2, y1, y2, y3, y4, y5, y6⟩
          · rw [y2 r.length h2 h3] at h4; exact absurd h4 (by simp)
          · have hl : r2.length = r.length := by
              by_cases a1 : r2.length < r.length
              · rw [h5 _ y1 a1] at y4; exact absurd y4 (by simp)
              · by_cases a2 : r.length < r2.length
                · rw [y5 _ h2 a2] at h4; exact absurd h4 (by simp)
                · omega
            rw [hl, h4] at y4
            have hr2 : r = r2 := Option.some.inj y4
            subst hr2
            exact Or.inr ⟨r, z2, y3, z3, fun j hj => by rw [y6 j hj, z4 j hj]⟩
  obtain ⟨rN, e', bm', bo', w', a', pl', best', cart', tr', fr', q1, q2⟩ := href
  unfold f_X8_carts f_X9_carts
  rw [f1, bn12_some, q1, bn11_some]
  have hrg : rN = gc' := by
    rcases q2 with ⟨x1, x2⟩ | ⟨r, -, x1, x2, -⟩
    · rw [x1, x2]
    · rw [x1, x2]
  by_cases c1 : n1 = -1
  · rw [if_pos c1, if_pos c1, hrg]
    exact ⟨_, _, _, _, _, _, _, _, _, _, _, _, _, _, _, _, _, _, _, _, _, _, _, rfl, rfl, Or.inr f2⟩
  · rw [if_neg c1, if_neg c1, e_in, bn1_some, hrg]
    by_cases c2 : n1 < 0
    · rw [if_pos c2, if_neg (show ¬ (0 ≤ n1 ∧ n1 ≤ gc' - 1) by intro z; have := z.1; grind), if_pos rfl]
      exact ⟨_, _, _, _, _, _, _, _, _, _, _, _, _, _, _, _, _, _, _, _, _, _, _, rfl, rfl, Or.inr f2⟩
    · obtain ⟨j, hj, ej⟩ := nI_of (x := n1) c2
      rw [if_neg c2]
      rcases q2 with ⟨x1, x2⟩ | ⟨r, x0, x1, x2, x3⟩
      · have d1 : gc' ≤ n1 := by rw [x2, ej]; exact Int32.le_trans (show (-1 : Int32) ≤ 0 by decide) (nI_pos' (by omega))
        have d2 : ¬ (0 ≤ n1 ∧ n1 ≤ gc' - 1) := by
          rintro ⟨z1, z2⟩
          rw [x2] at z2
          have := Int32.le_trans z1 z2
          exact absurd this (by decide)
        rw [if_pos d1, if_neg d2, if_pos rfl]
        exact ⟨_, _, _, _, _, _, _, _, _, _, _, _, _, _, _, _, _, _, _, _, _, _, _, rfl, rfl, Or.inr f2⟩
      · have hiff : (0 ≤ n1 ∧ n1 ≤ gc' - 1) ↔ j < r.length := by
          rw [x2, ej, i_le, i_le, show (0 : Int32).toInt = 0 from rfl, nI_toInt (by omega)]
          have : nI r.length - 1 = jI ((r.length : Int) - 1) := by rw [jI_nat, show (1 : Int32) = jI 1 from rfl, jI_sub]
          rw [this, jI_toInt (by omega) (by omega)]
          omega
        by_cases d : j < r.length
        · have d1 : ¬ gc' ≤ n1 := by rw [x2, ej]; exact nI_ge d (by omega)
          have d3 : n1 < 4 := by rw [ej]; exact nI_lt (b := 4) (by omega) (by decide)
          rw [if_neg d1, if_pos d3, if_neg (idx_ok ej (show j < 4 by omega) (by decide)), if_pos (hiff.mpr d), if_neg (show ¬ (1 : Int32) = 0 by decide), if_neg (idx_ok ej (show j < 4 by omega) (by decide)), ej, nI_clamp (by omega), x3 j d]
          exact ⟨_, _, _, _, _, _, _, _, _, _, _, _, _, _, _, _, _, _, _, _, _, _, _, rfl, rfl, Or.inr f2⟩
        · have d1 : gc' ≤ n1 := by rw [x2, ej]; exact nI_le (by omega) (by omega)
          rw [if_pos d1, if_neg (fun z => d (hiff.mp z)), if_pos rfl]
          exact ⟨_, _, _, _, _, _, _, _, _, _, _, _, _, _, _, _, _, _, _, _, _, _, _, rfl, rfl, Or.inr f2⟩
