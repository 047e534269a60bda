/-! PURE SIDE: CARTS: the class's side (written by wip/whole/gen/mkcarts.py) -/
theorem bit16 {s c : Nat} (hs : s < 16) (hc : c < 4) : ((nI s >>> (nI c &&& 31)) &&& 1) = if s.testBit c then 1 else 0 := by
  have h : ∀ s : Fin 16, ∀ c : Fin 4, ((nI s.val >>> (nI c.val &&& 31)) &&& 1) = if s.val.testBit c.val then 1 else 0 := by decide +kernel
  exact h ⟨s, hs⟩ ⟨c, hc⟩
theorem and16 {s l : Nat} (hs : s < 16) (hl : l < 16) : nI s &&& nI l = nI s ↔ s &&& l = s := by
  have h : ∀ s : Fin 16, ∀ l : Fin 16, nI s.val &&& nI l.val = nI s.val ↔ s.val &&& l.val = s.val := by decide +kernel
  exact h ⟨s, hs⟩ ⟨l, hl⟩
theorem sub_nI {a b : Nat} (h : b ≤ a) : nI a - nI b = nI (a - b) := by
  rw [jI_nat, jI_nat, jI_nat, jI_sub]
  congr 1
  omega
/-- all that CARTS looks at -/
def CX (law places broad horses blinds tideN cartN last : Int32) (pull str back moods tides carts t who cp : Nat → Int32) (P H C : Nat) : Prop :=
  BT law places broad horses blinds tideN pull str back moods tides t ∧ t 0 = nI P ∧ t 3 = nI H ∧ P ≤ 3 ∧ H ≤ 6 ∧ FST t P H 343 last who cp ∧ t 4 = nI C ∧ C ≤ 4 ∧ cartN = nI C ∧ ∀ c, c < C → t (80 + c) = carts c ∧ 0 ≤ (carts c).toInt ∧ (carts c).toInt ≤ 60
theorem cwt_b {t : Nat → Int32} {s C : Nat} (h : ∀ c, c < C → 0 ≤ (t (80 + c)).toInt ∧ (t (80 + c)).toInt ≤ 60) : ∀ c, c ≤ C → 0 ≤ cwt t s c ∧ cwt t s c ≤ 60 * (c : Int)
  | 0, _ => ⟨Int.le_refl _, Int.le_refl _⟩
  | c + 1, hc => by
    have ih := cwt_b (s := s) h c (by omega)
    have hb := h c (by omega)
    show 0 ≤ cwt t s c + (if s.testBit c then (t (80 + c)).toInt else 0) ∧ cwt t s c + (if s.testBit c then (t (80 + c)).toInt else 0) ≤ 60 * ((c + 1 : Nat) : Int)
    by_cases q : s.testBit c = true
    · rw [if_pos q]; omega
    · rw [if_neg q]; omega
theorem e_weight {t carts : Nat → Int32} {cartN : Int32} {s C : Nat} (hs : s < 16) (hC : C ≤ 4) (ec : cartN = nI C) (hc : ∀ c, c < C → t (80 + c) = carts c) : f_X1_weight (nI s) cartN carts = some (jI (cwt t s C)) := by
  have hf : f_X1_weight (nI s) cartN carts = lq2 (B_X1_weight_1 cartN (fun y => some y) (nI s) carts) fu 0 0 := by
    unfold f_X1_weight; rw [jn1_d]; rfl
  rw [hf]
  refine lq2_inv (fun k y c => c = nI k ∧ y = jI (cwt t s k)) (fun z => z = some (jI (cwt t s C))) C ?_ ?_ fu 0 0 0 (by omega) (by unfold fu; omega) ⟨rfl, rfl⟩
  · rintro rec k y c hk ⟨rfl, rfl⟩
    refine Or.inl ⟨_, _, ⟨rfl, rfl⟩, ?_⟩
    unfold B_X1_weight_1
    rw [ec, if_neg (nI_ge hk (by omega)), if_neg (show ¬ (4 : Int32) ≤ nI k from nI_ge (b := 4) (by omega) (by decide)), jn1_d, bit16 hs (by omega), nI_1]
    show _ = rec (jI (cwt t s k + if s.testBit k then (t (80 + k)).toInt else 0)) _
    by_cases q : s.testBit k = true
    · rw [if_pos q, if_pos q, if_neg (show ¬ (1 : Int32) = 0 by decide), if_neg (idx_ok (k := k) rfl (show k < 4 by omega) (by decide)), nI_clamp (by omega), ← hc k hk, ← jI_add, jI_self]
    · rw [if_neg q, if_neg q, if_pos rfl, Int.add_zero]
  · rintro rec y c ⟨rfl, rfl⟩
    unfold B_X1_weight_1
    rw [ec, if_pos (Int32.le_refl _)]
/-- what the class has found -/
def StG (st : Option (List Nat)) (crossings : Int32) (sets : Nat → Int32) : Prop := (st = none ∧ crossings = -1) ∨ ∃ r, st = some r ∧ r.length ≤ 4 ∧ crossings = nI r.length ∧ ∀ j, j < r.length → sets j = nI (r.getD j 0)
theorem StG_bet {st : Option (List Nat)} {crossings : Int32} {sets : Nat → Int32} {n : Nat} (hn : n ≤ 10) (h : StG st crossings sets) : betL n st = true ↔ (crossings = -1 ∨ ¬ crossings ≤ nI n) := by
  rcases h with ⟨rfl, h2⟩ | ⟨r, rfl, h2, h3, -⟩
  · exact ⟨fun _ => Or.inl h2, fun _ => rfl⟩
  · show decide (n < r.length) = true ↔ _
    rw [decide_eq_true_iff, h3, nI_leI (by omega) (by omega)]
    constructor
    · intro z; exact Or.inr (by omega)
    · rintro (z | z)
      · exact absurd z (nI_ne (by omega))
      · omega
theorem shorter_if {B : Type} (cr : Int32) (n : Int32) (F : Int32 → Option B) : jn1 F (fun J56 => jn1 (fun (_ : Unit) => J56 1) (fun J51 => if cr = -1 then J51 () else if cr ≤ n then J56 0 else J51 ())) = F (if cr = -1 ∨ ¬ cr ≤ n then 1 else 0) := by
  dsimp only [jn1]
  by_cases c1 : cr = -1
  · rw [if_pos c1, if_pos (Or.inl c1)]
  · rw [if_neg c1]
    by_cases c2 : cr ≤ n
    · rw [if_pos c2, if_neg (fun z => by rcases z with z | z; exact c1 z; exact z c2)]
    · rw [if_neg c2, if_pos (Or.inr c2)]
theorem prt_0 (d : Nat) : prt d 0 = [[]] := by cases d <;> rfl
theorem leaf_cF {pre : List Nat} {ov : List Nat → Bool} {st : Option (List Nat)} (d : Nat) (ho : ov [] = true) (hb : betL pre.length st = true) : cF pre ov (prt d 0) st = some pre := by
  rw [prt_0]
  show (if (ov [] && betL (pre.length + ([] : List Nat).length) st) = true then some (pre ++ []) else st) = some pre
  rw [List.length_nil, Nat.add_zero, ho, hb, List.append_nil]
  rfl
theorem leaf_st {pre : List Nat} {tried sets : Nat → Int32} (h4 : pre.length ≤ 4) (ht : ∀ j, j < pre.length → tried j = nI (pre.getD j 0)) : StG (some pre) (nI pre.length) (va_cpy tried sets 0 0 4) :=
  Or.inr ⟨pre, rfl, h4, rfl, fun j hj => by rw [cpy0 (by omega)]; exact ht j hj⟩
/-- one set of a crossing -/
abbrev cG (d left : Nat) (s : Nat) : List (List Nat) := if s &&& left = s then (prt d (left - s)).map (List.cons s) else []
theorem prt_s {d left : Nat} (h : left ≠ 0) : prt (d + 1) left = prU (cG d left) left := by
  show (if left = 0 then [[]] else _) = _
  rw [if_neg h]
theorem get_app {pre : List Nat} {s j : Nat} (hj : j < pre.length) : (pre ++ [s]).getD j 0 = pre.getD j 0 := by
  rw [List.getD_eq_getElem?_getD, List.getD_eq_getElem?_getD, List.getElem?_append_left hj]
theorem get_app2 {pre : List Nat} {s : Nat} : (pre ++ [s]).getD pre.length 0 = s := by
  rw [List.getD_eq_getElem?_getD, List.getElem?_append_right (Nat.le_refl _), Nat.sub_self]; rfl
theorem len_app {pre : List Nat} {s : Nat} : (pre ++ [s]).length = pre.length + 1 := by
  rw [List.length_append]; rfl
theorem c_over4 {pre : List Nat} {ov : List Nat → Bool} {st : Option (List Nat)} {crossings : Int32} {sets tried : Nat → Int32} {left : Nat} (k : Int32) (hl : left < 16) (hpl : pre.length = 4) (ho : ov [] = true) (hb : betL 4 st = true) (hSt : StG st crossings sets) (ht : ∀ j, j < 4 → tried j = nI (pre.getD j 0)) :
    ∃ crossings' sets', f_X1_takeOverD4 (nI left) k crossings sets tried = some (crossings', sets') ∧ StG (cF pre ov (prt 0 left) st) crossings' sets' := by
  unfold f_X1_takeOverD4
  by_cases c : left = 0
  · subst c
    rw [if_pos (show nI 0 = 0 from rfl), leaf_cF 0 ho (by rw [hpl]; exact hb)]
    have := leaf_st (pre := pre) (tried := tried) (sets := sets) (by omega) (by rw [hpl]; exact ht)
    rw [hpl] at this
    exact ⟨_, _, rfl, this⟩
  · rw [if_neg (nI_ne0 (by omega) (by omega)), jn1_d]
    have hp : prt 0 left = [] := if_neg c
    rw [hp]
    refine ⟨crossings, sets, ?_, hSt⟩
    refine lq1_inv (fun j y => y = nI (j + 1)) (fun z => z = some (crossings, sets)) left ?_ ?_ fu 0 1 (by omega) (by unfold fu; omega) rfl
    · rintro rec j y hj rfl
      refine Or.inl ⟨_, rfl, ?_⟩
      rw [if_neg (nI_nlt (by omega) (by omega)), shorter_if, nI_1]
      unfold f_X1_takeSetD4
      dsimp only [jn1]
      by_cases q1 : crossings = -1 ∨ ¬ crossings ≤ 5
      · rw [if_pos q1, if_neg (show ¬ (1 : Int32) = 0 by decide), bn1_some]
        by_cases q2 : nI (j + 1) &&& nI left = nI (j + 1)
        · rw [if_pos q2]
        · rw [if_neg q2]
      · rw [if_neg q1, if_pos rfl]
    · rintro rec y rfl
      rw [if_pos (nI_lt (by omega) (by omega))]
theorem c_set3 {law places broad horses blinds tideN cartN last : Int32} {pull str back moods tides carts t who cp w s3 : Nat → Int32} {P H C k left : Nat} {pre : List Nat} {st : Option (List Nat)}
    (hX : CX law places broad horses blinds tideN cartN last pull str back moods tides carts t who cp P H C) (hw : WB t w) (hE : WEQ t s3 w) (hk : k < 1000000003) (hl : left < 16) (hpl : pre.length = 3) {s : Nat} (hs : s ≤ left) (hb : betL 4 st = true)
    (crossings : Int32) (sets tried s4 : Nat → Int32) (crew mi oa : Int32) (hSt : StG st crossings sets) (ht : ∀ j, j < 3 → tried j = nI (pre.getD j 0)) :
    ∃ (crossings' : Int32) (sets' tried' s4' : Nat → Int32) (crew' mi' oa' : Int32), f_X1_takeSetD3 (nI s) (nI left) (nI k) crossings sets tried s3 s4 crew mi oa last who cp law broad horses tideN cartN str back tides carts = some (crossings', sets', tried', s4', crew', mi', oa') ∧ StG (cF pre (fun l => cOv P H C t l w k) ((prt 0 (left - s)).map (List.cons s)) st) crossings' sets' ∧ ∀ j, j < 3 → tried' j = nI (pre.getD j 0) := by
  obtain ⟨hB, e0, e3, hP, hH, hF, e4, hC, ec, hca⟩ := id hX
  obtain ⟨ht0, hs0, hSB, hPB, hCT, -⟩ := id hB
  have hcb := cwt_b (t := t) (s := s) (fun c hc => by rw [(hca c hc).1]; exact (hca c hc).2) C (Nat.le_refl _)
  have hld : 0 ≤ cwt t s C ∧ cwt t s C ≤ 240 := by omega
  obtain ⟨crew2, mi2, oa2, g1, g2⟩ := c_soon (x := -1) hB e0 e3 hP hH hF hw hE (push_b ht0 hld k) crew mi oa
  have hfe : bst P H (-1) 120 0 (rMin t w (tideS t k - cwt t s C)) (rEat t w (tideS t k - cwt t s C)) 343 = cB P H C t w k s := rfl
  rw [hfe] at g1 g2
  unfold f_X1_takeSetD3
  rw [e_ctide ht0 hCT (by omega), bn1_some, e_weight (by omega) hC ec (fun c hc => (hca c hc).1), bn1_some, jI_sub, g1, bn4_some]
  by_cases cb : (cB P H C t w k s).2.1 = 0
  · rw [if_pos cb, if_pos rfl, cF_lame (fun l => by show (!decide ((cB P H C t w k s).2.1 = 0) && _) = false; rw [cb]; rfl)]
    exact ⟨_, _, _, _, _, _, _, rfl, hSt, ht⟩
  · obtain ⟨h1, h2, h3, h4⟩ := g2.resolve_left (fun z => cb z.1)
    have hbi : (cB P H C t w k s).1 < 343 ∧ okN P H (cB P H C t w k s).1 ∧ (cB P H C t w k s).2.1 ≤ 120 := by
      rcases bst_is (P := P) (H := H) (x := -1) (W := 120) (ch := 0) (m := rMin t w (tideS t k - cwt t s C)) (e := rEat t w (tideS t k - cwt t s C)) 343 with h | ⟨q, q1, q2, q3⟩
      · exact absurd h cb
      · rw [← hfe, q3]; exact ⟨q1, q2.1, q2.2.2.2⟩
    have hwD : WB t s3 := fun h hh => by rw [hE h hh]; exact hw h hh
    obtain ⟨v, v1, v2⟩ := e_tire (v0 := s4) ht0 hs0 hwD hSB (hF.2 _ hbi.1 hbi.2.1) hbi.2.2
    have v3 : WEQ t v (tirS t (rowA (cB P H C t w k s).1) w (cB P H C t w k s).2.1) := fun h hh => by rw [v2 h hh, tirS_ext hE hh]
    have hw2 : WB t (tirS t (rowA (cB P H C t w k s).1) w (cB P H C t w k s).2.1) := tir_WB hs0 hw (a := rowA (cB P H C t w k s).1) (m := (cB P H C t w k s).2.1) (fun _ _ => rfl)
    have hov : (fun l => cOv P H C t (s :: l) w k) = fun l => cOv P H C t l (tirS t (rowA (cB P H C t w k s).1) w (cB P H C t w k s).2.1) (k + 1) := by
      funext l
      show (!decide ((cB P H C t w k s).2.1 = 0) && _) = _
      rw [decide_eq_false cb]; rfl
    have ht2 : ∀ j, j < 4 → upd tried 3 (nI s) j = nI ((pre ++ [s]).getD j 0) := fun j hj => by
      by_cases e : j = 3
      · subst e
        rw [upd_s]
        have := get_app2 (pre := pre) (s := s)
        rw [hpl] at this
        rw [this]
      · rw [upd_n e, get_app (by omega)]; exact ht j (by omega)
    obtain ⟨crossings', sets', q1, q2⟩ := c_over4 (pre := pre ++ [s]) (ov := fun l => cOv P H C t l (tirS t (rowA (cB P H C t w k s).1) w (cB P H C t w k s).2.1) (k + 1)) (left := left - s) (tried := upd tried 3 (nI s)) (nI (k + 1)) (by omega) (by rw [len_app]; omega) rfl hb hSt ht2
    rw [if_neg cb, if_neg (show ¬ (1 : Int32) = 0 by decide), h2, h3, hPB.1, v1, bn1_some, sub_nI hs, nI_1 k]
    have q1' : f_X1_takeOverD4 (nI (left - s)) (nI (k + 1)) crossings sets (upd tried (Int32.toNatClampNeg 3) (nI s)) = _ := q1
    rw [q1', bn2_some, cF_map, hov]
    exact ⟨_, _, _, _, _, _, _, rfl, q2, fun j hj => by
      have := ht2 j (by omega)
      rw [get_app (by omega)] at this; exact this⟩
theorem over3_eq (n2 n3 crossings crew mi oa last law broad horses tideN cartN : Int32) (sets tried s3 s4 who cp str back tides carts : Nat → Int32) : f_X1_takeOverD3 n2 n3 crossings sets tried s3 s4 crew mi oa last who cp law broad horses tideN cartN str back tides carts = if n2 = 0 then some (3, va_cpy tried sets 0 0 4, tried, s4, crew, mi, oa) else lq8 (B_X1_takeOverD3_1 n2 (fun a b c s4 d e f => some (a, b, c, s4, d, e, f)) n3 s3 last who cp law broad horses tideN cartN str back tides carts) fu 1 crossings sets tried s4 crew mi oa := by
  unfold f_X1_takeOverD3
  rw [jn7_e]
  rfl
theorem c_over3 {law places broad horses blinds tideN cartN last : Int32} {pull str back moods tides carts t who cp w s3 : Nat → Int32} {P H C k left : Nat} {pre : List Nat} {st : Option (List Nat)}
    (hX : CX law places broad horses blinds tideN cartN last pull str back moods tides carts t who cp P H C) (hw : WB t w) (hE : WEQ t s3 w) (hk : k < 1000000003) (hl : left < 16) (hpl : pre.length = 3) (hb : betL 3 st = true)
    (crossings : Int32) (sets tried s4 : Nat → Int32) (crew mi oa : Int32) (hSt : StG st crossings sets) (ht : ∀ j, j < 3 → tried j = nI (pre.getD j 0)) :
    ∃ (crossings' : Int32) (sets' tried' s4' : Nat → Int32) (crew' mi' oa' : Int32), f_X1_takeOverD3 (nI left) (nI k) crossings sets tried s3 s4 crew mi oa last who cp law broad horses tideN cartN str back tides carts = some (crossings', sets', tried', s4', crew', mi', oa') ∧ StG (cF pre (fun l => cOv P H C t l w k) (prt 1 left) st) crossings' sets' ∧ ∀ j, j < 3 → tried' j = nI (pre.getD j 0) := by
  rw [over3_eq]
  by_cases c : left = 0
  · subst c
    rw [if_pos (show nI 0 = 0 from rfl), leaf_cF 1 rfl (by rw [hpl]; exact hb)]
    have := leaf_st (pre := pre) (tried := tried) (sets := sets) (by omega) (by rw [hpl]; exact ht)
    rw [hpl] at this
    exact ⟨_, _, _, _, _, _, _, rfl, this, ht⟩
  · rw [if_neg (nI_ne0 (by omega) (by omega)), prt_s c]
    refine lq8_inv (fun j y cr se tr vs4 cw m o => y = nI (j + 1) ∧ StG (cF pre (fun l => cOv P H C t l w k) (prU (cG 0 left) j) st) cr se ∧ ∀ i, i < 3 → tr i = nI (pre.getD i 0)) (fun z => ∃ (crossings' : Int32) (sets' tried' s4' : Nat → Int32) (crew' mi' oa' : Int32), z = some (crossings', sets', tried', s4', crew', mi', oa') ∧ StG (cF pre (fun l => cOv P H C t l w k) (prU (cG 0 left) left) st) crossings' sets' ∧ ∀ j, j < 3 → tried' j = nI (pre.getD j 0)) left ?_ ?_ fu 0 1 crossings sets tried s4 crew mi oa (by omega) (by unfold fu; omega) ⟨rfl, hSt, ht⟩
    · rintro rec j y cr se tr vs4 cw m o hj ⟨rfl, hS, hT⟩
      left
      have hpu : prU (cG 0 left) (j + 1) = prU (cG 0 left) j ++ cG 0 left (j + 1) := rfl
      rw [hpu, cF_app]
      unfold B_X1_takeOverD3_1
      rw [if_neg (nI_nlt (by omega) (by omega)), shorter_if, nI_1]
      have hbet := StG_bet (n := 4) (by omega) hS
      by_cases q1 : cr = -1 ∨ ¬ cr ≤ 4
      · rw [if_pos q1, jn7_e, if_neg (show ¬ (1 : Int32) = 0 by decide)]
        by_cases q2 : (j + 1) &&& left = j + 1
        · rw [if_pos ((and16 (by omega) hl).mpr q2)]
          obtain ⟨cr2, se2, tr2, us4, cw2, m2, o2, z1, z2, z3⟩ := c_set3 (st := cF pre (fun l => cOv P H C t l w k) (prU (cG 0 left) j) st) hX hw hE hk hl hpl (s := j + 1) (by omega) (hbet.mpr q1) cr se tr vs4 cw m o hS hT
          rw [z1, bn7_some]
          have hg : cG 0 left (j + 1) = (prt 0 (left - (j + 1))).map (List.cons (j + 1)) := if_pos q2
          rw [hg]
          exact ⟨_, cr2, se2, tr2, us4, cw2, m2, o2, ⟨rfl, z2, z3⟩, rfl⟩
        · rw [if_neg (fun z => q2 ((and16 (by omega) hl).mp z))]
          have hg : cG 0 left (j + 1) = [] := if_neg q2
          rw [hg]
          exact ⟨_, cr, se, tr, vs4, cw, m, o, ⟨rfl, hS, hT⟩, rfl⟩
      · rw [if_neg q1, jn7_e, if_pos rfl]
        have hno : betL (pre.length + 1) (cF pre (fun l => cOv P H C t l w k) (prU (cG 0 left) j) st) = false := by
          rw [hpl]
          cases hq : betL 4 (cF pre (fun l => cOv P H C t l w k) (prU (cG 0 left) j) st) with
          | false => rfl
          | true => exact absurd (hbet.mp hq) q1
        have hsame : cF pre (fun l => cOv P H C t l w k) (cG 0 left (j + 1)) (cF pre (fun l => cOv P H C t l w k) (prU (cG 0 left) j) st) = cF pre (fun l => cOv P H C t l w k) (prU (cG 0 left) j) st := by
          by_cases q2 : (j + 1) &&& left = j + 1
          · have hg : cG 0 left (j + 1) = (prt 0 (left - (j + 1))).map (List.cons (j + 1)) := if_pos q2
            rw [hg]; exact cF_prune hno
          · have hg : cG 0 left (j + 1) = [] := if_neg q2
            rw [hg]; rfl
        rw [hsame]
        exact ⟨_, cr, se, tr, vs4, cw, m, o, ⟨rfl, hS, hT⟩, rfl⟩
    · rintro rec y cr se tr vs4 cw m o ⟨rfl, hS, hT⟩
      unfold B_X1_takeOverD3_1
      rw [if_pos (nI_lt (by omega) (by omega))]
      exact ⟨_, _, _, _, _, _, _, rfl, hS, hT⟩
theorem c_set2 {law places broad horses blinds tideN cartN last : Int32} {pull str back moods tides carts t who cp w s2 : Nat → Int32} {P H C k left : Nat} {pre : List Nat} {st : Option (List Nat)}
    (hX : CX law places broad horses blinds tideN cartN last pull str back moods tides carts t who cp P H C) (hw : WB t w) (hE : WEQ t s2 w) (hk : k < 1000000002) (hl : left < 16) (hpl : pre.length = 2) {s : Nat} (hs : s ≤ left) (hb : betL 3 st = true)
    (crossings : Int32) (sets tried s3 s4 : Nat → Int32) (crew mi oa : Int32) (hSt : StG st crossings sets) (ht : ∀ j, j < 2 → tried j = nI (pre.getD j 0)) :
    ∃ (crossings' : Int32) (sets' tried' s3' s4' : Nat → Int32) (crew' mi' oa' : Int32), f_X1_takeSetD2 (nI s) (nI left) (nI k) crossings sets tried s2 s3 s4 crew mi oa last who cp law broad horses tideN cartN str back tides carts = some (crossings', sets', tried', s3', s4', crew', mi', oa') ∧ StG (cF pre (fun l => cOv P H C t l w k) ((prt 1 (left - s)).map (List.cons s)) st) crossings' sets' ∧ ∀ j, j < 2 → tried' j = nI (pre.getD j 0) := by
  obtain ⟨hB, e0, e3, hP, hH, hF, e4, hC, ec, hca⟩ := id hX
  obtain ⟨ht0, hs0, hSB, hPB, hCT, -⟩ := id hB
  have hcb := cwt_b (t := t) (s := s) (fun c hc => by rw [(hca c hc).1]; exact (hca c hc).2) C (Nat.le_refl _)
  have hld : 0 ≤ cwt t s C ∧ cwt t s C ≤ 240 := by omega
  obtain ⟨crew2, mi2, oa2, g1, g2⟩ := c_soon (x := -1) hB e0 e3 hP hH hF hw hE (push_b ht0 hld k) crew mi oa
  have hfe : bst P H (-1) 120 0 (rMin t w (tideS t k - cwt t s C)) (rEat t w (tideS t k - cwt t s C)) 343 = cB P H C t w k s := rfl
  rw [hfe] at g1 g2
  unfold f_X1_takeSetD2
  rw [e_ctide ht0 hCT (by omega), bn1_some, e_weight (by omega) hC ec (fun c hc => (hca c hc).1), bn1_some, jI_sub, g1, bn4_some]
  by_cases cb : (cB P H C t w k s).2.1 = 0
  · rw [if_pos cb, if_pos rfl, cF_lame (fun l => by show (!decide ((cB P H C t w k s).2.1 = 0) && _) = false; rw [cb]; rfl)]
    exact ⟨_, _, _, _, _, _, _, _, rfl, hSt, ht⟩
  · obtain ⟨h1, h2, h3, h4⟩ := g2.resolve_left (fun z => cb z.1)
    have hbi : (cB P H C t w k s).1 < 343 ∧ okN P H (cB P H C t w k s).1 ∧ (cB P H C t w k s).2.1 ≤ 120 := by
      rcases bst_is (P := P) (H := H) (x := -1) (W := 120) (ch := 0) (m := rMin t w (tideS t k - cwt t s C)) (e := rEat t w (tideS t k - cwt t s C)) 343 with h | ⟨q, q1, q2, q3⟩
      · exact absurd h cb
      · rw [← hfe, q3]; exact ⟨q1, q2.1, q2.2.2.2⟩
    have hwD : WB t s2 := fun h hh => by rw [hE h hh]; exact hw h hh
    obtain ⟨v, v1, v2⟩ := e_tire (v0 := s3) ht0 hs0 hwD hSB (hF.2 _ hbi.1 hbi.2.1) hbi.2.2
    have v3 : WEQ t v (tirS t (rowA (cB P H C t w k s).1) w (cB P H C t w k s).2.1) := fun h hh => by rw [v2 h hh, tirS_ext hE hh]
    have hw2 : WB t (tirS t (rowA (cB P H C t w k s).1) w (cB P H C t w k s).2.1) := tir_WB hs0 hw (a := rowA (cB P H C t w k s).1) (m := (cB P H C t w k s).2.1) (fun _ _ => rfl)
    have hov : (fun l => cOv P H C t (s :: l) w k) = fun l => cOv P H C t l (tirS t (rowA (cB P H C t w k s).1) w (cB P H C t w k s).2.1) (k + 1) := by
      funext l
      show (!decide ((cB P H C t w k s).2.1 = 0) && _) = _
      rw [decide_eq_false cb]; rfl
    have ht2 : ∀ j, j < 3 → upd tried 2 (nI s) j = nI ((pre ++ [s]).getD j 0) := fun j hj => by
      by_cases e : j = 2
      · subst e
        rw [upd_s]
        have := get_app2 (pre := pre) (s := s)
        rw [hpl] at this
        rw [this]
      · rw [upd_n e, get_app (by omega)]; exact ht j (by omega)
    obtain ⟨crossings', sets', tried', s4', crew', mi', oa', q1, q2, q3⟩ := c_over3 (pre := pre ++ [s]) (st := st) (k := k + 1) (left := left - s) hX hw2 v3 (by omega) (by omega) (by rw [len_app]; omega) hb crossings sets (upd tried 2 (nI s)) s4 crew2 mi2 oa2 hSt ht2
    rw [if_neg cb, if_neg (show ¬ (1 : Int32) = 0 by decide), h2, h3, hPB.1, v1, bn1_some, sub_nI hs, nI_1 k, ← h2, ← h3]
    have q1' : f_X1_takeOverD3 (nI (left - s)) (nI (k + 1)) crossings sets (upd tried (Int32.toNatClampNeg 2) (nI s)) v s4 crew2 mi2 oa2 last who cp law broad horses tideN cartN str back tides carts = _ := q1
    rw [hPB.1] at q1'
    rw [q1', bn7_some, cF_map, hov]
    exact ⟨_, _, _, _, _, _, _, _, rfl, q2, fun j hj => by
      have := q3 j (by omega)
      rw [get_app (by omega)] at this; exact this⟩
theorem over2_eq (n2 n3 crossings crew mi oa last law broad horses tideN cartN : Int32) (sets tried s2 s3 s4 who cp str back tides carts : Nat → Int32) : f_X1_takeOverD2 n2 n3 crossings sets tried s2 s3 s4 crew mi oa last who cp law broad horses tideN cartN str back tides carts = if n2 = 0 then some (2, va_cpy tried sets 0 0 4, tried, s3, s4, crew, mi, oa) else lq9 (B_X1_takeOverD2_1 n2 (fun a b c s3 s4 d e f => some (a, b, c, s3, s4, d, e, f)) n3 s2 last who cp law broad horses tideN cartN str back tides carts) fu 1 crossings sets tried s3 s4 crew mi oa := by
  unfold f_X1_takeOverD2
  rw [jn8_e]
  rfl
theorem c_over2 {law places broad horses blinds tideN cartN last : Int32} {pull str back moods tides carts t who cp w s2 : Nat → Int32} {P H C k left : Nat} {pre : List Nat} {st : Option (List Nat)}
    (hX : CX law places broad horses blinds tideN cartN last pull str back moods tides carts t who cp P H C) (hw : WB t w) (hE : WEQ t s2 w) (hk : k < 1000000002) (hl : left < 16) (hpl : pre.length = 2) (hb : betL 2 st = true)
    (crossings : Int32) (sets tried s3 s4 : Nat → Int32) (crew mi oa : Int32) (hSt : StG st crossings sets) (ht : ∀ j, j < 2 → tried j = nI (pre.getD j 0)) :
    ∃ (crossings' : Int32) (sets' tried' s3' s4' : Nat → Int32) (crew' mi' oa' : Int32), f_X1_takeOverD2 (nI left) (nI k) crossings sets tried s2 s3 s4 crew mi oa last who cp law broad horses tideN cartN str back tides carts = some (crossings', sets', tried', s3', s4', crew', mi', oa') ∧ StG (cF pre (fun l => cOv P H C t l w k) (prt 2 left) st) crossings' sets' ∧ ∀ j, j < 2 → tried' j = nI (pre.getD j 0) := by
  rw [over2_eq]
  by_cases c : left = 0
  · subst c
    rw [if_pos (show nI 0 = 0 from rfl), leaf_cF 2 rfl (by rw [hpl]; exact hb)]
    have := leaf_st (pre := pre) (tried := tried) (sets := sets) (by omega) (by rw [hpl]; exact ht)
    rw [hpl] at this
    exact ⟨_, _, _, _, _, _, _, _, rfl, this, ht⟩
  · rw [if_neg (nI_ne0 (by omega) (by omega)), prt_s c]
    refine lq9_inv (fun j y cr se tr vs3 vs4 cw m o => y = nI (j + 1) ∧ StG (cF pre (fun l => cOv P H C t l w k) (prU (cG 1 left) j) st) cr se ∧ ∀ i, i < 2 → tr i = nI (pre.getD i 0)) (fun z => ∃ (crossings' : Int32) (sets' tried' s3' s4' : Nat → Int32) (crew' mi' oa' : Int32), z = some (crossings', sets', tried', s3', s4', crew', mi', oa') ∧ StG (cF pre (fun l => cOv P H C t l w k) (prU (cG 1 left) left) st) crossings' sets' ∧ ∀ j, j < 2 → tried' j = nI (pre.getD j 0)) left ?_ ?_ fu 0 1 crossings sets tried s3 s4 crew mi oa (by omega) (by unfold fu; omega) ⟨rfl, hSt, ht⟩
    · rintro rec j y cr se tr vs3 vs4 cw m o hj ⟨rfl, hS, hT⟩
      left
      have hpu : prU (cG 1 left) (j + 1) = prU (cG 1 left) j ++ cG 1 left (j + 1) := rfl
      rw [hpu, cF_app]
      unfold B_X1_takeOverD2_1
      rw [if_neg (nI_nlt (by omega) (by omega)), shorter_if, nI_1]
      have hbet := StG_bet (n := 3) (by omega) hS
      by_cases q1 : cr = -1 ∨ ¬ cr ≤ 3
      · rw [if_pos q1, jn8_e, if_neg (show ¬ (1 : Int32) = 0 by decide)]
        by_cases q2 : (j + 1) &&& left = j + 1
        · rw [if_pos ((and16 (by omega) hl).mpr q2)]
          obtain ⟨cr2, se2, tr2, us3, us4, cw2, m2, o2, z1, z2, z3⟩ := c_set2 (st := cF pre (fun l => cOv P H C t l w k) (prU (cG 1 left) j) st) hX hw hE hk hl hpl (s := j + 1) (by omega) (hbet.mpr q1) cr se tr vs3 vs4 cw m o hS hT
          rw [z1, bn8_some]
          have hg : cG 1 left (j + 1) = (prt 1 (left - (j + 1))).map (List.cons (j + 1)) := if_pos q2
          rw [hg]
          exact ⟨_, cr2, se2, tr2, us3, us4, cw2, m2, o2, ⟨rfl, z2, z3⟩, rfl⟩
        · rw [if_neg (fun z => q2 ((and16 (by omega) hl).mp z))]
          have hg : cG 1 left (j + 1) = [] := if_neg q2
          rw [hg]
          exact ⟨_, cr, se, tr, vs3, vs4, cw, m, o, ⟨rfl, hS, hT⟩, rfl⟩
      · rw [if_neg q1, jn8_e, if_pos rfl]
        have hno : betL (pre.length + 1) (cF pre (fun l => cOv P H C t l w k) (prU (cG 1 left) j) st) = false := by
          rw [hpl]
          cases hq : betL 3 (cF pre (fun l => cOv P H C t l w k) (prU (cG 1 left) j) st) with
          | false => rfl
          | true => exact absurd (hbet.mp hq) q1
        have hsame : cF pre (fun l => cOv P H C t l w k) (cG 1 left (j + 1)) (cF pre (fun l => cOv P H C t l w k) (prU (cG 1 left) j) st) = cF pre (fun l => cOv P H C t l w k) (prU (cG 1 left) j) st := by
          by_cases q2 : (j + 1) &&& left = j + 1
          · have hg : cG 1 left (j + 1) = (prt 1 (left - (j + 1))).map (List.cons (j + 1)) := if_pos q2
            rw [hg]; exact cF_prune hno
          · have hg : cG 1 left (j + 1) = [] := if_neg q2
            rw [hg]; rfl
        rw [hsame]
        exact ⟨_, cr, se, tr, vs3, vs4, cw, m, o, ⟨rfl, hS, hT⟩, rfl⟩
    · rintro rec y cr se tr vs3 vs4 cw m o ⟨rfl, hS, hT⟩
      unfold B_X1_takeOverD2_1
      rw [if_pos (nI_lt (by omega) (by omega))]
      exact ⟨_, _, _, _, _, _, _, _, rfl, hS, hT⟩
theorem c_set1 {law places broad horses blinds tideN cartN last : Int32} {pull str back moods tides carts t who cp w s1 : Nat → Int32} {P H C k left : Nat} {pre : List Nat} {st : Option (List Nat)}
    (hX : CX law places broad horses blinds tideN cartN last pull str back moods tides carts t who cp P H C) (hw : WB t w) (hE : WEQ t s1 w) (hk : k < 1000000001) (hl : left < 16) (hpl : pre.length = 1) {s : Nat} (hs : s ≤ left) (hb : betL 2 st = true)
    (crossings : Int32) (sets tried s2 s3 s4 : Nat → Int32) (crew mi oa : Int32) (hSt : StG st crossings sets) (ht : ∀ j, j < 1 → tried j = nI (pre.getD j 0)) :
    ∃ (crossings' : Int32) (sets' tried' s2' s3' s4' : Nat → Int32) (crew' mi' oa' : Int32), f_X1_takeSetD1 (nI s) (nI left) (nI k) crossings sets tried s1 s2 s3 s4 crew mi oa last who cp law broad horses tideN cartN str back tides carts = some (crossings', sets', tried', s2', s3', s4', crew', mi', oa') ∧ StG (cF pre (fun l => cOv P H C t l w k) ((prt 2 (left - s)).map (List.cons s)) st) crossings' sets' ∧ ∀ j, j < 1 → tried' j = nI (pre.getD j 0) := by
  obtain ⟨hB, e0, e3, hP, hH, hF, e4, hC, ec, hca⟩ := id hX
  obtain ⟨ht0, hs0, hSB, hPB, hCT, -⟩ := id hB
  have hcb := cwt_b (t := t) (s := s) (fun c hc => by rw [(hca c hc).1]; exact (hca c hc).2) C (Nat.le_refl _)
  have hld : 0 ≤ cwt t s C ∧ cwt t s C ≤ 240 := by omega
  obtain ⟨crew2, mi2, oa2, g1, g2⟩ := c_soon (x := -1) hB e0 e3 hP hH hF hw hE (push_b ht0 hld k) crew mi oa
  have hfe : bst P H (-1) 120 0 (rMin t w (tideS t k - cwt t s C)) (rEat t w (tideS t k - cwt t s C)) 343 = cB P H C t w k s := rfl
  rw [hfe] at g1 g2
  unfold f_X1_takeSetD1
  rw [e_ctide ht0 hCT (by omega), bn1_some, e_weight (by omega) hC ec (fun c hc => (hca c hc).1), bn1_some, jI_sub, g1, bn4_some]
  by_cases cb : (cB P H C t w k s).2.1 = 0
  · rw [if_pos cb, if_pos rfl, cF_lame (fun l => by show (!decide ((cB P H C t w k s).2.1 = 0) && _) = false; rw [cb]; rfl)]
    exact ⟨_, _, _, _, _, _, _, _, _, rfl, hSt, ht⟩
  · obtain ⟨h1, h2, h3, h4⟩ := g2.resolve_left (fun z => cb z.1)
    have hbi : (cB P H C t w k s).1 < 343 ∧ okN P H (cB P H C t w k s).1 ∧ (cB P H C t w k s).2.1 ≤ 120 := by
      rcases bst_is (P := P) (H := H) (x := -1) (W := 120) (ch := 0) (m := rMin t w (tideS t k - cwt t s C)) (e := rEat t w (tideS t k - cwt t s C)) 343 with h | ⟨q, q1, q2, q3⟩
      · exact absurd h cb
      · rw [← hfe, q3]; exact ⟨q1, q2.1, q2.2.2.2⟩
    have hwD : WB t s1 := fun h hh => by rw [hE h hh]; exact hw h hh
    obtain ⟨v, v1, v2⟩ := e_tire (v0 := s2) ht0 hs0 hwD hSB (hF.2 _ hbi.1 hbi.2.1) hbi.2.2
    have v3 : WEQ t v (tirS t (rowA (cB P H C t w k s).1) w (cB P H C t w k s).2.1) := fun h hh => by rw [v2 h hh, tirS_ext hE hh]
    have hw2 : WB t (tirS t (rowA (cB P H C t w k s).1) w (cB P H C t w k s).2.1) := tir_WB hs0 hw (a := rowA (cB P H C t w k s).1) (m := (cB P H C t w k s).2.1) (fun _ _ => rfl)
    have hov : (fun l => cOv P H C t (s :: l) w k) = fun l => cOv P H C t l (tirS t (rowA (cB P H C t w k s).1) w (cB P H C t w k s).2.1) (k + 1) := by
      funext l
      show (!decide ((cB P H C t w k s).2.1 = 0) && _) = _
      rw [decide_eq_false cb]; rfl
    have ht2 : ∀ j, j < 2 → upd tried 1 (nI s) j = nI ((pre ++ [s]).getD j 0) := fun j hj => by
      by_cases e : j = 1
      · subst e
        rw [upd_s]
        have := get_app2 (pre := pre) (s := s)
        rw [hpl] at this
        rw [this]
      · rw [upd_n e, get_app (by omega)]; exact ht j (by omega)
    obtain ⟨crossings', sets', tried', s3', s4', crew', mi', oa', q1, q2, q3⟩ := c_over2 (pre := pre ++ [s]) (st := st) (k := k + 1) (left := left - s) hX hw2 v3 (by omega) (by omega) (by rw [len_app]; omega) hb crossings sets (upd tried 1 (nI s)) s3 s4 crew2 mi2 oa2 hSt ht2
    rw [if_neg cb, if_neg (show ¬ (1 : Int32) = 0 by decide), h2, h3, hPB.1, v1, bn1_some, sub_nI hs, nI_1 k, ← h2, ← h3]
    have q1' : f_X1_takeOverD2 (nI (left - s)) (nI (k + 1)) crossings sets (upd tried (Int32.toNatClampNeg 1) (nI s)) v s3 s4 crew2 mi2 oa2 last who cp law broad horses tideN cartN str back tides carts = _ := q1
    rw [hPB.1] at q1'
    rw [q1', bn8_some, cF_map, hov]
    exact ⟨_, _, _, _, _, _, _, _, _, rfl, q2, fun j hj => by
      have := q3 j (by omega)
      rw [get_app (by omega)] at this; exact this⟩
theorem over1_eq (n2 n3 crossings crew mi oa last law broad horses tideN cartN : Int32) (sets tried s1 s2 s3 s4 who cp str back tides carts : Nat → Int32) : f_X1_takeOverD1 n2 n3 crossings sets tried s1 s2 s3 s4 crew mi oa last who cp law broad horses tideN cartN str back tides carts = if n2 = 0 then some (1, va_cpy tried sets 0 0 4, tried, s2, s3, s4, crew, mi, oa) else lq10 (B_X1_takeOverD1_1 n2 (fun a b c s2 s3 s4 d e f => some (a, b, c, s2, s3, s4, d, e, f)) n3 s1 last who cp law broad horses tideN cartN str back tides carts) fu 1 crossings sets tried s2 s3 s4 crew mi oa := by
  unfold f_X1_takeOverD1
  rw [jn9_e]
  rfl
theorem c_over1 {law places broad horses blinds tideN cartN last : Int32} {pull str back moods tides carts t who cp w s1 : Nat → Int32} {P H C k left : Nat} {pre : List Nat} {st : Option (List Nat)}
    (hX : CX law places broad horses blinds tideN cartN last pull str back moods tides carts t who cp P H C) (hw : WB t w) (hE : WEQ t s1 w) (hk : k < 1000000001) (hl : left < 16) (hpl : pre.length = 1) (hb : betL 1 st = true)
    (crossings : Int32) (sets tried s2 s3 s4 : Nat → Int32) (crew mi oa : Int32) (hSt : StG st crossings sets) (ht : ∀ j, j < 1 → tried j = nI (pre.getD j 0)) :
    ∃ (crossings' : Int32) (sets' tried' s2' s3' s4' : Nat → Int32) (crew' mi' oa' : Int32), f_X1_takeOverD1 (nI left) (nI k) crossings sets tried s1 s2 s3 s4 crew mi oa last who cp law broad horses tideN cartN str back tides carts = some (crossings', sets', tried', s2', s3', s4', crew', mi', oa') ∧ StG (cF pre (fun l => cOv P H C t l w k) (prt 3 left) st) crossings' sets' ∧ ∀ j, j < 1 → tried' j = nI (pre.getD j 0) := by
  rw [over1_eq]
  by_cases c : left = 0
  · subst c
    rw [if_pos (show nI 0 = 0 from rfl), leaf_cF 3 rfl (by rw [hpl]; exact hb)]
    have := leaf_st (pre := pre) (tried := tried) (sets := sets) (by omega) (by rw [hpl]; exact ht)
    rw [hpl] at this
    exact ⟨_, _, _, _, _, _, _, _, _, rfl, this, ht⟩
  · rw [if_neg (nI_ne0 (by omega) (by omega)), prt_s c]
    refine lq10_inv (fun j y cr se tr vs2 vs3 vs4 cw m o => y = nI (j + 1) ∧ StG (cF pre (fun l => cOv P H C t l w k) (prU (cG 2 left) j) st) cr se ∧ ∀ i, i < 1 → tr i = nI (pre.getD i 0)) (fun z => ∃ (crossings' : Int32) (sets' tried' s2' s3' s4' : Nat → Int32) (crew' mi' oa' : Int32), z = some (crossings', sets', tried', s2', s3', s4', crew', mi', oa') ∧ StG (cF pre (fun l => cOv P H C t l w k) (prU (cG 2 left) left) st) crossings' sets' ∧ ∀ j, j < 1 → tried' j = nI (pre.getD j 0)) left ?_ ?_ fu 0 1 crossings sets tried s2 s3 s4 crew mi oa (by omega) (by unfold fu; omega) ⟨rfl, hSt, ht⟩
    · rintro rec j y cr se tr vs2 vs3 vs4 cw m o hj ⟨rfl, hS, hT⟩
      left
      have hpu : prU (cG 2 left) (j + 1) = prU (cG 2 left) j ++ cG 2 left (j + 1) := rfl
      rw [hpu, cF_app]
      unfold B_X1_takeOverD1_1
      rw [if_neg (nI_nlt (by omega) (by omega)), shorter_if, nI_1]
      have hbet := StG_bet (n := 2) (by omega) hS
      by_cases q1 : cr = -1 ∨ ¬ cr ≤ 2
      · rw [if_pos q1, jn9_e, if_neg (show ¬ (1 : Int32) = 0 by decide)]
        by_cases q2 : (j + 1) &&& left = j + 1
        · rw [if_pos ((and16 (by omega) hl).mpr q2)]
          obtain ⟨cr2, se2, tr2, us2, us3, us4, cw2, m2, o2, z1, z2, z3⟩ := c_set1 (st := cF pre (fun l => cOv P H C t l w k) (prU (cG 2 left) j) st) hX hw hE hk hl hpl (s := j + 1) (by omega) (hbet.mpr q1) cr se tr vs2 vs3 vs4 cw m o hS hT
          rw [z1, bn9_some]
          have hg : cG 2 left (j + 1) = (prt 2 (left - (j + 1))).map (List.cons (j + 1)) := if_pos q2
          rw [hg]
          exact ⟨_, cr2, se2, tr2, us2, us3, us4, cw2, m2, o2, ⟨rfl, z2, z3⟩, rfl⟩
        · rw [if_neg (fun z => q2 ((and16 (by omega) hl).mp z))]
          have hg : cG 2 left (j + 1) = [] := if_neg q2
          rw [hg]
          exact ⟨_, cr, se, tr, vs2, vs3, vs4, cw, m, o, ⟨rfl, hS, hT⟩, rfl⟩
      · rw [if_neg q1, jn9_e, if_pos rfl]
        have hno : betL (pre.length + 1) (cF pre (fun l => cOv P H C t l w k) (prU (cG 2 left) j) st) = false := by
          rw [hpl]
          cases hq : betL 2 (cF pre (fun l => cOv P H C t l w k) (prU (cG 2 left) j) st) with
          | false => rfl
          | true => exact absurd (hbet.mp hq) q1
        have hsame : cF pre (fun l => cOv P H C t l w k) (cG 2 left (j + 1)) (cF pre (fun l => cOv P H C t l w k) (prU (cG 2 left) j) st) = cF pre (fun l => cOv P H C t l w k) (prU (cG 2 left) j) st := by
          by_cases q2 : (j + 1) &&& left = j + 1
          · have hg : cG 2 left (j + 1) = (prt 2 (left - (j + 1))).map (List.cons (j + 1)) := if_pos q2
            rw [hg]; exact cF_prune hno
          · have hg : cG 2 left (j + 1) = [] := if_neg q2
            rw [hg]; rfl
        rw [hsame]
        exact ⟨_, cr, se, tr, vs2, vs3, vs4, cw, m, o, ⟨rfl, hS, hT⟩, rfl⟩
    · rintro rec y cr se tr vs2 vs3 vs4 cw m o ⟨rfl, hS, hT⟩
      unfold B_X1_takeOverD1_1
      rw [if_pos (nI_lt (by omega) (by omega))]
      exact ⟨_, _, _, _, _, _, _, _, _, rfl, hS, hT⟩
theorem c_set0 {law places broad horses blinds tideN cartN last : Int32} {pull str back moods tides carts t who cp w s0 : Nat → Int32} {P H C k left : Nat} {pre : List Nat} {st : Option (List Nat)}
    (hX : CX law places broad horses blinds tideN cartN last pull str back moods tides carts t who cp P H C) (hw : WB t w) (hE : WEQ t s0 w) (hk : k < 1000000000) (hl : left < 16) (hpl : pre.length = 0) {s : Nat} (hs : s ≤ left) (hb : betL 1 st = true)
    (crossings : Int32) (sets tried s1 s2 s3 s4 : Nat → Int32) (crew mi oa : Int32) (hSt : StG st crossings sets) (ht : ∀ j, j < 0 → tried j = nI (pre.getD j 0)) :
    ∃ (crossings' : Int32) (sets' tried' s1' s2' s3' s4' : Nat → Int32) (crew' mi' oa' : Int32), f_X1_takeSetD0 (nI s) (nI left) (nI k) crossings sets tried s0 s1 s2 s3 s4 crew mi oa last who cp law broad horses tideN cartN str back tides carts = some (crossings', sets', tried', s1', s2', s3', s4', crew', mi', oa') ∧ StG (cF pre (fun l => cOv P H C t l w k) ((prt 3 (left - s)).map (List.cons s)) st) crossings' sets' ∧ ∀ j, j < 0 → tried' j = nI (pre.getD j 0) := by
  obtain ⟨hB, e0, e3, hP, hH, hF, e4, hC, ec, hca⟩ := id hX
  obtain ⟨ht0, hs0, hSB, hPB, hCT, -⟩ := id hB
  have hcb := cwt_b (t := t) (s := s) (fun c hc => by rw [(hca c hc).1]; exact (hca c hc).2) C (Nat.le_refl _)
  have hld : 0 ≤ cwt t s C ∧ cwt t s C ≤ 240 := by omega
  obtain ⟨crew2, mi2, oa2, g1, g2⟩ := c_soon (x := -1) hB e0 e3 hP hH hF hw hE (push_b ht0 hld k) crew mi oa
  have hfe : bst P H (-1) 120 0 (rMin t w (tideS t k - cwt t s C)) (rEat t w (tideS t k - cwt t s C)) 343 = cB P H C t w k s := rfl
  rw [hfe] at g1 g2
  unfold f_X1_takeSetD0
  rw [e_ctide ht0 hCT (by omega), bn1_some, e_weight (by omega) hC ec (fun c hc => (hca c hc).1), bn1_some, jI_sub, g1, bn4_some]
  by_cases cb : (cB P H C t w k s).2.1 = 0
  · rw [if_pos cb, if_pos rfl, cF_lame (fun l => by show (!decide ((cB P H C t w k s).2.1 = 0) && _) = false; rw [cb]; rfl)]
    exact ⟨_, _, _, _, _, _, _, _, _, _, rfl, hSt, ht⟩
  · obtain ⟨h1, h2, h3, h4⟩ := g2.resolve_left (fun z => cb z.1)
    have hbi : (cB P H C t w k s).1 < 343 ∧ okN P H (cB P H C t w k s).1 ∧ (cB P H C t w k s).2.1 ≤ 120 := by
      rcases bst_is (P := P) (H := H) (x := -1) (W := 120) (ch := 0) (m := rMin t w (tideS t k - cwt t s C)) (e := rEat t w (tideS t k - cwt t s C)) 343 with h | ⟨q, q1, q2, q3⟩
      · exact absurd h cb
      · rw [← hfe, q3]; exact ⟨q1, q2.1, q2.2.2.2⟩
    have hwD : WB t s0 := fun h hh => by rw [hE h hh]; exact hw h hh
    obtain ⟨v, v1, v2⟩ := e_tire (v0 := s1) ht0 hs0 hwD hSB (hF.2 _ hbi.1 hbi.2.1) hbi.2.2
    have v3 : WEQ t v (tirS t (rowA (cB P H C t w k s).1) w (cB P H C t w k s).2.1) := fun h hh => by rw [v2 h hh, tirS_ext hE hh]
    have hw2 : WB t (tirS t (rowA (cB P H C t w k s).1) w (cB P H C t w k s).2.1) := tir_WB hs0 hw (a := rowA (cB P H C t w k s).1) (m := (cB P H C t w k s).2.1) (fun _ _ => rfl)
    have hov : (fun l => cOv P H C t (s :: l) w k) = fun l => cOv P H C t l (tirS t (rowA (cB P H C t w k s).1) w (cB P H C t w k s).2.1) (k + 1) := by
      funext l
      show (!decide ((cB P H C t w k s).2.1 = 0) && _) = _
      rw [decide_eq_false cb]; rfl
    have ht2 : ∀ j, j < 1 → upd tried 0 (nI s) j = nI ((pre ++ [s]).getD j 0) := fun j hj => by
      by_cases e : j = 0
      · subst e
        rw [upd_s]
        have := get_app2 (pre := pre) (s := s)
        rw [hpl] at this
        rw [this]
      · rw [upd_n e, get_app (by omega)]; exact ht j (by omega)
    obtain ⟨crossings', sets', tried', s2', s3', s4', crew', mi', oa', q1, q2, q3⟩ := c_over1 (pre := pre ++ [s]) (st := st) (k := k + 1) (left := left - s) hX hw2 v3 (by omega) (by omega) (by rw [len_app]; omega) hb crossings sets (upd tried 0 (nI s)) s2 s3 s4 crew2 mi2 oa2 hSt ht2
    rw [if_neg cb, if_neg (show ¬ (1 : Int32) = 0 by decide), h2, h3, hPB.1, v1, bn1_some, sub_nI hs, nI_1 k, ← h2, ← h3]
    have q1' : f_X1_takeOverD1 (nI (left - s)) (nI (k + 1)) crossings sets (upd tried (Int32.toNatClampNeg 0) (nI s)) v s2 s3 s4 crew2 mi2 oa2 last who cp law broad horses tideN cartN str back tides carts = _ := q1
    rw [hPB.1] at q1'
    rw [q1', bn9_some, cF_map, hov]
    exact ⟨_, _, _, _, _, _, _, _, _, _, rfl, q2, fun j hj => by
      have := q3 j (by omega)
      rw [get_app (by omega)] at this; exact this⟩
theorem over0_eq (n2 n3 crossings crew mi oa last law broad horses tideN cartN : Int32) (sets tried s0 s1 s2 s3 s4 who cp str back tides carts : Nat → Int32) : f_X1_takeOverD0 n2 n3 crossings sets tried s0 s1 s2 s3 s4 crew mi oa last who cp law broad horses tideN cartN str back tides carts = if n2 = 0 then some (0, va_cpy tried sets 0 0 4, tried, s1, s2, s3, s4, crew, mi, oa) else lq11 (B_X1_takeOverD0_1 n2 (fun a b c s1 s2 s3 s4 d e f => some (a, b, c, s1, s2, s3, s4, d, e, f)) n3 s0 last who cp law broad horses tideN cartN str back tides carts) fu 1 crossings sets tried s1 s2 s3 s4 crew mi oa := by
  unfold f_X1_takeOverD0
  rw [jn10_e]
  rfl
theorem c_over0 {law places broad horses blinds tideN cartN last : Int32} {pull str back moods tides carts t who cp w s0 : Nat → Int32} {P H C k left : Nat} {pre : List Nat} {st : Option (List Nat)}
    (hX : CX law places broad horses blinds tideN cartN last pull str back moods tides carts t who cp P H C) (hw : WB t w) (hE : WEQ t s0 w) (hk : k < 1000000000) (hl : left < 16) (hpl : pre.length = 0) (hb : betL 0 st = true)
    (crossings : Int32) (sets tried s1 s2 s3 s4 : Nat → Int32) (crew mi oa : Int32) (hSt : StG st crossings sets) (ht : ∀ j, j < 0 → tried j = nI (pre.getD j 0)) :
    ∃ (crossings' : Int32) (sets' tried' s1' s2' s3' s4' : Nat → Int32) (crew' mi' oa' : Int32), f_X1_takeOverD0 (nI left) (nI k) crossings sets tried s0 s1 s2 s3 s4 crew mi oa last who cp law broad horses tideN cartN str back tides carts = some (crossings', sets', tried', s1', s2', s3', s4', crew', mi', oa') ∧ StG (cF pre (fun l => cOv P H C t l w k) (prt 4 left) st) crossings' sets' ∧ ∀ j, j < 0 → tried' j = nI (pre.getD j 0) := by
  rw [over0_eq]
  by_cases c : left = 0
  · subst c
    rw [if_pos (show nI 0 = 0 from rfl), leaf_cF 4 rfl (by rw [hpl]; exact hb)]
    have := leaf_st (pre := pre) (tried := tried) (sets := sets) (by omega) (by rw [hpl]; exact ht)
    rw [hpl] at this
    exact ⟨_, _, _, _, _, _, _, _, _, _, rfl, this, ht⟩
  · rw [if_neg (nI_ne0 (by omega) (by omega)), prt_s c]
    refine lq11_inv (fun j y cr se tr vs1 vs2 vs3 vs4 cw m o => y = nI (j + 1) ∧ StG (cF pre (fun l => cOv P H C t l w k) (prU (cG 3 left) j) st) cr se ∧ ∀ i, i < 0 → tr i = nI (pre.getD i 0)) (fun z => ∃ (crossings' : Int32) (sets' tried' s1' s2' s3' s4' : Nat → Int32) (crew' mi' oa' : Int32), z = some (crossings', sets', tried', s1', s2', s3', s4', crew', mi', oa') ∧ StG (cF pre (fun l => cOv P H C t l w k) (prU (cG 3 left) left) st) crossings' sets' ∧ ∀ j, j < 0 → tried' j = nI (pre.getD j 0)) left ?_ ?_ fu 0 1 crossings sets tried s1 s2 s3 s4 crew mi oa (by omega) (by unfold fu; omega) ⟨rfl, hSt, ht⟩
    · rintro rec j y cr se tr vs1 vs2 vs3 vs4 cw m o hj ⟨rfl, hS, hT⟩
      left
      have hpu : prU (cG 3 left) (j + 1) = prU (cG 3 left) j ++ cG 3 left (j + 1) := rfl
      rw [hpu, cF_app]
      unfold B_X1_takeOverD0_1
      rw [if_neg (nI_nlt (by omega) (by omega)), shorter_if, nI_1]
      have hbet := StG_bet (n := 1) (by omega) hS
      by_cases q1 : cr = -1 ∨ ¬ cr ≤ 1
      · rw [if_pos q1, jn10_e, if_neg (show ¬ (1 : Int32) = 0 by decide)]
        by_cases q2 : (j + 1) &&& left = j + 1
        · rw [if_pos ((and16 (by omega) hl).mpr q2)]
          obtain ⟨cr2, se2, tr2, us1, us2, us3, us4, cw2, m2, o2, z1, z2, z3⟩ := c_set0 (st := cF pre (fun l => cOv P H C t l w k) (prU (cG 3 left) j) st) hX hw hE hk hl hpl (s := j + 1) (by omega) (hbet.mpr q1) cr se tr vs1 vs2 vs3 vs4 cw m o hS hT
          rw [z1, bn10_some]
          have hg : cG 3 left (j + 1) = (prt 3 (left - (j + 1))).map (List.cons (j + 1)) := if_pos q2
          rw [hg]
          exact ⟨_, cr2, se2, tr2, us1, us2, us3, us4, cw2, m2, o2, ⟨rfl, z2, z3⟩, rfl⟩
        · rw [if_neg (fun z => q2 ((and16 (by omega) hl).mp z))]
          have hg : cG 3 left (j + 1) = [] := if_neg q2
          rw [hg]
          exact ⟨_, cr, se, tr, vs1, vs2, vs3, vs4, cw, m, o, ⟨rfl, hS, hT⟩, rfl⟩
      · rw [if_neg q1, jn10_e, if_pos rfl]
        have hno : betL (pre.length + 1) (cF pre (fun l => cOv P H C t l w k) (prU (cG 3 left) j) st) = false := by
          rw [hpl]
          cases hq : betL 1 (cF pre (fun l => cOv P H C t l w k) (prU (cG 3 left) j) st) with
          | false => rfl
          | true => exact absurd (hbet.mp hq) q1
        have hsame : cF pre (fun l => cOv P H C t l w k) (cG 3 left (j + 1)) (cF pre (fun l => cOv P H C t l w k) (prU (cG 3 left) j) st) = cF pre (fun l => cOv P H C t l w k) (prU (cG 3 left) j) st := by
          by_cases q2 : (j + 1) &&& left = j + 1
          · have hg : cG 3 left (j + 1) = (prt 3 (left - (j + 1))).map (List.cons (j + 1)) := if_pos q2
            rw [hg]; exact cF_prune hno
          · have hg : cG 3 left (j + 1) = [] := if_neg q2
            rw [hg]; rfl
        rw [hsame]
        exact ⟨_, cr, se, tr, vs1, vs2, vs3, vs4, cw, m, o, ⟨rfl, hS, hT⟩, rfl⟩
    · rintro rec y cr se tr vs1 vs2 vs3 vs4 cw m o ⟨rfl, hS, hT⟩
      unfold B_X1_takeOverD0_1
      rw [if_pos (nI_lt (by omega) (by omega))]
      exact ⟨_, _, _, _, _, _, _, _, _, _, rfl, hS, hT⟩
