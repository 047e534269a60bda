/-! PURE SIDE: CARTS: rows of sets, the first of the shortest -/
/-- W of the carts of a set -/
def cwt (t : Nat → Int32) (s : Nat) : Nat → Int
  | 0 => 0
  | c + 1 => cwt t s c + if s.testBit c then (t (80 + c)).toInt else 0
/-- SOONEST with the carts of a set -/
def cB (P H C : Nat) (t w : Nat → Int32) (k s : Nat) : Nat × Nat × Int := bst P H (-1) 120 0 (rMin t w (tideS t k - cwt t s C)) (rEat t w (tideS t k - cwt t s C)) 343
/-- a row of sets goes over -/
def cOv (P H C : Nat) (t : Nat → Int32) : List Nat → (Nat → Int32) → Nat → Bool
  | [], _, _ => true
  | s :: l, w, k => !decide ((cB P H C t w k s).2.1 = 0) && cOv P H C t l (tirS t (rowA (cB P H C t w k s).1) w (cB P H C t w k s).2.1) (k + 1)
def prU (g : Nat → List (List Nat)) : Nat → List (List Nat)
  | 0 => []
  | n + 1 => prU g n ++ g (n + 1)
/-- all rows of at most d sets that make up left, in their order -/
def prt : Nat → Nat → List (List Nat)
  | 0, left => if left = 0 then [[]] else []
  | d + 1, left => if left = 0 then [[]] else prU (fun s => if s &&& left = s then (prt d (left - s)).map (List.cons s) else []) left
def betL (n : Nat) : Option (List Nat) → Bool
  | none => true
  | some r => decide (n < r.length)
/-- the class's way through the rows -/
def cF (pre : List Nat) (ov : List Nat → Bool) : List (List Nat) → Option (List Nat) → Option (List Nat)
  | [], st => st
  | l :: ls, st => cF pre ov ls (if (ov l && betL (pre.length + l.length) st) = true then some (pre ++ l) else st)
theorem cF_app {pre : List Nat} {ov : List Nat → Bool} : ∀ (L M : List (List Nat)) (st : Option (List Nat)), cF pre ov (L ++ M) st = cF pre ov M (cF pre ov L st)
  | [], _, _ => rfl
  | l :: ls, M, st => cF_app ls M _
theorem cF_map {pre : List Nat} {ov : List Nat → Bool} {s : Nat} : ∀ (L : List (List Nat)) (st : Option (List Nat)), cF pre ov (L.map (List.cons s)) st = cF (pre ++ [s]) (fun l => ov (s :: l)) L st
  | [], _ => rfl
  | l :: ls, st => by
    show cF pre ov (ls.map (List.cons s)) (if (ov (s :: l) && betL (pre.length + (s :: l).length) st) = true then some (pre ++ s :: l) else st) = cF (pre ++ [s]) (fun l => ov (s :: l)) ls (if (ov (s :: l) && betL ((pre ++ [s]).length + l.length) st) = true then some (pre ++ [s] ++ l) else st)
    have e1 : pre.length + (s :: l).length = (pre ++ [s]).length + l.length := by
      rw [List.length_append, List.length_cons, List.length_cons, List.length_nil]; omega
    have e2 : pre ++ s :: l = pre ++ [s] ++ l := by rw [List.append_assoc]; rfl
    rw [e1, e2]
    exact cF_map ls _
theorem cF_no {pre : List Nat} {ov : List Nat → Bool} : ∀ (L : List (List Nat)) (st : Option (List Nat)), (∀ l, l ∈ L → (ov l && betL (pre.length + l.length) st) = false) → cF pre ov L st = st
  | [], _, _ => rfl
  | l :: ls, st, h => by
    show cF pre ov ls (if (ov l && betL (pre.length + l.length) st) = true then some (pre ++ l) else st) = st
    rw [h l (List.mem_cons_self ..), if_neg (by decide)]
    exact cF_no ls st (fun m hm => h m (List.mem_cons_of_mem _ hm))
theorem betL_mono {n m : Nat} {st : Option (List Nat)} (h : n ≤ m) (hb : betL n st = false) : betL m st = false := by
  cases st with
  | none => exact absurd (show true = false from hb) (by decide)
  | some r =>
    have h1 : decide (n < r.length) = false := hb
    show decide (m < r.length) = false
    rw [decide_eq_false_iff_not] at *
    omega
theorem cF_prune {pre : List Nat} {ov : List Nat → Bool} {s : Nat} {L : List (List Nat)} {st : Option (List Nat)} (h : betL (pre.length + 1) st = false) : cF pre ov (L.map (List.cons s)) st = st := by
  refine cF_no _ _ (fun l hl => ?_)
  obtain ⟨m, -, rfl⟩ := List.mem_map.mp hl
  rw [betL_mono (m := pre.length + (s :: m).length) (by rw [List.length_cons]; omega) h, Bool.and_false]
theorem cF_lame {pre : List Nat} {ov : List Nat → Bool} {s : Nat} {L : List (List Nat)} {st : Option (List Nat)} (h : ∀ l, ov (s :: l) = false) : cF pre ov (L.map (List.cons s)) st = st := by
  refine cF_no _ _ (fun l hl => ?_)
  obtain ⟨m, -, rfl⟩ := List.mem_map.mp hl
  rw [h m, Bool.false_and]
/-- which comes first -/
def lx : List Nat → List Nat → Bool
  | a :: l, b :: m => if a = b then lx l m else decide (a < b)
  | _, _ => false
theorem lx_irr : ∀ l : List Nat, lx l l = false
  | [] => rfl
  | a :: l => by
    show (if a = a then lx l l else _) = false
    rw [if_pos rfl]; exact lx_irr l
theorem lx_trans : ∀ l m n : List Nat, lx l m = true → lx m n = true → lx l n = true
  | [], _, _, h, _ => absurd h (by simp [lx])
  | _ :: _, [], _, h, _ => absurd h (by simp [lx])
  | _ :: _, _ :: _, [], _, h => absurd h (by simp [lx])
  | a :: l, b :: m, c :: n, h1, h2 => by
    have h1' : (if a = b then lx l m else decide (a < b)) = true := h1
    have h2' : (if b = c then lx m n else decide (b < c)) = true := h2
    show (if a = c then lx l n else decide (a < c)) = true
    by_cases q1 : a = b
    · rw [if_pos q1] at h1'
      by_cases q2 : b = c
      · rw [if_pos q2] at h2'
        rw [if_pos (q1.trans q2)]; exact lx_trans l m n h1' h2'
      · rw [if_neg q2] at h2'
        rw [if_neg (by rw [q1]; exact q2), q1]; exact h2'
    · rw [if_neg q1] at h1'
      have h1a := of_decide_eq_true h1'
      by_cases q2 : b = c
      · rw [if_neg (by rw [← q2]; exact q1), ← q2]; exact h1'
      · rw [if_neg q2] at h2'
        have h2a := of_decide_eq_true h2'
        rw [if_neg (by omega), decide_eq_true_iff]; omega
/-- sets of a way: where each cart goes by its figure -/
def trN (n way : Nat) : Nat → Nat → Nat
  | 0, _ => 0
  | c + 1, k => trN n way c k + if (way / n ^ c) % n = k then 2 ^ c else 0
def wRow (C n way : Nat) : List Nat := (List.range n).map (trN n way C)
def isR (C n way : Nat) : Bool := (List.range n).all (fun k => !decide (trN n way C k = 0))
/-- the reference's way through the ways -/
def fM (C n : Nat) (ov : List Nat → Bool) : Nat → Option (List Nat)
  | 0 => none
  | m + 1 => if isR C n m && (match fM C n ov m with | none => true | some r => lx (wRow C n m) r) && ov (wRow C n m) then some (wRow C n m) else fM C n ov m
def chk1 (C : Nat) : Bool := (List.range C).all (fun n0 => (List.range ((n0 + 1) ^ C)).all (fun way => !isR C (n0 + 1) way || (prt 4 (2 ^ C - 1)).contains (wRow C (n0 + 1) way)))
def chk2 (C : Nat) : Bool := (prt 4 (2 ^ C - 1)).all (fun l => decide (C = 0) || (decide (0 < l.length) && decide (l.length ≤ C) && (List.range (l.length ^ C)).any (fun way => isR C l.length way && decide (wRow C l.length way = l))))
def srt : List (List Nat) → Bool
  | [] => true
  | l :: ls => ls.all (fun m => decide (l.length ≠ m.length) || lx l m) && srt ls
theorem chk1_ok : chk1 0 = true ∧ chk1 1 = true ∧ chk1 2 = true ∧ chk1 3 = true ∧ chk1 4 = true := by decide +kernel
theorem chk2_ok : chk2 0 = true ∧ chk2 1 = true ∧ chk2 2 = true ∧ chk2 3 = true ∧ chk2 4 = true := by decide +kernel
theorem srt_ok : srt (prt 4 0) = true ∧ srt (prt 4 1) = true ∧ srt (prt 4 3) = true ∧ srt (prt 4 7) = true ∧ srt (prt 4 15) = true := by decide +kernel
