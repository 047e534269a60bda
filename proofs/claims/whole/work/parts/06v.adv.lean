/-! PURE SIDE: THE TEXT: words; the reference's advances -/
def rlc (f : Nat → Nat) : Nat → List Nat
  | 0 => []
  | j + 1 => f j :: rlc f j
theorem rlc_eq {f g : Nat → Nat} : ∀ {n m : Nat}, rlc f n = rlc g m ↔ n = m ∧ ∀ k, k < n → f k = g k
  | 0, 0 => ⟨fun _ => ⟨rfl, fun k h => absurd h (by omega)⟩, fun _ => rfl⟩
  | 0, m + 1 => ⟨fun h => absurd h (by simp [rlc]), fun h => absurd h.1 (by omega)⟩
  | n + 1, 0 => ⟨fun h => absurd h (by simp [rlc]), fun h => absurd h.1 (by omega)⟩
  | n + 1, m + 1 => by
    show f n :: rlc f n = g m :: rlc g m ↔ _
    rw [List.cons.injEq, rlc_eq (n := n) (m := m)]
    constructor
    · rintro ⟨a, b, c⟩
      subst b
      exact ⟨rfl, fun k hk => by by_cases e : k = n; subst e; exact a; exact c k (by omega)⟩
    · rintro ⟨a, c⟩
      have a : n = m := by omega
      subst a
      exact ⟨c n (by omega), rfl, fun k hk => c k (by omega)⟩
theorem rlc_len {f : Nat → Nat} : ∀ n, (rlc f n).length = n
  | 0 => rfl
  | n + 1 => by show (rlc f n).length + 1 = n + 1; rw [rlc_len n]
/-- the letters of a word, the last first -/
def rl (T : Nat → Int32) (m j : Nat) : List Nat := rlc (fun k => (T (m + k)).toNatClampNeg) j
def wR (i : Nat) : List Nat := rlc (fun k => (sch i (nI k)).toNatClampNeg) (lenS.getD i 0)
theorem sch_b {i k : Nat} (hi : i < 9) (hk : k < lenS.getD i 0) : 97 ≤ (sch i (nI k)).toInt ∧ (sch i (nI k)).toInt ≤ 122 := by
  have h : ∀ i : Fin 9, ∀ k : Fin 7, k.val < lenS.getD i.val 0 → 97 ≤ (sch i.val (nI k.val)).toInt ∧ (sch i.val (nI k.val)).toInt ≤ 122 := by decide +kernel
  have h7 : ∀ i : Fin 9, lenS.getD i.val 0 ≤ 7 := by decide +kernel
  have := h7 ⟨i, hi⟩
  exact h ⟨i, hi⟩ ⟨k, by have h8 : lenS.getD i 0 ≤ 7 := this; omega⟩ hk
theorem len_b {i : Nat} (hi : i < 9) : 1 ≤ lenS.getD i 0 ∧ lenS.getD i 0 ≤ 7 := by
  have h7 : ∀ i : Fin 9, 1 ≤ lenS.getD i.val 0 ∧ lenS.getD i.val 0 ≤ 7 := by decide +kernel
  exact h7 ⟨i, hi⟩
theorem cl_inj {x y : Int32} (hx : 0 ≤ x.toInt) (hy : 0 ≤ y.toInt) : x.toNatClampNeg = y.toNatClampNeg ↔ x = y := by
  rw [i_cl, i_cl, i_eq]; omega
theorem e_isWord {T : Nat → Int32} {i m e : Nat} (hi : i < 9) (hm : m ≤ e) (he : e ≤ 500) (hT : ∀ k, m ≤ k → k < e → 0 ≤ (T k).toInt) : f_X4_isWord i (nI m) (nI e) T = some (if rl T m (e - m) = wR i then 1 else 0) := by
  have hlen := len_b hi
  unfold f_X4_isWord
  have hs : slen i = nI (lenS.getD i 0) := rfl
  have hd : (nI e - nI m = slen i) ↔ e - m = lenS.getD i 0 := by
    rw [sub_nI hm, hs, nI_eq (by omega) (by omega)]
  by_cases c : e - m = lenS.getD i 0
  · rw [if_pos (hd.mpr c), if_neg (nI_pos (by omega)), if_pos (show nI e ≤ 500 from nI_le (b := 500) he (by decide)), jn1_d]
    refine lq1_inv (fun j y => y = nI j ∧ ∀ k, k < j → T (m + k) = sch i (nI k)) (fun z => z = some (if rl T m (e - m) = wR i then (1 : Int32) else 0)) (lenS.getD i 0) ?_ ?_ fu 0 0 (by omega) (by unfold fu; omega) ⟨rfl, fun k h => absurd h (by omega)⟩
    · rintro rec j y hj ⟨rfl, hall⟩
      rw [hs, if_neg (nI_ge hj (by omega)), nI_add, if_neg (idx_ok (k := m + j) rfl (show m + j < 500 by omega) (by decide)), if_neg (idx_ok (k := j) rfl hj (by omega)), nI_clamp (by omega), nI_1]
      by_cases q : T (m + j) = sch i (nI j)
      · left
        rw [if_pos q]
        exact ⟨_, ⟨rfl, fun k hk => by by_cases z : k = j; subst z; exact q; exact hall k (by omega)⟩, rfl⟩
      · right
        rw [if_neg q, if_neg]
        intro z
        have := (rlc_eq.mp z).2 j (by omega)
        exact q ((cl_inj (hT _ (by omega) (by omega)) (by have := sch_b hi hj; omega)).mp this)
    · rintro rec y ⟨rfl, hall⟩
      rw [hs, if_pos (Int32.le_refl _), if_pos]
      exact rlc_eq.mpr ⟨c, fun k hk => by show (T (m + k)).toNatClampNeg = _; rw [hall k (by omega)]⟩
  · have hne : ¬ rl T m (e - m) = wR i := fun z => c (rlc_eq.mp z).1
    rw [if_neg (fun z => c (hd.mp z)), if_neg hne]
/-- the kind of a clause, by the class; the number of a word, by the reference -/
def kd (l : List Nat) : Int32 := if l = wR 0 then 0 else if l = wR 1 then 1 else if l = wR 2 then 2 else if l = wR 3 then 3 else if l = wR 4 then 4 else if l = wR 5 then 5 else if l = wR 6 then 6 else -1
def wkL (l : List Nat) : Int32 := if l = wR 8 then 8 else if l = wR 6 then 6 else if l = wR 7 then 7 else if l = wR 3 then 3 else if l = wR 4 then 4 else if l = wR 5 then 5 else if l = wR 0 then 0 else if l = wR 1 then 1 else if l = wR 2 then 2 else -1
theorem e_kindOf {T : Nat → Int32} {m e : Nat} (hm : m ≤ e) (he : e ≤ 500) (hT : ∀ k, m ≤ k → k < e → 0 ≤ (T k).toInt) : f_X4_kindOf (nI m) (nI e) T = some (kd (rl T m (e - m))) := by
  unfold f_X4_kindOf kd
  rw [e_isWord (i := 0) (by decide) hm he hT, e_isWord (i := 1) (by decide) hm he hT, e_isWord (i := 2) (by decide) hm he hT, e_isWord (i := 3) (by decide) hm he hT, e_isWord (i := 4) (by decide) hm he hT, e_isWord (i := 5) (by decide) hm he hT, e_isWord (i := 6) (by decide) hm he hT]
  dsimp only [bn1]
  have one : ∀ (c : Prop) [Decidable c] (A B : Option Int32), (if (if c then (1 : Int32) else 0) = 0 then A else B) = if c then B else A := fun c _ A B => by
    by_cases q : c
    · rw [if_pos q, if_pos q, if_neg (show ¬ (1 : Int32) = 0 by decide)]
    · rw [if_neg q, if_neg q, if_pos rfl]
  rw [one, one, one, one, one, one, one]
  have push : ∀ (c : Prop) [Decidable c] (a b : Int32), (if c then some a else some b) = some (if c then a else b) := fun c _ a b => by
    by_cases q : c
    · rw [if_pos q, if_pos q]
    · rw [if_neg q, if_neg q]
  rw [push, push, push, push, push, push, push]
theorem kd_wk (l : List Nat) : (kd l = -1 ∧ (wkL l = -1 ∨ (l = wR 7 ∧ wkL l = 7) ∨ (l = wR 8 ∧ wkL l = 8))) ∨ (∃ k : Nat, k ≤ 6 ∧ kd l = nI k ∧ wkL l = nI k) := by
  by_cases h0 : l = wR 0
  · subst h0; exact Or.inr ⟨0, by decide, by decide +kernel, by decide +kernel⟩
  by_cases h1 : l = wR 1
  · subst h1; exact Or.inr ⟨1, by decide, by decide +kernel, by decide +kernel⟩
  by_cases h2 : l = wR 2
  · subst h2; exact Or.inr ⟨2, by decide, by decide +kernel, by decide +kernel⟩
  by_cases h3 : l = wR 3
  · subst h3; exact Or.inr ⟨3, by decide, by decide +kernel, by decide +kernel⟩
  by_cases h4 : l = wR 4
  · subst h4; exact Or.inr ⟨4, by decide, by decide +kernel, by decide +kernel⟩
  by_cases h5 : l = wR 5
  · subst h5; exact Or.inr ⟨5, by decide, by decide +kernel, by decide +kernel⟩
  by_cases h6 : l = wR 6
  · subst h6; exact Or.inr ⟨6, by decide, by decide +kernel, by decide +kernel⟩
  by_cases h7 : l = wR 7
  · subst h7; exact Or.inl ⟨by decide +kernel, Or.inr (Or.inl ⟨rfl, by decide +kernel⟩)⟩
  by_cases h8 : l = wR 8
  · subst h8; exact Or.inl ⟨by decide +kernel, Or.inr (Or.inr ⟨rfl, by decide +kernel⟩)⟩
  refine Or.inl ⟨?_, Or.inl ?_⟩
  · unfold kd; rw [if_neg h0, if_neg h1, if_neg h2, if_neg h3, if_neg h4, if_neg h5, if_neg h6]
  · unfold wkL; rw [if_neg h8, if_neg h6, if_neg h7, if_neg h3, if_neg h4, if_neg h5, if_neg h0, if_neg h1, if_neg h2]
/-- words by their bytes as one number -/
def vR : List Nat → Nat
  | [] => 0
  | d :: l => d + 256 * vR l
theorem vR_inj : ∀ {l m : List Nat}, (∀ d, d ∈ l → 1 ≤ d ∧ d ≤ 255) → (∀ d, d ∈ m → 1 ≤ d ∧ d ≤ 255) → vR l = vR m → l = m
  | [], [], _, _, _ => rfl
  | [], d :: m, _, h2, h => by
    have := h2 d (List.mem_cons_self ..)
    have h' : 0 = d + 256 * vR m := h
    omega
  | d :: l, [], h1, _, h => by
    have := h1 d (List.mem_cons_self ..)
    have h' : d + 256 * vR l = 0 := h
    omega
  | d :: l, e :: m, h1, h2, h => by
    have a := h1 d (List.mem_cons_self ..)
    have b := h2 e (List.mem_cons_self ..)
    have h' : d + 256 * vR l = e + 256 * vR m := h
    have h3 : d = e := by omega
    have h4 : vR l = vR m := by omega
    rw [h3, vR_inj (fun x hx => h1 x (List.mem_cons_of_mem _ hx)) (fun x hx => h2 x (List.mem_cons_of_mem _ hx)) h4]
theorem vR_lt : ∀ {l : List Nat}, (∀ d, d ∈ l → 1 ≤ d ∧ d ≤ 255) → vR l < 256 ^ l.length
  | [], _ => by show 0 < 256 ^ 0; decide
  | d :: l, h => by
    have a := h d (List.mem_cons_self ..)
    have ih := vR_lt (l := l) (fun x hx => h x (List.mem_cons_of_mem _ hx))
    show d + 256 * vR l < 256 ^ (l.length + 1)
    rw [Nat.pow_succ]
    omega
theorem wR_dig : ∀ i : Fin 9, ∀ d, d ∈ wR i.val → 1 ≤ d ∧ d ≤ 255 := by decide +kernel
theorem lN_inj {a b : Nat} (ha : a < 2 ^ 63) (hb : b < 2 ^ 63) : lN a = lN b ↔ a = b := by
  constructor
  · intro h
    have h2 : (Int64.ofNat a).toInt = (Int64.ofNat b).toInt := congrArg Int64.toInt h
    rw [Int64.toInt_ofNat_of_lt (by omega), Int64.toInt_ofNat_of_lt (by omega)] at h2
    omega
  · intro h; rw [h]
theorem cmp_0 (x y : Int64) : lg_cmp x y = 0 ↔ x = y := by
  unfold lg_cmp
  by_cases h : x > y
  · rw [if_pos h]
    constructor
    · intro z; exact absurd z (by decide)
    · intro z; rw [z] at h; exact absurd h (Int64.lt_irrefl)
  · rw [if_neg h]
    by_cases q : x = y
    · rw [if_pos q]; exact ⟨fun _ => q, fun _ => rfl⟩
    · rw [if_neg q]; exact ⟨fun z => absurd z (by decide), fun z => absurd z q⟩
theorem nm0 : f_X9_named 98 101 108 116 0 0 0 = some (lN (vR (wR 0))) := by decide +kernel
theorem nm1 : f_X9_named 104 111 114 115 101 0 0 = some (lN (vR (wR 1))) := by decide +kernel
theorem nm2 : f_X9_named 98 108 105 110 100 0 0 = some (lN (vR (wR 2))) := by decide +kernel
theorem nm3 : f_X9_named 98 101 115 105 100 101 0 = some (lN (vR (wR 3))) := by decide +kernel
theorem nm4 : f_X9_named 116 105 100 101 0 0 0 = some (lN (vR (wR 4))) := by decide +kernel
theorem nm5 : f_X9_named 99 97 114 116 0 0 0 = some (lN (vR (wR 5))) := by decide +kernel
theorem nm6 : f_X9_named 100 117 101 0 0 0 0 = some (lN (vR (wR 6))) := by decide +kernel
theorem nm7 : f_X9_named 115 117 109 0 0 0 0 = some (lN (vR (wR 7))) := by decide +kernel
theorem nm8 : f_X9_named 115 108 111 119 101 115 116 = some (lN (vR (wR 8))) := by decide +kernel
theorem e_wordOf {l : List Nat} (hd : ∀ d, d ∈ l → 1 ≤ d ∧ d ≤ 255) (hl : l.length ≤ 7) : f_X9_wordOf (lN (vR l)) = some (wkL l) := by
  have hv : vR l < 2 ^ 63 := by
    have h1 := vR_lt hd
    have h2 : 256 ^ l.length ≤ 256 ^ 7 := Nat.pow_le_pow_right (by decide) hl
    have h3 : (256 : Nat) ^ 7 < 2 ^ 63 := by decide
    omega
  have hw : ∀ i : Fin 9, vR (wR i.val) < 2 ^ 63 := by decide +kernel
  have key : ∀ i : Nat, i < 9 → (lg_cmp (lN (vR l)) (lN (vR (wR i))) = 0 ↔ l = wR i) := fun i hi => by
    rw [cmp_0, lN_inj hv (hw ⟨i, hi⟩)]
    exact ⟨fun z => vR_inj hd (wR_dig ⟨i, hi⟩) z, fun z => by rw [z]⟩
  unfold f_X9_wordOf wkL
  rw [nm0, nm1, nm2, nm3, nm4, nm5, nm6, nm7, nm8]
  dsimp only [bn1, jn1]
  have k0 := key 0 (by decide)
  have k1 := key 1 (by decide)
  have k2 := key 2 (by decide)
  have k3 := key 3 (by decide)
  have k4 := key 4 (by decide)
  have k5 := key 5 (by decide)
  have k6 := key 6 (by decide)
  have k7 := key 7 (by decide)
  have k8 := key 8 (by decide)
  simp only [k0, k1, k2, k3, k4, k5, k6, k7, k8]
  by_cases h8 : l = wR 8
  · simp only [if_pos h8, ite_self]
  by_cases h6 : l = wR 6
  · simp only [if_neg h8, if_pos h6, ite_self]
  by_cases h7 : l = wR 7
  · simp only [if_neg h8, if_neg h6, if_pos h7, ite_self]
  by_cases h3 : l = wR 3
  · simp only [if_neg h8, if_neg h6, if_neg h7, if_pos h3, ite_self]
  by_cases h4 : l = wR 4
  · simp only [if_neg h8, if_neg h6, if_neg h7, if_neg h3, if_pos h4, ite_self]
  by_cases h5 : l = wR 5
  · simp only [if_neg h8, if_neg h6, if_neg h7, if_neg h3, if_neg h4, if_pos h5, ite_self]
  by_cases h0 : l = wR 0
  · simp only [if_neg h8, if_neg h6, if_neg h7, if_neg h3, if_neg h4, if_neg h5, if_pos h0, ite_self]
  by_cases h1 : l = wR 1
  · simp only [if_neg h8, if_neg h6, if_neg h7, if_neg h3, if_neg h4, if_neg h5, if_neg h0, if_pos h1, ite_self]
  by_cases h2 : l = wR 2
  · simp only [if_neg h8, if_neg h6, if_neg h7, if_neg h3, if_neg h4, if_neg h5, if_neg h0, if_neg h1, if_pos h2, ite_self]
  simp only [if_neg h8, if_neg h6, if_neg h7, if_neg h3, if_neg h4, if_neg h5, if_neg h0, if_neg h1, if_neg h2]
theorem rl_s (T : Nat → Int32) (m j : Nat) : rl T m (j + 1) = (T (m + j)).toNatClampNeg :: rl T m j := rfl
theorem rl_dig {T : Nat → Int32} {m : Nat} : ∀ j, (∀ k, k < j → 97 ≤ (T (m + k)).toInt ∧ (T (m + k)).toInt ≤ 122) → ∀ d, d ∈ rl T m j → 1 ≤ d ∧ d ≤ 255
  | 0, _, d, hd => absurd hd (List.not_mem_nil)
  | j + 1, h, d, hd => by
    rw [rl_s] at hd
    rcases List.mem_cons.mp hd with z | z
    · have := h j (by omega)
      rw [z, i_cl]; omega
    · exact rl_dig j (fun k hk => h k (by omega)) d z
/-- the reference's word, letter by letter -/
def gW (T : Nat → Int32) (m : Nat) (v : Int64) (k : Nat) : Int64 := if (7 : Int32) ≤ nI k - nI m then 0 else 256 * v + (T k).toInt64
theorem gW_v {T : Nat → Int32} {m : Nat} (hm : m ≤ 500) : ∀ j, j ≤ 500 → (∀ k, k < j → 97 ≤ (T (m + k)).toInt ∧ (T (m + k)).toInt ≤ 122) → acN (gW T m) 0 m j = if j ≤ 7 then lN (vR (rl T m j)) else 0
  | 0, _, _ => by rw [if_pos (by omega)]; rfl
  | j + 1, hj, h => by
    show gW T m (acN (gW T m) 0 m j) (m + j) = _
    rw [gW_v hm j (by omega) (fun k hk => h k (by omega))]
    unfold gW
    rw [sub_nI (by omega), show m + j - m = j by omega]
    by_cases c : j < 7
    · rw [if_neg (show ¬ (7 : Int32) ≤ nI j from nI_ge (b := 7) c (by decide)), if_pos (by omega), if_pos (by omega), rl_s]
      show (256 : Int64) * lN (vR (rl T m j)) + (T (m + j)).toInt64 = lN ((T (m + j)).toNatClampNeg + 256 * vR (rl T m j))
      have hb := h j (by omega)
      have hx : T (m + j) = nI (T (m + j)).toNatClampNeg := by
        rw [i_eq, i_cl, nI_toInt (by omega)]; omega
      have hx2 : (T (m + j)).toInt64 = lN (T (m + j)).toNatClampNeg := by
        have h1 : (nI (T (m + j)).toNatClampNeg).toInt64 = lN (T (m + j)).toNatClampNeg := nI_l (by rw [i_cl]; omega)
        rw [← hx] at h1; exact h1
      rw [hx2, show (256 : Int64) = lN 256 from rfl, lN_mul, lN_add, Nat.add_comm]
    · rw [if_pos (show (7 : Int32) ≤ nI j from nI_le (a := 7) (by omega) (by omega)), if_neg (by omega)]
theorem wk_long {l : List Nat} (h : 7 < l.length) : wkL l = -1 := by
  have key : ∀ i : Nat, i < 9 → l ≠ wR i := fun i hi z => by
    have h1 : (wR i).length = lenS.getD i 0 := rlc_len _
    have := len_b hi
    rw [z, h1] at h
    omega
  unfold wkL
  rw [if_neg (key 8 (by decide)), if_neg (key 6 (by decide)), if_neg (key 7 (by decide)), if_neg (key 3 (by decide)), if_neg (key 4 (by decide)), if_neg (key 5 (by decide)), if_neg (key 0 (by decide)), if_neg (key 1 (by decide)), if_neg (key 2 (by decide))]
theorem e_word {T : Nat → Int32} {m j : Nat} (hm : m ≤ 500) (hj : j ≤ 500) (h : ∀ k, k < j → 97 ≤ (T (m + k)).toInt ∧ (T (m + k)).toInt ≤ 122) : f_X9_wordOf (acN (gW T m) 0 m j) = some (wkL (rl T m j)) := by
  rw [gW_v hm j hj h]
  by_cases c : j ≤ 7
  · rw [if_pos c]
    exact e_wordOf (rl_dig j h) (by unfold rl; rw [rlc_len]; exact c)
  · rw [if_neg c, wk_long (by unfold rl; rw [rlc_len]; omega)]
    have h0 : f_X9_wordOf (lN (vR [])) = some (wkL []) := e_wordOf (fun d hd => absurd hd (List.not_mem_nil)) (by decide)
    have h1 : wkL [] = -1 := by decide +kernel
    rw [h1] at h0
    exact h0
