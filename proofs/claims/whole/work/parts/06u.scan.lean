/-! PURE SIDE: THE TEXT: scanning -/
def scn (c : Nat → Prop) [DecidablePred c] : Nat → Nat → Nat
  | 0, n => n
  | d + 1, n => if c n then scn c d (n + 1) else n
theorem scn_s (c : Nat → Prop) [DecidablePred c] (d n : Nat) : scn c (d + 1) n = if c n then scn c d (n + 1) else n := rfl
theorem scn_spec {c : Nat → Prop} [DecidablePred c] {L : Nat} (hc : ∀ k, c k → k < L) : ∀ d n, n + d = L ∨ (d = 0 ∧ L ≤ n) → n ≤ scn c d n ∧ (∀ k, n ≤ k → k < scn c d n → c k) ∧ ¬ c (scn c d n) ∧ (n ≤ L → scn c d n ≤ L)
  | 0, n, h => ⟨Nat.le_refl _, fun k h1 h2 => by have h3 : k < n := h2; omega, fun z => by have := hc _ z; have h3 : n < L := this; omega, fun _ => by show n ≤ L; omega⟩
  | d + 1, n, h => by
    rw [scn_s]
    by_cases q : c n
    · rw [if_pos q]
      obtain ⟨a, b, e, f⟩ := scn_spec hc d (n + 1) (by omega)
      refine ⟨by omega, fun k h1 h2 => ?_, e, fun _ => f (by have := hc n q; omega)⟩
      by_cases z : k = n
      · subst z; exact q
      · exact b k (by omega) h2
    · rw [if_neg q]
      exact ⟨Nat.le_refl _, fun k h1 h2 => by omega, q, fun h => h⟩
abbrev blk (T : Nat → Int32) (L k : Nat) : Prop := k < L ∧ T k = 32
abbrev ltr (T : Nat → Int32) (L k : Nat) : Prop := k < L ∧ 97 ≤ T k ∧ T k ≤ 122
abbrev fig (T : Nat → Int32) (L k : Nat) : Prop := k < L ∧ 48 ≤ T k ∧ T k ≤ 57
def sk (T : Nat → Int32) (L n : Nat) : Nat := scn (blk T L) (L - n) n
def we (T : Nat → Int32) (L n : Nat) : Nat := scn (ltr T L) (L - n) n
def fe (T : Nat → Int32) (L n : Nat) : Nat := scn (fig T L) (L - n) n
theorem sk_f {T : Nat → Int32} {L n : Nat} (h : n ≤ L) : n ≤ sk T L n ∧ sk T L n ≤ L ∧ ¬ blk T L (sk T L n) := by
  obtain ⟨a, b, c, d⟩ := scn_spec (c := blk T L) (L := L) (fun k z => z.1) (L - n) n (by omega)
  exact ⟨a, d h, c⟩
theorem we_f {T : Nat → Int32} {L n : Nat} (h : n ≤ L) : n ≤ we T L n ∧ we T L n ≤ L ∧ (∀ k, n ≤ k → k < we T L n → ltr T L k) ∧ ¬ ltr T L (we T L n) := by
  obtain ⟨a, b, c, d⟩ := scn_spec (c := ltr T L) (L := L) (fun k z => z.1) (L - n) n (by omega)
  exact ⟨a, d h, b, c⟩
theorem fe_f {T : Nat → Int32} {L n : Nat} (h : n ≤ L) : n ≤ fe T L n ∧ fe T L n ≤ L ∧ (∀ k, n ≤ k → k < fe T L n → fig T L k) ∧ ¬ fig T L (fe T L n) := by
  obtain ⟨a, b, c, d⟩ := scn_spec (c := fig T L) (L := L) (fun k z => z.1) (L - n) n (by omega)
  exact ⟨a, d h, b, c⟩
theorem scn_gt {c : Nat → Prop} [DecidablePred c] {L n : Nat} (hc : ∀ k, c k → k < L) (h : c n) : n < scn c (L - n) n := by
  have hl := hc n h
  obtain ⟨d, hd⟩ : ∃ d, L - n = d + 1 := ⟨L - n - 1, by omega⟩
  rw [hd, scn_s, if_pos h]
  have := (scn_spec hc d (n + 1) (by omega)).1
  omega
theorem we_gt {T : Nat → Int32} {L n : Nat} (h : ltr T L n) : n < we T L n := scn_gt (fun k z => z.1) h
theorem fe_gt {T : Nat → Int32} {L n : Nat} (h : fig T L n) : n < fe T L n := scn_gt (fun k z => z.1) h
theorem we_no {T : Nat → Int32} {L n : Nat} (h : ¬ ltr T L n) : we T L n = n := by
  unfold we
  cases hd : L - n with
  | zero => rfl
  | succ d => rw [scn_s, if_neg h]
/-- a loop that goes on as long as c holds -/
theorem whl1 {B : Type} {F : (Int32 → Option B) → Int32 → Option B} {K : Int32 → Option B} {c : Nat → Prop} [DecidablePred c] {L : Nat} (hc : ∀ k, c k → k < L) (h1 : ∀ rec k, k ≤ L → c k → F rec (nI k) = rec (nI (k + 1))) (h2 : ∀ rec k, k ≤ L → ¬ c k → F rec (nI k) = K (nI k)) : ∀ (d n f : Nat), n + d = L → d < f → lq1 F f (nI n) = K (nI (scn c d n))
  | 0, n, f, hn, hf => by
    obtain ⟨f', rfl⟩ : ∃ f', f = f' + 1 := ⟨f - 1, by omega⟩
    rw [lq1_1, h2 _ n (by omega) (fun z => by have := hc n z; omega)]
    rfl
  | d + 1, n, f, hn, hf => by
    obtain ⟨f', rfl⟩ : ∃ f', f = f' + 1 := ⟨f - 1, by omega⟩
    rw [lq1_1, scn_s]
    by_cases q : c n
    · rw [if_pos q, h1 _ n (by omega) q]; exact whl1 hc h1 h2 d (n + 1) f' (by omega) (by omega)
    · rw [if_neg q, h2 _ n (by omega) q]
theorem whl2 {B : Type} {F : (Int32 → Int32 → Option B) → Int32 → Int32 → Option B} {K : Int32 → Option B} {c : Nat → Prop} [DecidablePred c] {L : Nat} (hc : ∀ k, c k → k < L) (h1 : ∀ rec k, k ≤ L → c k → F rec (nI k) (nI k) = rec (nI (k + 1)) (nI (k + 1))) (h2 : ∀ rec k, k ≤ L → ¬ c k → F rec (nI k) (nI k) = K (nI k)) : ∀ (d n f : Nat), n + d = L → d < f → lq2 F f (nI n) (nI n) = K (nI (scn c d n))
  | 0, n, f, hn, hf => by
    obtain ⟨f', rfl⟩ : ∃ f', f = f' + 1 := ⟨f - 1, by omega⟩
    rw [lq2_1, h2 _ n (by omega) (fun z => by have := hc n z; omega)]
    rfl
  | d + 1, n, f, hn, hf => by
    obtain ⟨f', rfl⟩ : ∃ f', f = f' + 1 := ⟨f - 1, by omega⟩
    rw [lq2_1, scn_s]
    by_cases q : c n
    · rw [if_pos q, h1 _ n (by omega) q]; exact whl2 hc h1 h2 d (n + 1) f' (by omega) (by omega)
    · rw [if_neg q, h2 _ n (by omega) q]
def acN {A : Type} (g : A → Nat → A) (v : A) (n : Nat) : Nat → A
  | 0 => v
  | j + 1 => g (acN g v n j) (n + j)
theorem whlA {A B : Type} {F : (Int32 → A → Option B) → Int32 → A → Option B} {K : Int32 → A → Option B} {c : Nat → Prop} [DecidablePred c] {g : A → Nat → A} {v : A} {L n : Nat} (hc : ∀ k, c k → k < L) (h1 : ∀ rec k x, n ≤ k → k ≤ L → c k → F rec (nI k) x = rec (nI (k + 1)) (g x k)) (h2 : ∀ rec k x, k ≤ L → ¬ c k → F rec (nI k) x = K (nI k) x) : ∀ (d j f : Nat), n + j + d = L → d < f → lq2 F f (nI (n + j)) (acN g v n j) = K (nI (scn c d (n + j))) (acN g v n (scn c d (n + j) - n))
  | 0, j, f, hn, hf => by
    obtain ⟨f', rfl⟩ : ∃ f', f = f' + 1 := ⟨f - 1, by omega⟩
    rw [lq2_1, h2 _ (n + j) _ (by omega) (fun z => by have := hc _ z; omega)]
    show _ = K (nI (n + j)) (acN g v n (n + j - n))
    rw [show n + j - n = j by omega]
  | d + 1, j, f, hn, hf => by
    obtain ⟨f', rfl⟩ : ∃ f', f = f' + 1 := ⟨f - 1, by omega⟩
    rw [lq2_1, scn_s]
    by_cases q : c (n + j)
    · rw [if_pos q, h1 _ (n + j) _ (by omega) (by omega) q]; exact whlA hc h1 h2 d (j + 1) f' (by omega) (by omega)
    · rw [if_neg q, h2 _ (n + j) _ (by omega) q, show n + j - n = j by omega]
theorem whlB {A B : Type} {F : (A → Int32 → Option B) → A → Int32 → Option B} {K : A → Int32 → Option B} {c : Nat → Prop} [DecidablePred c] {g : A → Nat → A} {v : A} {L n : Nat} (hc : ∀ k, c k → k < L) (h1 : ∀ rec k x, n ≤ k → k ≤ L → c k → F rec x (nI k) = rec (g x k) (nI (k + 1))) (h2 : ∀ rec k x, k ≤ L → ¬ c k → F rec x (nI k) = K x (nI k)) : ∀ (d j f : Nat), n + j + d = L → d < f → lq2 F f (acN g v n j) (nI (n + j)) = K (acN g v n (scn c d (n + j) - n)) (nI (scn c d (n + j)))
  | 0, j, f, hn, hf => by
    obtain ⟨f', rfl⟩ : ∃ f', f = f' + 1 := ⟨f - 1, by omega⟩
    rw [lq2_1, h2 _ (n + j) _ (by omega) (fun z => by have := hc _ z; omega)]
    show _ = K (acN g v n (n + j - n)) (nI (n + j))
    rw [show n + j - n = j by omega]
  | d + 1, j, f, hn, hf => by
    obtain ⟨f', rfl⟩ : ∃ f', f = f' + 1 := ⟨f - 1, by omega⟩
    rw [lq2_1, scn_s]
    by_cases q : c (n + j)
    · rw [if_pos q, h1 _ (n + j) _ (by omega) (by omega) q]; exact whlB hc h1 h2 d (j + 1) f' (by omega) (by omega)
    · rw [if_neg q, h2 _ (n + j) _ (by omega) q, show n + j - n = j by omega]
theorem whl3 {A B : Type} {F : (A → Int32 → Int32 → Option B) → A → Int32 → Int32 → Option B} {K : A → Int32 → Option B} {c : Nat → Prop} [DecidablePred c] {g : A → Nat → A} {v : A} {L n : Nat} (hc : ∀ k, c k → k < L) (h1 : ∀ rec k x, n ≤ k → k ≤ L → c k → F rec x (nI k) (nI k) = rec (g x k) (nI (k + 1)) (nI (k + 1))) (h2 : ∀ rec k x, k ≤ L → ¬ c k → F rec x (nI k) (nI k) = K x (nI k)) : ∀ (d j f : Nat), n + j + d = L → d < f → lq3 F f (acN g v n j) (nI (n + j)) (nI (n + j)) = K (acN g v n (scn c d (n + j) - n)) (nI (scn c d (n + j)))
  | 0, j, f, hn, hf => by
    obtain ⟨f', rfl⟩ : ∃ f', f = f' + 1 := ⟨f - 1, by omega⟩
    rw [lq3_1, h2 _ (n + j) _ (by omega) (fun z => by have := hc _ z; omega)]
    show _ = K (acN g v n (n + j - n)) (nI (n + j))
    rw [show n + j - n = j by omega]
  | d + 1, j, f, hn, hf => by
    obtain ⟨f', rfl⟩ : ∃ f', f = f' + 1 := ⟨f - 1, by omega⟩
    rw [lq3_1, scn_s]
    by_cases q : c (n + j)
    · rw [if_pos q, h1 _ (n + j) _ (by omega) (by omega) q]; exact whl3 hc h1 h2 d (j + 1) f' (by omega) (by omega)
    · rw [if_neg q, h2 _ (n + j) _ (by omega) q, show n + j - n = j by omega]
/-! the class's looks at the text -/
theorem e_skip {T : Nat → Int32} {L n : Nat} (hL : L ≤ 500) (hn : n ≤ L) : f_X4_skipBlanks (nI L) (nI n) T = some (nI (sk T L n)) := by
  unfold f_X4_skipBlanks
  rw [jn1_d]
  refine whl1 (K := fun y => some y) (c := blk T L) (L := L) (fun k z => z.1) (fun rec k hk hq => ?_) (fun rec k hk hq => ?_) (L - n) n fu (by omega) (by unfold fu; omega)
  · have h1 := hq.1
    rw [if_neg (nI_ge h1 (by omega)), if_neg (show ¬ (500 : Int32) ≤ nI k from nI_ge (b := 500) (by omega) (by decide)), if_neg (idx_ok (k := k) rfl (show k < 500 by omega) (by decide)), nI_clamp (by omega), if_pos hq.2, nI_1]
  · by_cases h1 : k < L
    · rw [if_neg (nI_ge h1 (by omega)), if_neg (show ¬ (500 : Int32) ≤ nI k from nI_ge (b := 500) (by omega) (by decide)), if_neg (idx_ok (k := k) rfl (show k < 500 by omega) (by decide)), nI_clamp (by omega), if_neg (fun z => hq ⟨h1, z⟩)]
    · rw [if_pos (nI_le (by omega) (by omega))]
theorem e_isLet {T : Nat → Int32} {L k : Nat} (hL : L ≤ 500) (hk : k ≤ 1000) : f_X4_isLetter (nI k) (nI L) T = some (if ltr T L k then 1 else 0) := by
  unfold f_X4_isLetter
  rw [if_neg (nI_pos (by omega))]
  by_cases h1 : k < L
  · rw [if_neg (nI_ge h1 (by omega)), if_neg (show ¬ (500 : Int32) ≤ nI k from nI_ge (b := 500) (by omega) (by decide)), if_neg (idx_ok (k := k) rfl (show k < 500 by omega) (by decide)), nI_clamp (by omega)]
    by_cases c1 : T k < 97
    · rw [if_pos c1, if_neg (fun z => by have := z.2.1; grind)]
    · rw [if_neg c1]
      by_cases c2 : 122 < T k
      · rw [if_pos c2, if_neg (fun z => by have := z.2.2; grind)]
      · rw [if_neg c2, if_pos ⟨h1, by grind, by grind⟩]
  · rw [if_pos (nI_le (by omega) (by omega)), if_neg (fun z => h1 z.1)]
theorem e_isFig {T : Nat → Int32} {L k : Nat} (hL : L ≤ 500) (hk : k ≤ 1000) : f_X4_isFigure (nI k) (nI L) T = some (if fig T L k then 1 else 0) := by
  unfold f_X4_isFigure
  rw [if_neg (nI_pos (by omega))]
  by_cases h1 : k < L
  · rw [if_neg (nI_ge h1 (by omega)), if_neg (show ¬ (500 : Int32) ≤ nI k from nI_ge (b := 500) (by omega) (by decide)), if_neg (idx_ok (k := k) rfl (show k < 500 by omega) (by decide)), nI_clamp (by omega)]
    by_cases c1 : T k < 48
    · rw [if_pos c1, if_neg (fun z => by have := z.2.1; grind)]
    · rw [if_neg c1]
      by_cases c2 : 57 < T k
      · rw [if_pos c2, if_neg (fun z => by have := z.2.2; grind)]
      · rw [if_neg c2, if_pos ⟨h1, by grind, by grind⟩]
  · rw [if_pos (nI_le (by omega) (by omega)), if_neg (fun z => h1 z.1)]
theorem e_isSign {T : Nat → Int32} {L k : Nat} {c : Int32} (hL : L ≤ 500) (hk : k ≤ 1000) : f_X4_isSign c (nI L) (nI k) T = some (if k < L ∧ T k = c then 1 else 0) := by
  unfold f_X4_isSign
  rw [if_neg (nI_pos (by omega))]
  by_cases h1 : k < L
  · rw [if_neg (nI_ge h1 (by omega)), if_neg (show ¬ (500 : Int32) ≤ nI k from nI_ge (b := 500) (by omega) (by decide)), if_neg (idx_ok (k := k) rfl (show k < 500 by omega) (by decide)), nI_clamp (by omega)]
    by_cases c1 : T k = c
    · rw [if_pos c1, if_pos ⟨h1, c1⟩]
    · rw [if_neg c1, if_neg (fun z => c1 z.2)]
  · rw [if_pos (nI_le (by omega) (by omega)), if_neg (fun z => h1 z.1)]
theorem e_wordEnd {T : Nat → Int32} {L n : Nat} (hL : L ≤ 500) (hn : n ≤ L) : f_X4_wordEnd (nI n) (nI L) T = some (nI (we T L n)) := by
  unfold f_X4_wordEnd
  rw [jn1_d]
  refine whl2 (K := fun y => some y) (c := ltr T L) (L := L) (fun k z => z.1) (fun rec k hk hq => ?_) (fun rec k hk hq => ?_) (L - n) n fu (by omega) (by unfold fu; omega)
  · rw [if_neg (nI_ge hq.1 (by omega)), e_isLet hL (by omega), bn1_some, if_pos hq, if_neg (show ¬ (1 : Int32) = 0 by decide), nI_1]
  · by_cases h1 : k < L
    · rw [if_neg (nI_ge h1 (by omega)), e_isLet hL (by omega), bn1_some, if_neg hq, if_pos rfl]
    · rw [if_pos (nI_le (by omega) (by omega))]
/-- the number that figures tell -/
abbrev nvG (T : Nat → Int32) (v : Int32) (k : Nat) : Int32 := v * 10 + T k - 48
def nv (T : Nat → Int32) (m j : Nat) : Int32 := acN (nvG T) 0 m j
theorem e_num {T : Nat → Int32} {L m : Nat} {B : Type} {K : Int32 → Int32 → Option B} (hL : L ≤ 500) (hm : m ≤ L) : lq3 (fun (rec7 : Int32 → Int32 → Int32 → Option B) (y3 : Int32) (y4 : Int32) (nx : Int32) => if nI L ≤ y4 then K y3 nx else bn1 (f_X4_isFigure y4 (nI L) T) (fun (r_8 : Int32) => if r_8 = 0 then K y3 nx else if y4 < 0 ∨ 500 ≤ y4.toNatClampNeg then none else rec7 (((y3 * (10 : Int32)) + (T y4.toNatClampNeg)) - (48 : Int32)) (y4 + (1 : Int32)) (y4 + (1 : Int32)))) fu 0 (nI m) (nI m) = K (nv T m (fe T L m - m)) (nI (fe T L m)) := by
  refine whl3 (K := K) (c := fig T L) (g := nvG T) (v := 0) (L := L) (n := m) (fun k z => z.1) (fun rec k x _ hk hq => ?_) (fun rec k x hk hq => ?_) (L - m) 0 fu (by omega) (by unfold fu; omega)
  · rw [if_neg (nI_ge hq.1 (by omega)), e_isFig hL (by omega), bn1_some, if_pos hq, if_neg (show ¬ (1 : Int32) = 0 by decide), if_neg (idx_ok (k := k) rfl (show k < 500 by have := hq.1; omega) (by decide)), nI_1, nI_clamp (by omega)]
  · by_cases h1 : k < L
    · rw [if_neg (nI_ge h1 (by omega)), e_isFig hL (by omega), bn1_some, if_neg hq, if_pos rfl]
    · rw [if_pos (nI_le (by omega) (by omega))]
