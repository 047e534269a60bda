/-! PURE SIDE: THE TEXT: the reference's advances; the two readers side by side -/
/-- the two texts -/
def TX (T Z : Nat → Int32) (L : Nat) : Prop := L ≤ 500 ∧ ∀ k, k < L → Z k = T k ∧ 0 ≤ (T k).toInt ∧ (T k).toInt ≤ 255
theorem e_byteAt {T Z : Nat → Int32} {L k : Nat} (hX : TX T Z L) (hk : k ≤ 1000) : f_X9_byteAt (nI k) (nI L) Z = some (if k < L then T k else -1) := by
  unfold f_X9_byteAt
  have := hX.1
  by_cases h : k < L
  · rw [if_neg (nI_ge h (by omega)), if_neg (idx_ok (k := k) rfl (show k < 500 by omega) (by decide)), nI_clamp (by omega), if_pos h, (hX.2 k h).1]
  · rw [if_pos (nI_le (by omega) (by omega)), if_neg h]
theorem in_ltr {T : Nat → Int32} {L k : Nat} : f_X9_in (if k < L then T k else -1) 97 122 = some (if ltr T L k then 1 else 0) := by
  rw [e_in]
  refine congrArg some (if_iff ?_ _ _)
  by_cases h : k < L
  · rw [if_pos h]; exact ⟨fun z => ⟨h, z⟩, fun z => z.2⟩
  · rw [if_neg h]; exact ⟨fun z => absurd z.1 (by decide), fun z => absurd z.1 h⟩
theorem in_fig {T : Nat → Int32} {L k : Nat} : f_X9_in (if k < L then T k else -1) 48 57 = some (if fig T L k then 1 else 0) := by
  rw [e_in]
  refine congrArg some (if_iff ?_ _ _)
  by_cases h : k < L
  · rw [if_pos h]; exact ⟨fun z => ⟨h, z⟩, fun z => z.2⟩
  · rw [if_neg h]; exact ⟨fun z => absurd z.1 (by decide), fun z => absurd z.1 h⟩
def gN (T : Nat → Int32) (m : Nat) (v : Int32) (k : Nat) : Int32 := if (3 : Int32) ≤ nI k - nI m then v else 10 * v + T k - 48
theorem nv_s (T : Nat → Int32) (m j : Nat) : nv T m (j + 1) = nv T m j * 10 + T (m + j) - 48 := rfl
theorem gN_v {T : Nat → Int32} {m : Nat} (hm : m ≤ 500) : ∀ j, j ≤ 500 → acN (gN T m) 0 m j = nv T m (min j 3)
  | 0, _ => rfl
  | j + 1, hj => by
    show gN T m (acN (gN T m) 0 m j) (m + j) = _
    rw [gN_v hm j (by omega)]
    unfold gN
    rw [sub_nI (by omega), show m + j - m = j by omega]
    by_cases c : j < 3
    · rw [if_neg (show ¬ (3 : Int32) ≤ nI j from nI_ge (b := 3) c (by decide)), show min j 3 = j by omega, show min (j + 1) 3 = j + 1 by omega, nv_s, Int32.mul_comm]
    · rw [if_pos (show (3 : Int32) ≤ nI j from nI_le (a := 3) (by omega) (by omega)), show min j 3 = 3 by omega, show min (j + 1) 3 = 3 by omega]
/-- what the reference has read ahead from n on -/
def ADV (T : Nat → Int32) (L n : Nat) (zn zt zp zv zg : Int32) : Prop :=
  zp = nI (sk T L n) ∧ ((¬ sk T L n < L ∧ zt = 0) ∨ (ltr T L (sk T L n) ∧ zt = 1 ∧ zv = wkL (rl T (sk T L n) (we T L (sk T L n) - sk T L n)) ∧ zn = nI (we T L (sk T L n))) ∨ (fig T L (sk T L n) ∧ zt = 2 ∧ zv = nv T (sk T L n) (min (fe T L (sk T L n) - sk T L n) 3) ∧ zg = nI (fe T L (sk T L n) - sk T L n) ∧ zn = nI (fe T L (sk T L n))) ∨ (sk T L n < L ∧ ¬ ltr T L (sk T L n) ∧ ¬ fig T L (sk T L n) ∧ ((zt = 3 ∧ (T (sk T L n) = 59 ∨ T (sk T L n) = 44)) ∨ (zt = 4 ∧ ¬ (T (sk T L n) = 59 ∨ T (sk T L n) = 44))) ∧ zv = T (sk T L n) ∧ zn = nI (sk T L n + 1)))
theorem ltr_b {T : Nat → Int32} {L k : Nat} (h : ltr T L k) : 97 ≤ (T k).toInt ∧ (T k).toInt ≤ 122 := by
  have h1 := h.2
  rw [i_le, i_le] at h1
  exact h1
theorem e_adv {T Z : Nat → Int32} {L n : Nat} (hX : TX T Z L) (hn : n ≤ L) (zt zp zv zg : Int32) : ∃ zn' zt' zp' zv' zg', f_X9_advances (nI L) (nI n) zt zp zv zg Z = some (zn', zt', zp', zv', zg') ∧ ADV T L n zn' zt' zp' zv' zg' := by
  have hL := hX.1
  obtain ⟨s1, s2, s3⟩ := sk_f (T := T) hn
  unfold f_X9_advances
  rw [jn1_d]
  have kb : ∀ (Zp : Option (Int32 × Int32 × Int32 × Int32 × Int32) → Prop) (K : Int32 → Option (Int32 × Int32 × Int32 × Int32 × Int32)), Zp (K (nI (sk T L n))) → Zp (lq1 (B_X9_advances_3 (nI L) Z K) fu (nI n)) := fun Zp K hZ => by
    have h : lq1 (B_X9_advances_3 (nI L) Z K) fu (nI n) = K (nI (sk T L n)) := by
      refine whl1 (c := blk T L) (L := L) (fun k z => z.1) (fun rec k hk hq => ?_) (fun rec k hk hq => ?_) (L - n) n fu (by omega) (by unfold fu; omega)
      · unfold B_X9_advances_3
        rw [e_byteAt hX (by omega), bn1_some, if_pos hq.1, if_pos hq.2, nI_1]
      · unfold B_X9_advances_3
        rw [e_byteAt hX (by omega), bn1_some]
        by_cases h1 : k < L
        · rw [if_pos h1, if_neg (fun z => hq ⟨h1, z⟩)]
        · rw [if_neg h1, if_neg (by decide)]
    rw [h]; exact hZ
  refine kb (fun o => ∃ zn' zt' zp' zv' zg', o = some (zn', zt', zp', zv', zg') ∧ ADV T L n zn' zt' zp' zv' zg') _ ?_
  unfold ADV
  generalize sk T L n = m at *
  rw [e_byteAt hX (by omega), bn1_some, in_ltr, in_fig]
  by_cases hm : m < L
  · have hb := (hX.2 m hm).2
    have h0 : 0 ≤ T m := by rw [i_le]; exact hb.1
    rw [if_pos hm, if_pos h0, bn1_some]
    by_cases hl : ltr T L m
    · obtain ⟨w1, w2, w3, w4⟩ := we_f (T := T) (L := L) (n := m) (by omega)
      rw [if_pos hl, if_neg (show ¬ (1 : Int32) = 0 by decide), jn2_d]
      have kw : ∀ (Zp : Option (Int32 × Int32 × Int32 × Int32 × Int32) → Prop) (K : Int64 → Int32 → Option (Int32 × Int32 × Int32 × Int32 × Int32)), Zp (K (acN (gW T m) 0 m (we T L m - m)) (nI (we T L m))) → Zp (lq2 (B_X9_advances_2 (nI L) Z K (nI m)) fu 0 (nI m)) := fun Zp K hZ => by
        have h : lq2 (B_X9_advances_2 (nI L) Z K (nI m)) fu 0 (nI m) = K (acN (gW T m) 0 m (we T L m - m)) (nI (we T L m)) := by
          refine whlB (c := ltr T L) (g := gW T m) (v := 0) (L := L) (n := m) (fun k z => z.1) (fun rec k x hmk hk hq => ?_) (fun rec k x hk hq => ?_) (L - m) 0 fu (by omega) (by unfold fu; omega)
          · unfold B_X9_advances_2
            rw [e_byteAt hX (by omega), bn1_some, in_ltr, bn1_some, if_pos hq, if_neg (show ¬ (1 : Int32) = 0 by decide), jn1_d, nI_1, bn1_some, if_pos hq.1]
            have hb2 := ltr_b hq
            unfold f_X9_add gW
            rw [if_neg (show ¬ T k = 0 from fun z => by rw [z] at hb2; exact absurd hb2.1 (by decide)), bn1_some]
            by_cases c7 : (7 : Int32) ≤ nI k - nI m
            · rw [if_pos c7, if_pos c7]
            · rw [if_neg c7, if_neg c7]
          · unfold B_X9_advances_2
            rw [e_byteAt hX (by omega), bn1_some, in_ltr, bn1_some, if_neg hq, if_pos rfl]
        rw [h]; exact hZ
      refine kw (fun o => ∃ zn' zt' zp' zv' zg', o = some (zn', zt', zp', zv', zg') ∧ (zp' = nI m ∧ ((¬ m < L ∧ zt' = 0) ∨ (ltr T L m ∧ zt' = 1 ∧ zv' = wkL (rl T m (we T L m - m)) ∧ zn' = nI (we T L m)) ∨ (fig T L m ∧ zt' = 2 ∧ zv' = nv T m (min (fe T L m - m) 3) ∧ zg' = nI (fe T L m - m) ∧ zn' = nI (fe T L m)) ∨ (m < L ∧ ¬ ltr T L m ∧ ¬ fig T L m ∧ ((zt' = 3 ∧ (T m = 59 ∨ T m = 44)) ∨ (zt' = 4 ∧ ¬ (T m = 59 ∨ T m = 44))) ∧ zv' = T m ∧ zn' = nI (m + 1))))) _ ?_
      rw [e_word (by omega) (by omega) (fun k hk => ltr_b (w3 (m + k) (by omega) (by omega))), bn1_some]
      exact ⟨_, _, _, _, _, rfl, rfl, Or.inr (Or.inl ⟨hl, rfl, rfl, rfl⟩)⟩
    · rw [if_neg hl, if_pos rfl, bn1_some]
      by_cases hf : fig T L m
      · obtain ⟨w1, w2, w3, w4⟩ := fe_f (T := T) (L := L) (n := m) (by omega)
        rw [if_pos hf, if_neg (show ¬ (1 : Int32) = 0 by decide), jn2_d]
        have kw : ∀ (Zp : Option (Int32 × Int32 × Int32 × Int32 × Int32) → Prop) (K : Int32 → Int32 → Option (Int32 × Int32 × Int32 × Int32 × Int32)), Zp (K (nI (fe T L m)) (acN (gN T m) 0 m (fe T L m - m))) → Zp (lq2 (B_X9_advances_1 (nI L) Z K (nI m)) fu (nI m) 0) := fun Zp K hZ => by
          have h : lq2 (B_X9_advances_1 (nI L) Z K (nI m)) fu (nI m) 0 = K (nI (fe T L m)) (acN (gN T m) 0 m (fe T L m - m)) := by
            refine whlA (c := fig T L) (g := gN T m) (v := 0) (L := L) (n := m) (fun k z => z.1) (fun rec k x hmk hk hq => ?_) (fun rec k x hk hq => ?_) (L - m) 0 fu (by omega) (by unfold fu; omega)
            · unfold B_X9_advances_1
              rw [e_byteAt hX (by omega), bn1_some, in_fig, bn1_some, if_pos hq, if_neg (show ¬ (1 : Int32) = 0 by decide), jn1_d, nI_1, bn1_some, if_pos hq.1]
              unfold gN
              by_cases c7 : (3 : Int32) ≤ nI k - nI m
              · rw [if_pos c7, if_pos c7]
              · rw [if_neg c7, if_neg c7]
            · unfold B_X9_advances_1
              rw [e_byteAt hX (by omega), bn1_some, in_fig, bn1_some, if_neg hq, if_pos rfl]
          rw [h]; exact hZ
        refine kw (fun o => ∃ zn' zt' zp' zv' zg', o = some (zn', zt', zp', zv', zg') ∧ (zp' = nI m ∧ ((¬ m < L ∧ zt' = 0) ∨ (ltr T L m ∧ zt' = 1 ∧ zv' = wkL (rl T m (we T L m - m)) ∧ zn' = nI (we T L m)) ∨ (fig T L m ∧ zt' = 2 ∧ zv' = nv T m (min (fe T L m - m) 3) ∧ zg' = nI (fe T L m - m) ∧ zn' = nI (fe T L m)) ∨ (m < L ∧ ¬ ltr T L m ∧ ¬ fig T L m ∧ ((zt' = 3 ∧ (T m = 59 ∨ T m = 44)) ∨ (zt' = 4 ∧ ¬ (T m = 59 ∨ T m = 44))) ∧ zv' = T m ∧ zn' = nI (m + 1))))) _ ?_
        rw [gN_v (by omega) _ (by omega), sub_nI w1]
        exact ⟨_, _, _, _, _, rfl, rfl, Or.inr (Or.inr (Or.inl ⟨hf, rfl, rfl, rfl, rfl⟩))⟩
      · rw [if_neg hf, if_pos rfl, nI_1]
        dsimp only [jn1]
        by_cases q1 : T m = 59
        · rw [if_pos q1]
          exact ⟨_, _, _, _, _, rfl, rfl, Or.inr (Or.inr (Or.inr ⟨hm, hl, hf, Or.inl ⟨rfl, Or.inl q1⟩, rfl, rfl⟩))⟩
        · rw [if_neg q1]
          by_cases q2 : T m = 44
          · rw [if_pos q2]
            exact ⟨_, _, _, _, _, rfl, rfl, Or.inr (Or.inr (Or.inr ⟨hm, hl, hf, Or.inl ⟨rfl, Or.inr q2⟩, rfl, rfl⟩))⟩
          · rw [if_neg q2]
            exact ⟨_, _, _, _, _, rfl, rfl, Or.inr (Or.inr (Or.inr ⟨hm, hl, hf, Or.inr ⟨rfl, fun z => by rcases z with z | z; exact q1 z; exact q2 z⟩, rfl, rfl⟩))⟩
  · rw [if_neg hm, if_neg (show ¬ (0 : Int32) ≤ -1 by decide)]
    exact ⟨_, _, _, _, _, rfl, rfl, Or.inl ⟨hm, rfl⟩⟩
