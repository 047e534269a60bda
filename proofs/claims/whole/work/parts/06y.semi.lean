/-! PURE SIDE: the readers side by side: ';', the law, a horse's number -/
theorem ends_eq (L : Int32) (zn zt zp zv zg zf zfa : Int32) (Z : Nat → Int32) : f_X9_ends L zn zt zp zv zg zf zfa Z = bn8 (f_X9_takes (if zt = 3 ∧ zv = 59 then 1 else 0) 1 L zn zt zp zv zg zf zfa Z) (fun _ a b c d e f g => some (a, b, c, d, e, f, g)) := by
  unfold f_X9_ends
  dsimp only [jn1]
  by_cases c1 : zt = 3
  · rw [if_pos c1]
    by_cases c2 : zv = 59
    · rw [if_pos c2, if_pos ⟨c1, c2⟩]
    · rw [if_neg c2, if_neg (fun z => c2 z.2)]
  · rw [if_neg c1, if_neg (fun z => c1 z.1)]
theorem sgn_no {T : Nat → Int32} {L k : Nat} {c : Int32} (hc : c = 59 ∨ c = 44) (h : T k = c) : ¬ ltr T L k ∧ ¬ fig T L k := by
  constructor
  · intro z
    have h1 := z.2.1
    rw [h] at h1
    rcases hc with rfl | rfl <;> exact absurd h1 (by decide)
  · intro z
    have h1 := z.2
    rw [h] at h1
    rcases hc with rfl | rfl
    · exact absurd h1.2 (by decide)
    · exact absurd h1.1 (by decide)
theorem m_semi {T Z : Nat → Int32} {L n : Nat} {cf cfa cn zn zt zp zv zg zf zfa : Int32} (hX : TX T Z L) (hR : REL T L n cf cfa cn zn zt zp zv zg zf zfa) :
    ∃ (n' : Nat) (cf' cfa' cn' zn' zt' zp' zv' zg' zf' zfa' : Int32), f_X4_readSemicolon (nI L) cf cfa cn T = some (cf', cfa', cn') ∧ f_X9_ends (nI L) zn zt zp zv zg zf zfa Z = some (zn', zt', zp', zv', zg', zf', zfa') ∧ REL T L n' cf' cfa' cn' zn' zt' zp' zv' zg' zf' zfa' ∧ n ≤ n' ∧ (cf' = 0 → cf = 0) := by
  obtain ⟨rfl, hn, rfl, rfl, hA⟩ := hR
  have hL := hX.1
  obtain ⟨s1, s2, s3⟩ := sk_f (T := T) hn
  unfold f_X4_readSemicolon
  rw [e_skip hL hn, bn1_some, e_isSign hL (by omega), bn1_some, ends_eq, nI_1]
  by_cases sg : sk T L n < L ∧ T (sk T L n) = 59
  · rw [if_pos sg, if_neg (show ¬ (1 : Int32) = 0 by decide)]
    by_cases c : zf = 0
    · subst c
      obtain ⟨hp, hA⟩ := hA rfl
      obtain ⟨hnl, hnf⟩ := sgn_no (L := L) (Or.inl rfl) sg.2
      rcases hA with h | h | h | h
      · exact absurd sg.1 h.1
      · exact absurd h.1 hnl
      · exact absurd h.1 hnf
      · obtain ⟨-, -, -, h1, h2, h3⟩ := h
        have ht : zt = 3 := by
          rcases h1 with z | z
          · exact z.1
          · exact absurd (Or.inl sg.2) z.2
        obtain ⟨zn', zt', zp', zv', zg', g1, g2⟩ := tk_ok (n1 := 1) (n2 := 1) (zt := zt) (zp := zp) (zv := zv) (zg := zg) (zfa := zfa) hX (show sk T L n + 1 ≤ L by omega) (by decide)
        rw [if_pos ⟨ht, h2.trans sg.2⟩, h3, g1, bn8_some]
        exact ⟨_, _, _, _, _, _, _, _, _, _, _, rfl, rfl, ⟨rfl, by omega, rfl, rfl, fun _ => g2⟩, by omega, fun _ => rfl⟩
    · rw [tk_bad c, bn8_some]
      exact ⟨sk T L n + 1, _, _, _, _, _, _, _, _, _, _, rfl, rfl, ⟨rfl, by omega, rfl, rfl, fun z => absurd z c⟩, by omega, fun z => z⟩
  · rw [if_neg sg, if_pos rfl]
    by_cases c : zf = 0
    · subst c
      obtain ⟨hp, hA⟩ := hA rfl
      have hno : ¬ (zt = 3 ∧ zv = 59) := by
        rintro ⟨z1, z2⟩
        rcases hA with h | h | h | h
        · rw [h.2] at z1; exact absurd z1 (by decide)
        · rw [h.2.1] at z1; exact absurd z1 (by decide)
        · rw [h.2.1] at z1; exact absurd z1 (by decide)
        · exact sg ⟨h.1, h.2.2.2.2.1.symm.trans z2⟩
      rw [if_neg hno, fl_0, bn2_some, tk_no (by decide), bn8_some]
      exact ⟨_, _, _, _, _, _, _, _, _, _, _, rfl, rfl, ⟨rfl, s2, rfl, hp, fun z => absurd z (by decide)⟩, s1, fun z => absurd z (by decide)⟩
    · rw [fl_1 c, bn2_some, tk_bad c, bn8_some]
      exact ⟨_, _, _, _, _, _, _, _, _, _, _, rfl, rfl, ⟨rfl, s2, rfl, rfl, fun z => absurd z c⟩, s1, fun z => z⟩
theorem wk_7 (l : List Nat) : wkL l = 7 ↔ l = wR 7 := by
  constructor
  · intro h
    rcases kd_wk l with ⟨-, h1 | h1 | h1⟩ | ⟨k, hk, -, h2⟩
    · rw [h1] at h; exact absurd h (by decide)
    · exact h1.1
    · rw [h1.2] at h; exact absurd h (by decide)
    · rw [h2] at h
      have := (nI_eq (b := 7) (by omega) (by omega)).mp h
      omega
  · intro h; subst h; decide +kernel
theorem wk_8 (l : List Nat) : wkL l = 8 ↔ l = wR 8 := by
  constructor
  · intro h
    rcases kd_wk l with ⟨-, h1 | h1 | h1⟩ | ⟨k, hk, -, h2⟩
    · rw [h1] at h; exact absurd h (by decide)
    · rw [h1.2] at h; exact absurd h (by decide)
    · exact h1.1
    · rw [h2] at h
      have := (nI_eq (b := 8) (by omega) (by omega)).mp h
      omega
  · intro h; subst h; decide +kernel
theorem wR_ne (i : Nat) (hi : i < 9) : rl (fun _ => 0) 0 0 ≠ wR i := fun z => by
  have h1 := congrArg List.length z
  have h2 : (wR i).length = lenS.getD i 0 := rlc_len _
  have := len_b hi
  rw [h2] at h1
  have h3 : 0 = lenS.getD i 0 := h1
  omega
theorem m_law {T Z : Nat → Int32} {L n : Nat} {cfa zn zt zp zv zg : Int32} (hX : TX T Z L) (hn : n ≤ L) (hA : ADV T L n zn zt zp zv zg) :
    ∃ (n' : Nat) (lw cf' cfa' cn' r zn' zt' zp' zv' zg' zf' zfa' : Int32), f_X4_readLaw (nI L) 0 cfa (nI n) T = some (lw, cf', cfa', cn') ∧ f_X9_takes (if zt = 1 ∧ (zv = 7 ∨ zv = 8) then 1 else 0) 1 (nI L) zn zt zp zv zg 0 cfa Z = some (r, zn', zt', zp', zv', zg', zf', zfa') ∧ REL T L n' cf' cfa' cn' zn' zt' zp' zv' zg' zf' zfa' ∧ n ≤ n' ∧ (cf' = 0 → (lw = 0 ∨ lw = 1) ∧ r - 7 = lw) := by
  have hL := hX.1
  obtain ⟨s1, s2, s3⟩ := sk_f (T := T) hn
  obtain ⟨hp, hA⟩ := hA
  obtain ⟨w1, w2, w3, w4⟩ := we_f (T := T) (L := L) (n := sk T L n) s2
  have hpos : ∀ k, sk T L n ≤ k → k < we T L (sk T L n) → 0 ≤ (T k).toInt := fun k h1 h2 => by have := ltr_b (w3 k h1 h2); omega
  unfold f_X4_readLaw
  rw [e_skip hL hn, bn1_some, e_wordEnd hL s2, bn1_some, e_isWord (i := 7) (by decide) w1 (by omega) hpos, bn1_some, e_isWord (i := 8) (by decide) w1 (by omega) hpos, fl_0]
  dsimp only [bn1, bn2]
  by_cases hl : ltr T L (sk T L n)
  · rcases hA with h | h | h | h
    · exact absurd hl.1 h.1
    · obtain ⟨-, ht, hv, hz⟩ := h
      have c7 := wk_7 (rl T (sk T L n) (we T L (sk T L n) - sk T L n))
      have c8 := wk_8 (rl T (sk T L n) (we T L (sk T L n) - sk T L n))
      rw [← hv] at c7 c8
      obtain ⟨zn', zt', zp', zv', zg', g1, g2⟩ := tk_ok (n1 := 1) (n2 := 1) (zt := zt) (zp := zp) (zv := zv) (zg := zg) (zfa := cfa) hX w2 (by decide)
      by_cases q7 : zv = 7
      · rw [if_pos (c7.mp q7), if_neg (show ¬ (1 : Int32) = 0 by decide), if_pos ⟨ht, Or.inl q7⟩, hz, g1]
        exact ⟨_, _, _, _, _, _, _, _, _, _, _, _, _, rfl, rfl, ⟨rfl, w2, rfl, rfl, fun _ => g2⟩, by omega, fun _ => ⟨Or.inl rfl, by rw [q7]; rfl⟩⟩
      · rw [if_neg (fun z => q7 (c7.mpr z)), if_pos rfl]
        by_cases q8 : zv = 8
        · rw [if_pos (c8.mp q8), if_neg (show ¬ (1 : Int32) = 0 by decide), if_pos ⟨ht, Or.inr q8⟩, hz, g1]
          exact ⟨_, _, _, _, _, _, _, _, _, _, _, _, _, rfl, rfl, ⟨rfl, w2, rfl, rfl, fun _ => g2⟩, by omega, fun _ => ⟨Or.inr rfl, by rw [q8]; rfl⟩⟩
        · rw [if_neg (fun z => q8 (c8.mpr z)), if_pos rfl, if_neg (fun z => by rcases z.2 with z | z; exact q7 z; exact q8 z), tk_no (by decide)]
          exact ⟨_, _, _, _, _, _, _, _, _, _, _, _, _, rfl, rfl, ⟨rfl, w2, rfl, hp, fun z => absurd z (by decide)⟩, by omega, fun z => absurd z (by decide)⟩
    · exact absurd hl (fig_nltr h.1)
    · exact absurd hl h.2.1
  · have ht : ¬ zt = 1 := by
      rcases hA with h | h | h | h
      · rw [h.2]; decide
      · exact absurd h.1 hl
      · rw [h.2.1]; decide
      · rcases h.2.2.2.1 with z | z
        · rw [z.1]; decide
        · rw [z.1]; decide
    have hwe := we_no hl
    have hne : ∀ i : Nat, i < 9 → rl T (sk T L n) (we T L (sk T L n) - sk T L n) ≠ wR i := fun i hi => by
      rw [hwe, Nat.sub_self]; exact wR_ne i hi
    rw [if_neg (hne 7 (by decide)), if_pos rfl, if_neg (hne 8 (by decide)), if_pos rfl, if_neg (fun z => ht z.1), tk_no (by decide)]
    exact ⟨_, _, _, _, _, _, _, _, _, _, _, _, _, rfl, rfl, ⟨rfl, w2, rfl, hp, fun z => absurd z (by decide)⟩, by omega, fun z => absurd z (by decide)⟩
theorem nv_b {T : Nat → Int32} {m : Nat} : ∀ j, j ≤ 3 → (∀ k, k < j → 48 ≤ (T (m + k)).toInt ∧ (T (m + k)).toInt ≤ 57) → 0 ≤ (nv T m j).toInt ∧ (nv T m j).toInt + 1 ≤ 10 ^ j
  | 0, _, _ => ⟨by show (0 : Int) ≤ (0 : Int32).toInt; decide, by show (0 : Int32).toInt + 1 ≤ 10 ^ 0; decide⟩
  | j + 1, hj, h => by
    obtain ⟨a, b⟩ := nv_b j (by omega) (fun k hk => h k (by omega))
    have hb := h j (by omega)
    have hp : (10 : Int) ^ j ≤ 100 := by
      have : j = 0 ∨ j = 1 ∨ j = 2 := by omega
      rcases this with rfl | rfl | rfl <;> decide
    rw [nv_s]
    have e : nv T m j * 10 + T (m + j) - 48 = jI ((nv T m j).toInt * 10 + (T (m + j)).toInt - 48) := by
      rw [← jI_sub, ← jI_add, ← jI_mul, jI_self, jI_self]; rfl
    rw [e, jI_toInt (by omega) (by omega), Int.pow_succ]
    omega
/-- the number of a horse, of both; well so far -/
theorem hnum {T Z : Nat → Int32} {L n H : Nat} {cfa nf zn zt zp zv zg : Int32} (hX : TX T Z L) (hn : n ≤ L) (hH : H ≤ 6) (hA : ADV T L n zn zt zp zv zg) :
    (f_X4_readNumber 0 (nI H - 1) (nI L) 0 cfa (nI n) nf T = some (-1, 1, nI (sk T L n), nI (sk T L n), nf) ∧ zt ≠ 2) ∨ (f_X4_readNumber 0 (nI H - 1) (nI L) 0 cfa (nI n) nf T = some (-1, 2, nI (sk T L n), nI (fe T L (sk T L n)), nI (sk T L n)) ∧ zt = 2 ∧ (3 < zg ∨ ¬ zv < nI H) ∧ 0 ≤ zv) ∨ (∃ k : Nat, k < H ∧ f_X4_readNumber 0 (nI H - 1) (nI L) 0 cfa (nI n) nf T = some (nI k, 0, cfa, nI (fe T L (sk T L n)), nI (sk T L n)) ∧ zt = 2 ∧ ¬ 3 < zg ∧ zv = nI k ∧ zn = nI (fe T L (sk T L n)) ∧ n < fe T L (sk T L n) ∧ fe T L (sk T L n) ≤ L) := by
  have hL := hX.1
  obtain ⟨s1, s2, s3⟩ := sk_f (T := T) hn
  obtain ⟨hp, hA⟩ := hA
  by_cases hf : fig T L (sk T L n)
  · obtain ⟨w1, w2, w3, w4⟩ := fe_f (T := T) (L := L) (n := sk T L n) s2
    have hgt := fe_gt hf
    rcases hA with h | h | h | h
    · exact absurd hf.1 h.1
    · exact absurd h.1 (fig_nltr hf)
    · obtain ⟨-, ht, hv, hg, hz⟩ := h
      right
      rw [cn_fig hL hn hf]
      have hdig : ∀ k, sk T L n ≤ k → k < fe T L (sk T L n) → 48 ≤ (T k).toInt ∧ (T k).toInt ≤ 57 := fun k h1 h2 => by
        have := (w3 k h1 h2).2
        rw [i_le, i_le] at this
        exact this
      have hvb := nv_b (T := T) (m := sk T L n) (min (fe T L (sk T L n) - sk T L n) 3) (by omega) (fun k hk => hdig (sk T L n + k) (by omega) (by omega))
      have hv0 : 0 ≤ zv := by rw [hv, i_le]; exact hvb.1
      have h3 : (3 : Int32) < zg ↔ ¬ fe T L (sk T L n) - sk T L n ≤ 3 := by
        rw [hg, show (3 : Int32) = nI 3 from rfl, nI_ltI (by omega) (by omega)]; omega
      by_cases c1 : fe T L (sk T L n) - sk T L n ≤ 3
      · have hv' : zv = nv T (sk T L n) (fe T L (sk T L n) - sk T L n) := by rw [hv, show min (fe T L (sk T L n) - sk T L n) 3 = fe T L (sk T L n) - sk T L n by omega]
        rw [← hv']
        have hle : zv ≤ nI H - 1 ↔ zv < nI H := by
          have e1 : nI H - 1 = jI ((H : Int) - 1) := by rw [jI_nat, show (1 : Int32) = jI 1 from rfl, jI_sub]
          rw [e1, i_le, jI_toInt (by omega) (by omega), i_lt, nI_toInt (by omega)]; omega
        by_cases c2 : zv < nI H
        · right
          obtain ⟨k, hk, ek⟩ := nI_of (x := zv) (by grind)
          have hkH : k < H := by rw [ek, nI_ltI (by omega) (by omega)] at c2; exact c2
          rw [if_pos ⟨c1, hv0, hle.mpr c2⟩]
          exact ⟨k, hkH, by rw [ek], ht, fun z => h3.mp z c1, ek, hz, by omega, w2⟩
        · left
          rw [if_neg (fun z => c2 (hle.mp z.2.2))]
          exact ⟨rfl, ht, Or.inr c2, hv0⟩
      · left
        rw [if_neg (fun z => c1 z.1)]
        exact ⟨rfl, ht, Or.inl (h3.mpr c1), hv0⟩
    · exact absurd hf h.2.2.1
  · left
    refine ⟨cn_no hL hn hf, ?_⟩
    rcases hA with h | h | h | h
    · rw [h.2]; decide
    · rw [h.2.1]; decide
    · exact absurd h.1 hf
    · rcases h.2.2.2.1 with z | z
      · rw [z.1]; decide
      · rw [z.1]; decide
