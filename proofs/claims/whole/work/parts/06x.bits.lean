/-! PURE SIDE: bits; the readers' numbers side by side -/
theorem and1_bv {w : Nat} (x : BitVec w) : (x &&& 1#w) = 0#w ↔ x.getLsbD 0 = false := by
  constructor
  · intro h
    have := congrArg (fun y => y.getLsbD 0) h
    rw [BitVec.getLsbD_and, BitVec.getLsbD_zero] at this
    by_cases hw : 0 < w
    · have h1 : (1#w).getLsbD 0 = true := by rw [BitVec.getLsbD_one]; simp [hw]
      rw [h1, Bool.and_true] at this
      exact this
    · exact BitVec.getLsbD_of_ge x 0 (by omega)
  · intro h
    apply BitVec.eq_of_getLsbD_eq
    intro i hi
    rw [BitVec.getLsbD_and, BitVec.getLsbD_zero, BitVec.getLsbD_one]
    by_cases c : i = 0
    · subst c; rw [h]; rfl
    · simp [c]
theorem bt64 (p : Int64) {i : Nat} (hi : i < 36) : ((p >>> ((nI i).toInt64 &&& 63)) &&& 1) = 0 ↔ p.toBitVec.getLsbD i = false := by
  have e1 : ((nI i).toInt64 &&& 63).toBitVec = BitVec.ofNat 64 i := by
    have h : ∀ i : Fin 36, ((nI i.val).toInt64 &&& 63).toBitVec = BitVec.ofNat 64 i.val := by decide +kernel
    exact h ⟨i, hi⟩
  have e4 : ((BitVec.ofNat 64 i).smod 64).toNat = i := by
    have h : ∀ i : Fin 36, ((BitVec.ofNat 64 i.val).smod 64).toNat = i.val := by decide +kernel
    exact h ⟨i, hi⟩
  rw [← Int64.toBitVec_inj, Int64.toBitVec_and, Int64.toBitVec_shiftRight, e1]
  show (p.toBitVec.sshiftRight ((BitVec.ofNat 64 i).smod 64).toNat &&& 1#64) = 0#64 ↔ _
  rw [e4, and1_bv, BitVec.getLsbD_sshiftRight]
  have h1 : i + 0 < 64 := by omega
  simp [h1, show i < 64 by omega]
theorem or64 (p : Int64) {i j : Nat} (hi : i < 36) (hj : j < 36) : (p ||| ((1 : Int64) <<< ((nI i).toInt64 &&& 63))).toBitVec.getLsbD j = (p.toBitVec.getLsbD j || decide (i = j)) := by
  have e1 : ((nI i).toInt64 &&& 63).toBitVec = BitVec.ofNat 64 i := by
    have h : ∀ i : Fin 36, ((nI i.val).toInt64 &&& 63).toBitVec = BitVec.ofNat 64 i.val := by decide +kernel
    exact h ⟨i, hi⟩
  have h2 : ∀ i j : Fin 36, ((1 : Int64) <<< ((nI i.val).toInt64 &&& 63)).toBitVec.getLsbD j.val = decide (i.val = j.val) := by decide +kernel
  rw [Int64.toBitVec_or, BitVec.getLsbD_or, h2 ⟨i, hi⟩ ⟨j, hj⟩]
theorem bt32 (p : Int32) {i : Nat} (hi : i < 6) : ((p >>> (nI i &&& 31)) &&& 1) = 0 ↔ p.toBitVec.getLsbD i = false := by
  have e1 : (nI i &&& 31).toBitVec = BitVec.ofNat 32 i := by
    have h : ∀ i : Fin 6, (nI i.val &&& 31).toBitVec = BitVec.ofNat 32 i.val := by decide +kernel
    exact h ⟨i, hi⟩
  have e4 : ((BitVec.ofNat 32 i).smod 32).toNat = i := by
    have h : ∀ i : Fin 6, ((BitVec.ofNat 32 i.val).smod 32).toNat = i.val := by decide +kernel
    exact h ⟨i, hi⟩
  rw [← Int32.toBitVec_inj, Int32.toBitVec_and, Int32.toBitVec_shiftRight, e1]
  show (p.toBitVec.sshiftRight ((BitVec.ofNat 32 i).smod 32).toNat &&& 1#32) = 0#32 ↔ _
  rw [e4, and1_bv, BitVec.getLsbD_sshiftRight]
  have h1 : i + 0 < 32 := by omega
  simp [h1, show i < 32 by omega]
theorem or32 (p : Int32) {i j : Nat} (hi : i < 6) (hj : j < 6) : (p ||| ((1 : Int32) <<< (nI i &&& 31))).toBitVec.getLsbD j = (p.toBitVec.getLsbD j || decide (i = j)) := by
  have h2 : ∀ i j : Fin 6, ((1 : Int32) <<< (nI i.val &&& 31)).toBitVec.getLsbD j.val = decide (i.val = j.val) := by decide +kernel
  rw [Int32.toBitVec_or, BitVec.getLsbD_or, h2 ⟨i, hi⟩ ⟨j, hj⟩]
theorem and_01 (x : Int32) : (x &&& 1) = 1 ↔ ¬ (x &&& 1) = 0 := by
  obtain ⟨k, hk, e⟩ := pk_andE x (m := 1) 1 (by decide)
  have : k = 0 ∨ k = 1 := by omega
  rw [e]
  rcases this with rfl | rfl <;> decide
/-! the two readers side by side -/
def REL (T : Nat → Int32) (L n : Nat) (cf cfa cn zn zt zp zv zg zf zfa : Int32) : Prop := cn = nI n ∧ n ≤ L ∧ zf = cf ∧ zfa = cfa ∧ (cf = 0 → ADV T L n zn zt zp zv zg)
theorem tk_ok {T Z : Nat → Int32} {L k : Nat} {n1 n2 zt zp zv zg zfa : Int32} (hX : TX T Z L) (hk : k ≤ L) (h1 : n1 ≠ 0) : ∃ zn' zt' zp' zv' zg', f_X9_takes n1 n2 (nI L) (nI k) zt zp zv zg 0 zfa Z = some (zv, zn', zt', zp', zv', zg', 0, zfa) ∧ ADV T L k zn' zt' zp' zv' zg' := by
  obtain ⟨a, b, c, d, e, g1, g2⟩ := e_adv hX hk zt zp zv zg
  refine ⟨a, b, c, d, e, ?_, g2⟩
  unfold f_X9_takes f_X9_isWell
  rw [g1]
  dsimp only [jn2, jn5, bn1, bn5]
  rw [if_neg h1, if_pos rfl]
  try dsimp only
  rw [if_neg (show ¬ (1 : Int32) = 0 by decide)]
  try dsimp only
  try rw [if_neg (show ¬ (1 : Int32) = 0 by decide)]
theorem tk_no {Z : Nat → Int32} {L : Nat} {n2 zn zt zp zv zg zfa : Int32} (h2 : n2 ≠ 0) : f_X9_takes 0 n2 (nI L) zn zt zp zv zg 0 zfa Z = some (0, zn, zt, zp, zv, zg, n2, zp) := by
  unfold f_X9_takes f_X9_fails f_X9_isWell
  dsimp only [jn2, jn5]
  rw [if_pos rfl, if_pos rfl, bn1_some, if_neg (show ¬ (1 : Int32) = 0 by decide), bn2_some, if_neg h2, bn1_some, if_pos rfl, bn1_some, if_pos rfl, if_pos rfl]
theorem tk_bad {Z : Nat → Int32} {L : Nat} {n1 n2 zn zt zp zv zg zf zfa : Int32} (hf : zf ≠ 0) : f_X9_takes n1 n2 (nI L) zn zt zp zv zg zf zfa Z = some (if n1 = 0 then 0 else zv, zn, zt, zp, zv, zg, zf, zfa) := by
  have hw : f_X9_isWell zf = some 0 := by unfold f_X9_isWell; rw [if_neg hf]
  have hz : f_X9_fails n2 zp zf zfa = some (zf, zfa) := by unfold f_X9_fails; rw [hw, bn1_some, if_pos rfl]
  by_cases c : n1 = 0
  · simp [f_X9_takes, hz, hw, jn2, jn5, bn2, bn1, c]
  · simp [f_X9_takes, hw, jn2, jn5, bn1, c]
theorem fl_0 {a b fa : Int32} : f_X4_fail a b 0 fa = some (a, b) := by unfold f_X4_fail; rw [if_pos rfl]
theorem fl_1 {a b f fa : Int32} (h : f ≠ 0) : f_X4_fail a b f fa = some (f, fa) := by unfold f_X4_fail; rw [if_neg h]
theorem zf_0 {a p fa : Int32} : f_X9_fails a p 0 fa = some (a, p) := by unfold f_X9_fails f_X9_isWell; rw [if_pos rfl, bn1_some, if_neg (show ¬ (1 : Int32) = 0 by decide)]
theorem zf_1 {a p f fa : Int32} (h : f ≠ 0) : f_X9_fails a p f fa = some (f, fa) := by unfold f_X9_fails f_X9_isWell; rw [if_neg h, bn1_some, if_pos rfl]
theorem cn_bad {T : Nat → Int32} {L n : Nat} {lo hi cf cfa nf : Int32} (hL : L ≤ 500) (hn : n ≤ L) (h : cf ≠ 0) : f_X4_readNumber lo hi (nI L) cf cfa (nI n) nf T = some (-1, cf, cfa, nI (sk T L n), nf) := by
  obtain ⟨s1, s2, s3⟩ := sk_f (T := T) hn
  unfold f_X4_readNumber
  rw [e_skip hL hn, bn1_some, e_isFig hL (by omega), bn1_some, fl_1 h]
  dsimp only [jn2, bn2]
  rw [if_neg h, ite_self]
theorem cn_no {T : Nat → Int32} {L n : Nat} {lo hi cfa nf : Int32} (hL : L ≤ 500) (hn : n ≤ L) (h : ¬ fig T L (sk T L n)) : f_X4_readNumber lo hi (nI L) 0 cfa (nI n) nf T = some (-1, 1, nI (sk T L n), nI (sk T L n), nf) := by
  obtain ⟨s1, s2, s3⟩ := sk_f (T := T) hn
  unfold f_X4_readNumber
  rw [e_skip hL hn, bn1_some, e_isFig hL (by omega), bn1_some, fl_0, if_neg h]
  dsimp only [jn2, bn2]
  rw [if_pos rfl, if_neg (show ¬ (1 : Int32) = 0 by decide)]
theorem cn_fig {T : Nat → Int32} {L n : Nat} {lo hi cfa nf : Int32} (hL : L ≤ 500) (hn : n ≤ L) (h : fig T L (sk T L n)) : f_X4_readNumber lo hi (nI L) 0 cfa (nI n) nf T = if fe T L (sk T L n) - sk T L n ≤ 3 ∧ lo ≤ nv T (sk T L n) (fe T L (sk T L n) - sk T L n) ∧ nv T (sk T L n) (fe T L (sk T L n) - sk T L n) ≤ hi then some (nv T (sk T L n) (fe T L (sk T L n) - sk T L n), 0, cfa, nI (fe T L (sk T L n)), nI (sk T L n)) else some (-1, 2, nI (sk T L n), nI (fe T L (sk T L n)), nI (sk T L n)) := by
  obtain ⟨s1, s2, s3⟩ := sk_f (T := T) hn
  obtain ⟨w1, w2, w3, w4⟩ := fe_f (T := T) (L := L) (n := sk T L n) s2
  unfold f_X4_readNumber
  rw [e_skip hL hn, bn1_some, e_isFig hL (by omega), bn1_some, if_pos h, jn2_d, if_neg (show ¬ (1 : Int32) = 0 by decide)]
  dsimp only
  rw [if_pos rfl, jn2_d]
  refine Eq.trans (e_num (K := fun y3 nx => jn1 (fun (_ : Unit) => bn2 (f_X4_fail 2 (nI (sk T L n)) 0 cfa) (fun (f6 : Int32) (fa6 : Int32) => some ((-1 : Int32), f6, fa6, nx, nI (sk T L n)))) (fun J => if (3 : Int32) < nx - nI (sk T L n) then J () else if y3 < lo then J () else if y3 ≤ hi then some (y3, 0, cfa, nx, nI (sk T L n)) else J ())) hL s2) ?_
  dsimp only [jn1]
  rw [fl_0, bn2_some, sub_nI w1]
  have h3 : (3 : Int32) < nI (fe T L (sk T L n) - sk T L n) ↔ ¬ fe T L (sk T L n) - sk T L n ≤ 3 := by
    rw [show (3 : Int32) = nI 3 from rfl, nI_ltI (by omega) (by omega)]; omega
  by_cases c1 : fe T L (sk T L n) - sk T L n ≤ 3
  · rw [if_neg (fun z => h3.mp z c1)]
    by_cases c2 : lo ≤ nv T (sk T L n) (fe T L (sk T L n) - sk T L n)
    · rw [if_neg (show ¬ nv T (sk T L n) (fe T L (sk T L n) - sk T L n) < lo by grind)]
      by_cases c3 : nv T (sk T L n) (fe T L (sk T L n) - sk T L n) ≤ hi
      · rw [if_pos c3, if_pos ⟨c1, c2, c3⟩]
      · rw [if_neg c3, if_neg (fun z => c3 z.2.2)]
    · rw [if_pos (show nv T (sk T L n) (fe T L (sk T L n) - sk T L n) < lo by grind), if_neg (fun z => c2 z.2.1)]
  · rw [if_pos (h3.mpr c1), if_neg (fun z => c1 z.1)]
theorem sk_sk {T : Nat → Int32} {L n : Nat} (hn : n ≤ L) : sk T L (sk T L n) = sk T L n := by
  obtain ⟨s1, s2, s3⟩ := sk_f (T := T) hn
  generalize sk T L n = m at *
  unfold sk
  cases hd : L - m with
  | zero => rfl
  | succ d => rw [scn_s, if_neg s3]
theorem ADV_sk {T : Nat → Int32} {L n : Nat} {zn zt zp zv zg : Int32} (hn : n ≤ L) (h : ADV T L n zn zt zp zv zg) : ADV T L (sk T L n) zn zt zp zv zg := by
  unfold ADV at *
  rw [sk_sk hn]; exact h
theorem fig_nltr {T : Nat → Int32} {L k : Nat} (h : fig T L k) : ¬ ltr T L k := fun z => by
  have h1 := h.2.2
  have h2 := z.2.1
  rw [i_le] at h1 h2
  have e1 : (57 : Int32).toInt = 57 := rfl
  have e2 : (97 : Int32).toInt = 97 := rfl
  omega
/-- a number of both -/
theorem m_num {T Z : Nat → Int32} {L n : Nat} {lo hi cf cfa cn nf zn zt zp zv zg zf zfa : Int32} (hX : TX T Z L) (hR : REL T L n cf cfa cn zn zt zp zv zg zf zfa) :
    ∃ (n' : Nat) (v cf' cfa' cn' nf' v' zn' zt' zp' zv' zg' zf' zfa' : Int32), f_X4_readNumber lo hi (nI L) cf cfa cn nf T = some (v, cf', cfa', cn', nf') ∧ f_X9_number lo hi (nI L) zn zt zp zv zg zf zfa Z = some (v', zn', zt', zp', zv', zg', zf', zfa') ∧ REL T L n' cf' cfa' cn' zn' zt' zp' zv' zg' zf' zfa' ∧ n ≤ n' ∧ (cf' = 0 → cf = 0 ∧ v = v' ∧ lo ≤ v ∧ v ≤ hi) := by
  obtain ⟨rfl, hn, rfl, rfl, hA⟩ := hR
  have hL := hX.1
  obtain ⟨s1, s2, s3⟩ := sk_f (T := T) hn
  by_cases c : zf = 0
  · subst c
    obtain ⟨hp, hA⟩ := hA rfl
    by_cases hf : fig T L (sk T L n)
    · obtain ⟨w1, w2, w3, w4⟩ := fe_f (T := T) (L := L) (n := sk T L n) s2
      rcases hA with h | h | h | h
      · exact absurd hf.1 h.1
      · exact absurd h.1 (fig_nltr hf)
      · obtain ⟨-, ht, hv, hg, hz⟩ := h
        rw [cn_fig hL hn hf]
        unfold f_X9_number
        rw [if_pos ht, e_in]
        dsimp only [jn1, bn1]
        have h4 : (4 : Int32) ≤ zg ↔ ¬ fe T L (sk T L n) - sk T L n ≤ 3 := by
          rw [hg, show (4 : Int32) = nI 4 from rfl, nI_leI (by omega) (by omega)]; omega
        by_cases c1 : fe T L (sk T L n) - sk T L n ≤ 3
        · have hv' : zv = nv T (sk T L n) (fe T L (sk T L n) - sk T L n) := by rw [hv, show min (fe T L (sk T L n) - sk T L n) 3 = fe T L (sk T L n) - sk T L n by omega]
          by_cases c2 : lo ≤ zv ∧ zv ≤ hi
          · obtain ⟨zn', zt', zp', zv', zg', g1, g2⟩ := tk_ok (n1 := 1) (n2 := 2) (zt := zt) (zp := zp) (zv := zv) (zg := zg) (zfa := zfa) hX w2 (by decide)
            rw [← hv', if_pos ⟨c1, c2⟩, if_pos c2]
            try dsimp only [jn1]
            rw [if_neg (fun z => h4.mp z c1), if_neg (show ¬ (1 : Int32) = 0 by decide), hz, g1, bn8_some, if_neg (show ¬ (1 : Int32) = 0 by decide)]
            exact ⟨_, _, _, _, _, _, _, _, _, _, _, _, _, _, rfl, rfl, ⟨rfl, w2, rfl, rfl, fun _ => g2⟩, by omega, fun _ => ⟨rfl, rfl, c2⟩⟩
          · rw [← hv', if_neg (fun z => c2 z.2), if_neg c2]
            try dsimp only [jn1]
            rw [if_neg (fun z => h4.mp z c1), if_pos rfl, tk_no (by decide), bn8_some, if_pos rfl]
            exact ⟨_, _, _, _, _, _, _, _, _, _, _, _, _, _, rfl, rfl, ⟨rfl, w2, rfl, hp, fun z => absurd z (by decide)⟩, by omega, fun z => absurd z (by decide)⟩
        · rw [if_neg (fun z => c1 z.1)]
          try dsimp only [jn1]
          rw [if_pos (h4.mpr c1), tk_no (by decide), bn8_some, if_pos rfl]
          exact ⟨_, _, _, _, _, _, _, _, _, _, _, _, _, _, rfl, rfl, ⟨rfl, w2, rfl, hp, fun z => absurd z (by decide)⟩, by omega, fun z => absurd z (by decide)⟩
      · exact absurd hf h.2.2.1
    · have ht : zt ≠ 2 := by
        rcases hA with h | h | h | h
        · rw [h.2]; decide
        · rw [h.2.1]; decide
        · exact absurd h.1 hf
        · rcases h.2.2.2.1 with z | z
          · rw [z.1]; decide
          · rw [z.1]; decide
      rw [cn_no hL hn hf]
      unfold f_X9_number
      rw [if_neg ht, zf_0, bn2_some]
      exact ⟨_, _, _, _, _, _, _, _, _, _, _, _, _, _, rfl, rfl, ⟨rfl, s2, rfl, hp, fun z => absurd z (by decide)⟩, s1, fun z => absurd z (by decide)⟩
  · rw [cn_bad hL hn c]
    unfold f_X9_number
    by_cases ht : zt = 2
    · rw [if_pos ht]
      dsimp only [jn1]
      rw [tk_bad c, tk_bad c, bn8_some, bn8_some, if_pos rfl, if_neg (show ¬ (1 : Int32) = 0 by decide), e_in, bn1_some]
      have key : ∀ (A : Option (Int32 × Int32 × Int32 × Int32 × Int32 × Int32 × Int32 × Int32)), (∃ v' : Int32, A = some (v', zn, zt, zp, zv, zg, zf, zfa)) → ∃ (n' : Nat) (v cf' cfa' cn' nf' v' zn' zt' zp' zv' zg' zf' zfa' : Int32), some ((-1 : Int32), zf, zfa, nI (sk T L n), nf) = some (v, cf', cfa', cn', nf') ∧ A = some (v', zn', zt', zp', zv', zg', zf', zfa') ∧ REL T L n' cf' cfa' cn' zn' zt' zp' zv' zg' zf' zfa' ∧ n ≤ n' ∧ (cf' = 0 → zf = 0 ∧ v = v' ∧ lo ≤ v ∧ v ≤ hi) := fun A hA2 => by
        obtain ⟨v', hv'⟩ := hA2
        exact ⟨_, _, _, _, _, _, v', _, _, _, _, _, _, _, rfl, hv', ⟨rfl, s2, rfl, rfl, fun z => absurd z c⟩, s1, fun z => absurd z c⟩
      apply key
      by_cases q1 : (4 : Int32) ≤ zg
      · rw [if_pos q1]; exact ⟨_, rfl⟩
      · rw [if_neg q1]
        by_cases q2 : lo ≤ zv ∧ zv ≤ hi
        · rw [if_pos q2, if_neg (show ¬ (1 : Int32) = 0 by decide)]; exact ⟨_, rfl⟩
        · rw [if_neg q2, if_pos rfl]; exact ⟨_, rfl⟩
    · rw [if_neg ht, zf_1 c, bn2_some]
      exact ⟨_, _, _, _, _, _, _, _, _, _, _, _, _, _, rfl, rfl, ⟨rfl, s2, rfl, rfl, fun z => absurd z c⟩, s1, fun z => absurd z c⟩
