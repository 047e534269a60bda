/-! PURE SIDE: seed, keep, goBack, feed -/
theorem m_seed {hour oats missed seed th n1 : Int32} {strength stands s t : Nat → Int32} {b : Int} (ht : TW t) (hN : RNb b hour oats missed seed strength stands s t) :
    ∃ (rr seed' : Int32) (s' : Nat → Int32), f_X8_seed n1 seed = some (rr, seed') ∧ f_X9_seed n1 th s = some (rr, 0, s') ∧ RNb b hour oats missed seed' strength stands s' t := by
  have hN0 := hN
  obtain ⟨⟨s9, hh0, hhb⟩, ⟨s10, ho0, ho1⟩, s11, ⟨s12, hseed⟩, ⟨s6, s7, s8⟩, hst, hstr⟩ := hN
  obtain ⟨H, h6, e3, eH⟩ := hor_n ht
  unfold f_X8_seed f_X9_seed
  by_cases c : 0 ≤ n1
  · rw [if_pos c, if_pos c]
    refine ⟨seed, n1, upd s 12 n1, rfl, congrArg (fun z => some (z, (0 : Int32), upd s 12 n1)) s12, ⟨by rw [upd_n (by decide)]; exact s9, hh0, hhb⟩, ⟨by rw [upd_n (by decide)]; exact s10, ho0, ho1⟩, by rw [upd_n (by decide)]; exact s11, ⟨by rw [upd_s], c⟩, ⟨by rw [upd_n (by decide)]; exact s6, by rw [upd_n (by decide)]; exact s7, by rw [upd_n (by decide)]; exact s8⟩, hst, fun h hh => ?_⟩
    rw [upd_n (by omega)]; exact hstr h hh
  · rw [if_neg c, if_neg c]
    exact ⟨_, _, _, rfl, rfl, hN0⟩
theorem RNb_ext {b : Int} {hour oats missed seed : Int32} {st st' sn sn' s s' t : Nat → Int32} (ht : TW t) (hN : RNb b hour oats missed seed st sn s t) (h1 : ∀ j, j < 13 → s' j = s j) (h2 : ∀ j, j < 6 → st' j = st j) (h3 : ∀ j, j < 3 → sn' j = sn j) : RNb b hour oats missed seed st' sn' s' t := by
  obtain ⟨⟨s9, hh0, hhb⟩, ⟨s10, ho0, ho1⟩, s11, ⟨s12, hseed⟩, ⟨s6, s7, s8⟩, hst, hstr⟩ := hN
  obtain ⟨H, h6, e3, eH⟩ := hor_n ht
  refine ⟨⟨by rw [h1 9 (by decide)]; exact s9, hh0, hhb⟩, ⟨by rw [h1 10 (by decide)]; exact s10, ho0, ho1⟩, by rw [h1 11 (by decide)]; exact s11, ⟨by rw [h1 12 (by decide)]; exact s12, hseed⟩, ⟨by rw [h1 6 (by decide), h3 0 (by decide)]; exact s6, by rw [h1 7 (by decide), h3 1 (by decide)]; exact s7, by rw [h1 8 (by decide), h3 2 (by decide)]; exact s8⟩, STND_ext h3 hst, fun h hh => ?_⟩
  rw [h1 h (by omega), h2 h (by omega)]; exact hstr h hh
theorem cpy0 {f g : Nat → Int32} {n j : Nat} (h : j < n) : va_cpy f g 0 0 n j = f j := by
  rw [pk_cpy_in (by omega) (by omega)]
  congr 1
  omega
theorem nar_1 : vp_nar .boolean (1 : Int32) = 1 := by decide
theorem keep_loop {s kept : Nat → Int32} {i : Nat} (hi : i < 2) (K : (Nat → Int32) → Option (Int32 × Int32 × (Nat → Int32) × (Nat → Int32))) : lq2 (B_X9_keep_1 K (nI i) s) fu 0 kept = K (fA (13 * i) 13 (fun k _ => s k) kept) := by
  refine fillL (13 * i) 13 (fun k _ => s k) (by omega) (fun rec k w hk => ?_) (fun rec w => ?_) kept
  · have e1 : (13 : Int32) * nI i + nI k = nI (13 * i + k) := by rw [lit_n 13, pk_mul, nI_add]
    unfold B_X9_keep_1
    rw [if_neg (show ¬ (13 : Int32) ≤ nI k from nI_ge (b := 13) hk (by decide)), e1, if_neg (idx_ok rfl (by omega) (by decide)), if_neg (idx_ok rfl (by omega) (by decide)), nI_1, nI_clamp (by omega), nI_clamp (by omega)]
  · unfold B_X9_keep_1
    rw [if_pos (by decide)]
theorem back_loop {s kept : Nat → Int32} {i : Nat} (hi : i < 2) (K : (Nat → Int32) → Option (Int32 × Int32 × (Nat → Int32))) : lq2 (B_X9_goBack_1 K (nI i) kept) fu 0 s = K (fA 0 13 (fun k _ => kept (13 * i + k)) s) := by
  refine fillL 0 13 (fun k _ => kept (13 * i + k)) (by omega) (fun rec k w hk => ?_) (fun rec w => ?_) s
  · have e1 : (13 : Int32) * nI i + nI k = nI (13 * i + k) := by rw [lit_n 13, pk_mul, nI_add]
    unfold B_X9_goBack_1
    rw [if_neg (show ¬ (13 : Int32) ≤ nI k from nI_ge (b := 13) hk (by decide)), e1, if_neg (idx_ok rfl (by omega) (by decide)), if_neg (idx_ok rfl (by omega) (by decide)), nI_1, nI_clamp (by omega), nI_clamp (by omega), Nat.zero_add]
  · unfold B_X9_goBack_1
    rw [if_pos (by decide)]
theorem RI_ext {n : Nat} {hour oats missed seed kept ik ik' : Int32} {st sn k k' t : Nat → Int32} (ht : TW t) (h : RI n hour oats missed seed kept st sn k ik t) (h1 : ∀ j, j < 13 → k' j = k j) (h2 : ik' = ik) : RI n hour oats missed seed kept st sn k' ik' t :=
  ⟨h.1, by rw [h2]; exact h.2.1, fun z => RNb_ext ht (h.2.2 z) h1 (fun _ _ => rfl) (fun _ _ => rfl)⟩
theorem m_keep {n : Nat} {hour oats missed seed ih io im is ik jh jo jm js jk th n1 : Int32} {strength stands s t ist isn jst jsn kept isk : Nat → Int32} (ht : TW t) (hN : RN n hour oats missed seed strength stands s t)
    (hi : RI n ih io im is ik ist isn kept (isk 0) t) (hj : RI n jh jo jm js jk jst jsn (fun j => kept (13 + j)) (isk 1) t) :
    ∃ (rr ih' io' im' is' ik' : Int32) (ist' isn' : Nat → Int32) (jh' jo' jm' js' jk' : Int32) (jst' jsn' kept' isk' : Nat → Int32),
      f_X8_keep n1 hour oats missed seed strength stands ih io im is ik ist isn jh jo jm js jk jst jsn = some (rr, ih', io', im', is', ik', ist', isn', jh', jo', jm', js', jk', jst', jsn') ∧ f_X9_keep n1 th s kept isk = some (rr, 0, kept', isk') ∧
      RI n ih' io' im' is' ik' ist' isn' kept' (isk' 0) t ∧ RI n jh' jo' jm' js' jk' jst' jsn' (fun j => kept' (13 + j)) (isk' 1) t := by
  unfold f_X8_keep f_X9_keep f_X5_copyFrom
  by_cases c : 0 ≤ n1 ∧ n1 ≤ 1
  · obtain ⟨i, hi1, ei⟩ := nI_of2 (M := 1) (n := 1) rfl (x := n1) (by grind) c.2
    rw [if_neg (show ¬ n1 < 0 by grind), if_pos c.2, in_t c.1 c.2, bn1_some, if_neg (show ¬ (1 : Int32) = 0 by decide), jn1_d]
    subst ei
    have hL := fun K => keep_loop (s := s) (kept := kept) (i := i) (by omega) K
    have hi01 : i = 0 ∨ i = 1 := by omega
    rcases hi01 with rfl | rfl
    · rw [if_pos (show nI 0 = 0 from rfl), bn6_some]
      refine ⟨_, _, _, _, _, _, _, _, _, _, _, _, _, _, _, fA (13 * 0) 13 (fun k _ => s k) kept, upd isk 0 1, rfl, ?_, ?_, ?_⟩
      · refine (hL _).trans ?_
        rw [if_neg (idx_ok (k := 0) rfl (by decide) (by decide)), nar_1]; rfl
      · refine ⟨Or.inr rfl, by rw [upd_s], fun _ => RNb_ext ht hN (fun j hj => fA_in (by omega)) (fun j hj => cpy0 hj) (fun j hj => cpy0 hj)⟩
      · refine RI_ext ht hj (fun j hj => ?_) (by rw [upd_n (by decide)])
        exact fA_out (by omega)
    · rw [if_neg (show ¬ nI 1 = 0 by decide), bn6_some]
      refine ⟨_, _, _, _, _, _, _, _, _, _, _, _, _, _, _, fA (13 * 1) 13 (fun k _ => s k) kept, upd isk 1 1, rfl, ?_, ?_, ?_⟩
      · refine (hL _).trans ?_
        rw [if_neg (idx_ok (k := 1) rfl (by decide) (by decide)), nar_1]; rfl
      · refine RI_ext ht hi (fun j hj => ?_) (by rw [upd_n (by decide)])
        exact fA_out (by omega)
      · refine ⟨Or.inr rfl, by rw [upd_s], fun _ => RNb_ext ht hN (fun j hj => ?_) (fun j hj => cpy0 hj) (fun j hj => cpy0 hj)⟩
        show fA (13 * 1) 13 (fun k _ => s k) kept (13 + j) = s j
        rw [fA_in (by omega)]
        congr 1
        omega
  · rw [in_f c, bn1_some, if_pos rfl]
    by_cases c2 : n1 < 0
    · rw [if_pos c2]
      exact ⟨_, _, _, _, _, _, _, _, _, _, _, _, _, _, _, _, _, rfl, rfl, hi, hj⟩
    · rw [if_neg c2, if_neg (show ¬ n1 ≤ 1 by grind)]
      exact ⟨_, _, _, _, _, _, _, _, _, _, _, _, _, _, _, _, _, rfl, rfl, hi, hj⟩
theorem back_one {n : Nat} {hour oats missed seed ih io im is ik : Int32} {s t ist isn kept strength stands : Nat → Int32} {i : Nat} (ht : TW t) (hi2 : i < 2) (hI : RI n ih io im is ik ist isn (fun j => kept (13 * i + j)) ik t) (hk : ik ≠ 0) :
    RN n ih io im is (va_cpy ist strength 0 0 6) (va_cpy isn stands 0 0 3) (fA 0 13 (fun k _ => kept (13 * i + k)) s) t :=
  RNb_ext ht (hI.2.2 (hI.1.resolve_left hk)) (fun j hj => by rw [fA_0 hj]) (fun j hj => cpy0 hj) (fun j hj => cpy0 hj)
theorem m_goBack {n : Nat} {hour oats missed seed ih io im is ik jh jo jm js jk th n1 pk gk : Int32} {strength stands s t ist isn jst jsn kept isk : Nat → Int32} (ht : TW t) (hN : RN n hour oats missed seed strength stands s t)
    (hi : RI n ih io im is ik ist isn kept (isk 0) t) (hj : RI n jh jo jm js jk jst jsn (fun j => kept (13 + j)) (isk 1) t) :
    ∃ (rr hour' oats' missed' seed' : Int32) (strength' stands' : Nat → Int32) (pk' gk' : Int32) (s' : Nat → Int32),
      f_X8_goBack n1 hour oats missed seed strength stands ih io im is ik ist isn jh jo jm js jk jst jsn pk gk = some (rr, hour', oats', missed', seed', strength', stands', pk', gk') ∧ f_X9_goBack n1 th s kept isk = some (rr, 0, s') ∧
      RN n hour' oats' missed' seed' strength' stands' s' t ∧ ((pk' = 0 ∧ gk' = 0) ∨ (pk' = pk ∧ gk' = gk ∧ hour' = hour ∧ strength' = strength)) := by
  unfold f_X8_goBack f_X9_goBack f_X5_copyFrom f_X8_forgetTried
  by_cases c : 0 ≤ n1 ∧ n1 ≤ 1
  · obtain ⟨i, hi1, ei⟩ := nI_of2 (M := 1) (n := 1) rfl (x := n1) (by grind) c.2
    rw [if_neg (show ¬ n1 < 0 by grind), if_pos c.2, in_t c.1 c.2, bn1_some, if_neg (show ¬ (1 : Int32) = 0 by decide), jn1_d]
    subst ei
    have hL := fun K => back_loop (s := s) (kept := kept) (i := i) (by omega) K
    rw [if_neg (idx_ok (k := i) rfl (by omega) (by decide)), nI_clamp (by omega)]
    have hi01 : i = 0 ∨ i = 1 := by omega
    rcases hi01 with rfl | rfl
    · rw [if_pos (show nI 0 = 0 from rfl), hi.2.1]
      by_cases c2 : ik = 0
      · rw [if_pos c2, if_pos c2]
        exact ⟨_, _, _, _, _, _, _, _, _, _, rfl, rfl, hN, Or.inr ⟨rfl, rfl, rfl, rfl⟩⟩
      · rw [if_neg c2, if_neg c2, bn6_some, bn2_some]
        refine ⟨_, _, _, _, _, _, _, _, _, fA 0 13 (fun k _ => kept (13 * 0 + k)) s, rfl, ?_, back_one (hour := hour) (oats := oats) (missed := missed) (seed := seed) ht (by decide) ?_ c2, Or.inl ⟨rfl, rfl⟩⟩
        · exact hL _
        · exact ⟨hi.1, rfl, fun z => RNb_ext ht (hi.2.2 z) (fun j hj => congrArg kept (by omega)) (fun _ _ => rfl) (fun _ _ => rfl)⟩
    · rw [if_neg (show ¬ nI 1 = 0 by decide), hj.2.1]
      by_cases c2 : jk = 0
      · rw [if_pos c2, if_pos c2]
        exact ⟨_, _, _, _, _, _, _, _, _, _, rfl, rfl, hN, Or.inr ⟨rfl, rfl, rfl, rfl⟩⟩
      · rw [if_neg c2, if_neg c2, bn6_some, bn2_some]
        refine ⟨_, _, _, _, _, _, _, _, _, fA 0 13 (fun k _ => kept (13 * 1 + k)) s, rfl, ?_, back_one (hour := hour) (oats := oats) (missed := missed) (seed := seed) ht (by decide) ?_ c2, Or.inl ⟨rfl, rfl⟩⟩
        · exact hL _
        · exact ⟨hj.1, rfl, fun z => RNb_ext ht (hj.2.2 z) (fun j hj => congrArg kept (by omega)) (fun _ _ => rfl) (fun _ _ => rfl)⟩
  · rw [in_f c, bn1_some, if_pos rfl]
    by_cases c2 : n1 < 0
    · rw [if_pos c2]
      exact ⟨_, _, _, _, _, _, _, _, _, _, rfl, rfl, hN, Or.inr ⟨rfl, rfl, rfl, rfl⟩⟩
    · rw [if_neg c2, if_neg (show ¬ n1 ≤ 1 by grind)]
      exact ⟨_, _, _, _, _, _, _, _, _, _, rfl, rfl, hN, Or.inr ⟨rfl, rfl, rfl, rfl⟩⟩
/-- byte j of a long, from the lowest -/
def fB (x : Int64) (j : Nat) : Int32 := ((x.toUInt64 >>> (((8 : Int32) * nI j).toInt64.toUInt64 &&& Int64.toUInt64 63)).toInt64).toInt32 &&& (255 : Int32)
theorem fB_b (x : Int64) (j : Nat) : 0 ≤ fB x j ∧ fB x j ≤ 255 := by
  unfold fB
  obtain ⟨k, hk, e⟩ := pk_andE ((x.toUInt64 >>> (((8 : Int32) * nI j).toInt64.toUInt64 &&& Int64.toUInt64 63)).toInt64).toInt32 (m := 255) 8 (by decide)
  rw [e]
  exact ⟨nI_pos' (by omega), nI_le (a := k) (b := 255) (by omega) (by decide)⟩
theorem sh_low (x : BitVec 64) (s : Nat) (hs : s ≤ 56) : ((x.sshiftRight s) &&& (255#64)).signExtend 32 = ((x >>> s).signExtend 32) &&& 255#32 := by
  apply BitVec.eq_of_getLsbD_eq
  intro i hi
  have h255 : ∀ w, (BitVec.ofNat w 255).getLsbD i = (decide (i < w) && decide (i < 8)) := fun w => by
    rw [show (255 : Nat) = 2 ^ 8 - 1 from rfl, BitVec.getLsbD_ofNat, Nat.testBit_two_pow_sub_one]
  rw [BitVec.getLsbD_signExtend, BitVec.getLsbD_and, BitVec.getLsbD_and, BitVec.getLsbD_signExtend, h255, h255, BitVec.getLsbD_sshiftRight, BitVec.getLsbD_ushiftRight]
  by_cases c : i < 8
  · have h1 : s + i < 64 := by omega
    have h2 : ¬ 64 ≤ i := by omega
    have h3 : i < 64 := by omega
    simp [hi, c, h1, h2, h3]
  · simp [c]
    omega
theorem fB_m (x : Int64) {j : Nat} (hj : j < 8) : ((x >>> (((8 : Int32) * nI j).toInt64 &&& 63)) &&& (255 : Int64)).toInt32 = fB x j := by
  unfold fB
  apply Int32.toBitVec_inj.mp
  rw [Int32.toBitVec_and, Int64.toBitVec_toInt32, Int64.toBitVec_and, Int64.toBitVec_shiftRight, Int64.toBitVec_toInt32]
  have key : ∀ (s : Nat), s ≤ 56 → (((8 : Int32) * nI j).toInt64 &&& 63).toBitVec = BitVec.ofNat 64 s → (((8 : Int32) * nI j).toInt64.toUInt64 &&& Int64.toUInt64 63).toBitVec = BitVec.ofNat 64 s → (BitVec.sshiftRight' x.toBitVec ((((8 : Int32) * nI j).toInt64 &&& 63).toBitVec.smod 64) &&& (255 : Int64).toBitVec).signExtend 32 = ((x.toUInt64 >>> (((8 : Int32) * nI j).toInt64.toUInt64 &&& Int64.toUInt64 63)).toInt64.toBitVec).signExtend 32 &&& (255 : Int32).toBitVec := by
    intro s hs e1 e2
    have e3 : (x.toUInt64 >>> (((8 : Int32) * nI j).toInt64.toUInt64 &&& Int64.toUInt64 63)).toInt64.toBitVec = x.toBitVec >>> s := by
      show (x.toUInt64 >>> (((8 : Int32) * nI j).toInt64.toUInt64 &&& Int64.toUInt64 63)).toBitVec = _
      rw [UInt64.toBitVec_shiftRight, e2]
      show x.toBitVec >>> (BitVec.ofNat 64 s % 64) = _
      have : (BitVec.ofNat 64 s % 64).toNat = s := by
        show (s % 2 ^ 64) % 64 = s
        omega
      rw [BitVec.ushiftRight_eq', this]
    rw [e1, e3]
    have e4 : ((BitVec.ofNat 64 s).smod 64).toNat = s := by
      have : s < 57 := by omega
      revert this
      clear hs e1 e2 e3
      revert s
      decide
    show (x.toBitVec.sshiftRight ((BitVec.ofNat 64 s).smod 64).toNat &&& 255#64).signExtend 32 = _
    rw [e4]
    exact sh_low _ s hs
  have : j = 0 ∨ j = 1 ∨ j = 2 ∨ j = 3 ∨ j = 4 ∨ j = 5 ∨ j = 6 ∨ j = 7 := by omega
  rcases this with rfl | rfl | rfl | rfl | rfl | rfl | rfl | rfl
  · exact key 0 (by decide) (by decide) (by decide)
  · exact key 8 (by decide) (by decide) (by decide)
  · exact key 16 (by decide) (by decide) (by decide)
  · exact key 24 (by decide) (by decide) (by decide)
  · exact key 32 (by decide) (by decide) (by decide)
  · exact key 40 (by decide) (by decide) (by decide)
  · exact key 48 (by decide) (by decide) (by decide)
  · exact key 56 (by decide) (by decide) (by decide)
theorem fA_s {off k : Nat} {val : Nat → Int32 → Int32} {w : Nat → Int32} : upd (fA off k val w) (off + k) (val k (w (off + k))) = fA off (k + 1) val w := by
  funext j
  rw [upd_at]
  unfold fA
  by_cases e : j = off + k
  · subst e
    rw [if_pos rfl, if_pos (by omega), show off + k - off = k by omega]
  · rw [if_neg e]
    by_cases e2 : off ≤ j ∧ j < off + k
    · rw [if_pos e2, if_pos (by omega)]
    · rw [if_neg e2, if_neg (by omega)]
theorem cfeed_loop {x : Int64} {n L : Nat} {text : Nat → Int32} (hn : n ≤ 8) (hL : L + n ≤ 500) (K : Int32 → (Nat → Int32) → Option (Int32 × Int32 × (Nat → Int32))) :
    lq3 (B_X8_feed_1 K x) fu (nI n - 1) (nI L) text = K (nI (L + n)) (fA L n (fun k _ => fB x (n - 1 - k)) text) := by
  refine lq3_inv (fun k y l tx => y = nI n - 1 - nI k ∧ l = nI (L + k) ∧ tx = fA L k (fun k _ => fB x (n - 1 - k)) text) (fun o => o = K (nI (L + n)) (fA L n (fun k _ => fB x (n - 1 - k)) text)) n ?_ ?_ fu 0 _ _ _ (by omega) (by unfold fu; omega) ⟨?_, rfl, ?_⟩
  · rintro rec k y l tx hk ⟨rfl, rfl, rfl⟩
    refine Or.inl ⟨nI n - 1 - nI (k + 1), nI (L + (k + 1)), fA L (k + 1) (fun k _ => fB x (n - 1 - k)) text, ⟨rfl, rfl, rfl⟩, ?_⟩
    have ey : nI n - 1 - nI k = nI (n - 1 - k) := by rw [show (1 : Int32) = nI 1 from rfl, pk_sub (by omega), pk_sub (by omega)]
    unfold B_X8_feed_1 f_X4_append
    rw [ey, if_neg (nI_pos (by omega)), if_neg (show ¬ (500 : Int32) ≤ nI (L + k) from nI_ge (b := 500) (by omega) (by decide)), if_neg (idx_ok rfl (by omega) (by decide)), bn2_some, nI_clamp (by omega), nI_1]
    have e1 : nI (n - 1 - k) + -1 = nI n - 1 - nI (k + 1) := by
      rw [← ey, ← nI_1]
      simp only [Int32.sub_eq_add_neg, Int32.neg_add, Int32.add_assoc]
    rw [e1, ← fA_s]
    rfl
  · rintro rec y l tx ⟨rfl, rfl, rfl⟩
    unfold B_X8_feed_1
    rw [if_pos]
    rw [show nI n - 1 - nI n = -1 by rw [Int32.sub_eq_add_neg, Int32.sub_eq_add_neg, Int32.add_comm (nI n), Int32.add_assoc, ← Int32.sub_eq_add_neg (nI n), Int32.sub_self]; rfl]
    decide
  · rw [show nI 0 = 0 from rfl, Int32.sub_zero]
  · funext j; unfold fA; rw [if_neg (by omega)]
theorem mfeed_loop {x : Int64} {n L : Nat} {text : Nat → Int32} (hn : n ≤ 8) (hL : L + n ≤ 500) (K : Int32 → (Nat → Int32) → Option (Int32 × Int32 × Int32 × (Nat → Int32))) :
    lq3 (B_X9_feed_1 (nI n) K x) fu 0 (nI L) text = K (nI (L + n)) (fA L n (fun k _ => fB x (n - 1 - k)) text) := by
  refine lq3_inv (fun k y l tx => y = nI k ∧ l = nI (L + k) ∧ tx = fA L k (fun k _ => fB x (n - 1 - k)) text) (fun o => o = K (nI (L + n)) (fA L n (fun k _ => fB x (n - 1 - k)) text)) n ?_ ?_ fu 0 _ _ _ (by omega) (by unfold fu; omega) ⟨rfl, rfl, ?_⟩
  · rintro rec k y l tx hk ⟨rfl, rfl, rfl⟩
    refine Or.inl ⟨nI (k + 1), nI (L + (k + 1)), fA L (k + 1) (fun k _ => fB x (n - 1 - k)) text, ⟨rfl, rfl, rfl⟩, ?_⟩
    have ey : nI n - 1 - nI k = nI (n - 1 - k) := by rw [show (1 : Int32) = nI 1 from rfl, pk_sub (by omega), pk_sub (by omega)]
    unfold B_X9_feed_1
    rw [ey, if_neg (nI_ge hk (by omega)), if_neg (idx_ok rfl (by omega) (by decide)), nI_clamp (by omega), fB_m x (by omega), nI_1, nI_1, ← fA_s]
    rfl
  · rintro rec y l tx ⟨rfl, rfl, rfl⟩
    unfold B_X9_feed_1
    rw [if_pos (Int32.le_refl _)]
  · funext j; unfold fA; rw [if_neg (by omega)]
theorem m_feed {length typed th n1 : Int32} {x : Int64} {text ztext : Nat → Int32} (hX : RX length typed text ztext) :
    ∃ (rr length' : Int32) (text' : Nat → Int32) (typed' : Int32) (ztext' : Nat → Int32), f_X8_feed n1 x length text = some (rr, length', text') ∧ f_X9_feed n1 x th typed ztext = some (rr, 0, typed', ztext') ∧ RX length' typed' text' ztext' := by
  have hX0 := hX
  obtain ⟨⟨rfl, h0, h500⟩, hx⟩ := hX
  obtain ⟨L, hL, eL⟩ := nI_of2 (M := 500) (n := 500) rfl (x := length) (by grind) h500
  subst eL
  unfold f_X8_feed f_X9_feed
  by_cases c : 1 ≤ n1 ∧ n1 ≤ 8
  · obtain ⟨n, hn, en⟩ := nI_of2 (M := 8) (n := 8) rfl (x := n1) (by grind) c.2
    subst en
    rw [if_neg (show ¬ nI n < 1 by grind), if_pos c.2, in_t c.1 c.2, bn1_some, if_neg (show ¬ (1 : Int32) = 0 by decide), nI_add]
    by_cases c2 : L + n ≤ 500
    · have e5 : nI (L + n) ≤ 500 := nI_le (b := 500) c2 (by decide)
      rw [if_pos e5, if_pos e5, jn2_d, jn2_d]
      refine ⟨nI (L + n), nI (L + n), fA L n (fun k _ => fB x (n - 1 - k)) text, nI (L + n), fA L n (fun k _ => fB x (n - 1 - k)) ztext, cfeed_loop hn c2 _, mfeed_loop hn c2 _, ⟨rfl, nI_pos' (by omega), e5⟩, fun k hk => ?_⟩
      rw [nI_clamp (by omega)] at hk
      rw [nI_clamp (by omega)] at hx
      by_cases c3 : L ≤ k
      · rw [fA_in (by omega), fA_in (by omega)]
        exact ⟨rfl, fB_b _ _⟩
      · rw [fA_out (by omega), fA_out (by omega)]
        exact hx k (by omega)
    · have e5 : ¬ nI (L + n) ≤ 500 := nI_ge (a := 500) (by omega) (by omega)
      rw [if_neg e5, if_neg e5]
      exact ⟨_, _, _, _, _, rfl, rfl, hX0⟩
  · rw [in_f c, bn1_some, if_pos rfl]
    by_cases c2 : n1 < 1
    · rw [if_pos c2]
      exact ⟨_, _, _, _, _, rfl, rfl, hX0⟩
    · rw [if_neg c2, if_neg (show ¬ n1 ≤ 8 by grind)]
      exact ⟨_, _, _, _, _, rfl, rfl, hX0⟩
