/-! PURE SIDE: a clause, all clauses, of both (written by wip/whole/gen/mkloop.py) -/
theorem cl_fail {cfa zn zt zp zv zg isDue y1 its : Int32} {dr pr Z : Nat → Int32} {L : Nat} (hm : zt ≠ 0) (hf : f_X9_faultOf y1 zt zv isDue dr = some its) (h1 : ¬ its ≤ 0) : ∀ K rec, B_X9_ferry_2 K (nI L) Z rec y1 zn zt zp zv zg 0 cfa isDue dr pr = rec 0 zn zt zp zv zg its zp isDue dr pr := fun K rec => by
  unfold B_X9_ferry_2
  rw [wl_0, bn1_some, if_neg (show ¬ (1 : Int32) = 0 by decide), if_neg hm, hf, bn1_some, jn10_e, if_neg h1, zf_0, bn2_some]
theorem cl_both {law places broad horses blinds besides tideN cartN due cfa nf zn zt zp zv zg isDue : Int32} {prs : Int64} {pull str back moods tides carts dr pr T Z : Nat → Int32} {L n : Nat} {y1 : Int32} (hX : TX T Z L) (hn : n ≤ L) (hA : ADV T L n zn zt zp zv zg) (hD : RD law places broad horses blinds besides tideN cartN due prs pull str back moods tides carts dr isDue pr) (hm : sk T L n < L) (hy : y1 = if places = 0 then 1 else 0) :
    ∃ (n' : Nat) (cf' cfa' cn' nf' : Int32) (law' : Int32) (places' : Int32) (broad' : Int32) (horses' : Int32) (blinds' : Int32) (besides' : Int32) (tideN' : Int32) (cartN' : Int32) (due' : Int32) (prs' : Int64) (pull' : Nat → Int32) (str' : Nat → Int32) (back' : Nat → Int32) (moods' : Nat → Int32) (tides' : Nat → Int32) (carts' : Nat → Int32) (zn' zt' zp' zv' zg' zf' zfa' isDue' : Int32) (dr' pr' : Nat → Int32), f_X4_readClause (nI L) 0 cfa (nI (sk T L n)) nf T law places broad horses blinds besides tideN cartN due prs pull str back moods tides carts = some (cf', cfa', cn', nf', law', places', broad', horses', blinds', besides', tideN', cartN', due', prs', pull', str', back', moods', tides', carts') ∧ (∀ K rec, B_X9_ferry_2 K (nI L) Z rec y1 zn zt zp zv zg 0 cfa isDue dr pr = rec 0 zn' zt' zp' zv' zg' zf' zfa' isDue' dr' pr') ∧ REL T L n' cf' cfa' cn' zn' zt' zp' zv' zg' zf' zfa' ∧ (cf' = 0 → n < n' ∧ RD law' places' broad' horses' blinds' besides' tideN' cartN' due' prs' pull' str' back' moods' tides' carts' dr' isDue' pr' ∧ places' ≠ 0) := by
  have hL := hX.1
  obtain ⟨s1, s2, s3⟩ := sk_f (T := T) hn
  obtain ⟨w1, w2, w3, w4⟩ := we_f (T := T) (L := L) (n := sk T L n) s2
  have hpos : ∀ k, sk T L n ≤ k → k < we T L (sk T L n) → 0 ≤ (T k).toInt := fun k h1 h2 => by have := ltr_b (w3 k h1 h2); omega
  obtain ⟨hp, hA2⟩ := id hA
  have hzt : zt ≠ 0 := by
    rcases hA2 with h | h | h | h
    · exact absurd hm h.1
    · rw [h.2.1]; decide
    · rw [h.2.1]; decide
    · rcases h.2.2.2.1 with z | z
      · rw [z.1]; decide
      · rw [z.1]; decide
  have hcl0 : f_X4_readClause (nI L) 0 cfa (nI (sk T L n)) nf T law places broad horses blinds besides tideN cartN due prs pull str back moods tides carts = bn1 (some (kd (rl T (sk T L n) (we T L (sk T L n) - sk T L n)))) (fun (r_2 : Int32) => jn1 (fun (u_3 : Unit) => bn2 (f_X4_fail (1 : Int32) (nI (sk T L n)) 0 cfa) (fun (r_fault_4 : Int32) (r_faultAt_4 : Int32) => some (r_fault_4, r_faultAt_4, nI (sk T L n), nf, law, places, broad, horses, blinds, besides, tideN, cartN, due, prs, pull, str, back, moods, tides, carts))) (fun J32_3 => if r_2 = (-1 : Int32) then J32_3 () else jn1 (fun (u_5 : Unit) => bn1 (f_X4_isTooMany r_2 places horses besides tideN cartN due) (fun (r_6 : Int32) => if r_6 = 0 then f_X4_readParts r_2 (nI L) 0 cfa (nI (we T L (sk T L n))) nf T law places broad horses blinds besides tideN cartN due prs pull str back moods tides carts else bn2 (f_X4_fail (3 : Int32) (nI (sk T L n)) 0 cfa) (fun (r_fault_9 : Int32) (r_faultAt_9 : Int32) => some (r_fault_9, r_faultAt_9, nI (sk T L n), nf, law, places, broad, horses, blinds, besides, tideN, cartN, due, prs, pull, str, back, moods, tides, carts)))) (fun J41_5 => if r_2 = 0 then J41_5 () else if places = 0 then J32_3 () else J41_5 ()))) := by
    unfold f_X4_readClause
    rw [e_wordEnd hL s2, bn1_some, e_kindOf w1 (by omega) hpos]
    have hid : ∀ (r : Int32), bn1 (some (nI (we T L (sk T L n)))) (fun (r_7 : Int32) => bn20 (f_X4_readParts r (nI L) 0 cfa r_7 nf T law places broad horses blinds besides tideN cartN due prs pull str back moods tides carts) (fun a1 a2 a3 a4 a5 a6 a7 a8 a9 a10 a11 a12 a13 a14 a15 a16 a17 a18 a19 a20 => some (a1, a2, a3, a4, a5, a6, a7, a8, a9, a10, a11, a12, a13, a14, a15, a16, a17, a18, a19, a20))) = f_X4_readParts r (nI L) 0 cfa (nI (we T L (sk T L n))) nf T law places broad horses blinds besides tideN cartN due prs pull str back moods tides carts := fun r => by
      rw [bn1_some]
      cases f_X4_readParts r (nI L) 0 cfa (nI (we T L (sk T L n))) nf T law places broad horses blinds besides tideN cartN due prs pull str back moods tides carts <;> rfl
    simp only [hid]
  -- a fault at this word
  have hfail : ∀ (k its : Int32), f_X4_readClause (nI L) 0 cfa (nI (sk T L n)) nf T law places broad horses blinds besides tideN cartN due prs pull str back moods tides carts = some (its, nI (sk T L n), nI (sk T L n), nf, law, places, broad, horses, blinds, besides, tideN, cartN, due, prs, pull, str, back, moods, tides, carts) → its ≠ 0 → ¬ its ≤ 0 → f_X9_faultOf y1 zt zv isDue dr = some its → (∃ (n' : Nat) (cf' cfa' cn' nf' : Int32) (law' : Int32) (places' : Int32) (broad' : Int32) (horses' : Int32) (blinds' : Int32) (besides' : Int32) (tideN' : Int32) (cartN' : Int32) (due' : Int32) (prs' : Int64) (pull' : Nat → Int32) (str' : Nat → Int32) (back' : Nat → Int32) (moods' : Nat → Int32) (tides' : Nat → Int32) (carts' : Nat → Int32) (zn' zt' zp' zv' zg' zf' zfa' isDue' : Int32) (dr' pr' : Nat → Int32), f_X4_readClause (nI L) 0 cfa (nI (sk T L n)) nf T law places broad horses blinds besides tideN cartN due prs pull str back moods tides carts = some (cf', cfa', cn', nf', law', places', broad', horses', blinds', besides', tideN', cartN', due', prs', pull', str', back', moods', tides', carts') ∧ (∀ K rec, B_X9_ferry_2 K (nI L) Z rec y1 zn zt zp zv zg 0 cfa isDue dr pr = rec 0 zn' zt' zp' zv' zg' zf' zfa' isDue' dr' pr') ∧ REL T L n' cf' cfa' cn' zn' zt' zp' zv' zg' zf' zfa' ∧ (cf' = 0 → n < n' ∧ RD law' places' broad' horses' blinds' besides' tideN' cartN' due' prs' pull' str' back' moods' tides' carts' dr' isDue' pr' ∧ places' ≠ 0)) := by
    intro k its hc h0 h1 hf
    exact ⟨sk T L n, _, _, _, _, _, _, _, _, _, _, _, _, _, _, _, _, _, _, _, _, _, _, _, _, _, _, _, _, _, _,  hc, cl_fail hzt hf h1, ⟨rfl, s2, rfl, hp, fun z => absurd z h0⟩, fun z => absurd z h0⟩
  by_cases hl : ltr T L (sk T L n)
  · have hgt := we_gt hl
    rcases hA2 with h | h | h | h
    · exact absurd hm h.1
    · obtain ⟨-, ht, hv, hz⟩ := h
      have hkw := kd_wk (rl T (sk T L n) (we T L (sk T L n) - sk T L n))
      rw [← hv] at hkw
      rcases hkw with ⟨k1, k2⟩ | ⟨k, hk, k1, k2⟩
      · refine hfail 0 1 ?_ (by decide) (by decide) ?_
        · rw [hcl0, k1, bn1_some, fl_0]; rfl
        · rw [ht]
          refine fo_nk ?_
          rcases k2 with z | z | z
          · rw [z]; decide
          · rw [z.2]; decide
          · rw [z.2]; decide
      · -- what the clause itself does
        have hgo : f_X9_faultOf y1 zt zv isDue dr = some 0 → f_X4_readClause (nI L) 0 cfa (nI (sk T L n)) nf T law places broad horses blinds besides tideN cartN due prs pull str back moods tides carts = f_X4_readParts (nI k) (nI L) 0 cfa (nI (we T L (sk T L n))) nf T law places broad horses blinds besides tideN cartN due prs pull str back moods tides carts → (∀ (zn zt zp zv zg : Int32), ADV T L (we T L (sk T L n)) zn zt zp zv zg → ∃ (n' : Nat) (cf' cfa' cn' nf' : Int32) (law' : Int32) (places' : Int32) (broad' : Int32) (horses' : Int32) (blinds' : Int32) (besides' : Int32) (tideN' : Int32) (cartN' : Int32) (due' : Int32) (prs' : Int64) (pull' : Nat → Int32) (str' : Nat → Int32) (back' : Nat → Int32) (moods' : Nat → Int32) (tides' : Nat → Int32) (carts' : Nat → Int32) (zn' zt' zp' zv' zg' zf' zfa' isDue' : Int32) (dr' pr' : Nat → Int32), f_X4_readParts (nI k) (nI L) 0 cfa (nI (we T L (sk T L n))) nf T law places broad horses blinds besides tideN cartN due prs pull str back moods tides carts = some (cf', cfa', cn', nf', law', places', broad', horses', blinds', besides', tideN', cartN', due', prs', pull', str', back', moods', tides', carts') ∧ f_X9_clause (nI k) (nI L) zn zt zp zv zg 0 cfa isDue Z dr pr = some (zn', zt', zp', zv', zg', zf', zfa', isDue', dr', pr') ∧ REL T L n' cf' cfa' cn' zn' zt' zp' zv' zg' zf' zfa' ∧ we T L (sk T L n) ≤ n' ∧ (cf' = 0 → RD law' places' broad' horses' blinds' besides' tideN' cartN' due' prs' pull' str' back' moods' tides' carts' dr' isDue' pr' ∧ places' ≠ 0)) → (∃ (n' : Nat) (cf' cfa' cn' nf' : Int32) (law' : Int32) (places' : Int32) (broad' : Int32) (horses' : Int32) (blinds' : Int32) (besides' : Int32) (tideN' : Int32) (cartN' : Int32) (due' : Int32) (prs' : Int64) (pull' : Nat → Int32) (str' : Nat → Int32) (back' : Nat → Int32) (moods' : Nat → Int32) (tides' : Nat → Int32) (carts' : Nat → Int32) (zn' zt' zp' zv' zg' zf' zfa' isDue' : Int32) (dr' pr' : Nat → Int32), f_X4_readClause (nI L) 0 cfa (nI (sk T L n)) nf T law places broad horses blinds besides tideN cartN due prs pull str back moods tides carts = some (cf', cfa', cn', nf', law', places', broad', horses', blinds', besides', tideN', cartN', due', prs', pull', str', back', moods', tides', carts') ∧ (∀ K rec, B_X9_ferry_2 K (nI L) Z rec y1 zn zt zp zv zg 0 cfa isDue dr pr = rec 0 zn' zt' zp' zv' zg' zf' zfa' isDue' dr' pr') ∧ REL T L n' cf' cfa' cn' zn' zt' zp' zv' zg' zf' zfa' ∧ (cf' = 0 → n < n' ∧ RD law' places' broad' horses' blinds' besides' tideN' cartN' due' prs' pull' str' back' moods' tides' carts' dr' isDue' pr' ∧ places' ≠ 0)) := by
          intro hf hc hgo
          obtain ⟨zn1, zt1, zp1, zv1, zg1, t1, t2⟩ := tk_ok (n1 := 1) (n2 := 1) (zt := zt) (zp := zp) (zv := zv) (zg := zg) (zfa := cfa) hX w2 (by decide)
          obtain ⟨n', cf', cfa', cn', nf', law', places', broad', horses', blinds', besides', tideN', cartN', due', prs', pull', str', back', moods', tides', carts', zn', zt', zp', zv', zg', zf', zfa', isDue', dr', pr', q1, q2, q3, q4, q5⟩ := hgo zn1 zt1 zp1 zv1 zg1 t2
          refine ⟨n', cf', cfa', cn', nf', law', places', broad', horses', blinds', besides', tideN', cartN', due', prs', pull', str', back', moods', tides', carts', zn', zt', zp', zv', zg', zf', zfa', isDue', dr', pr', hc.trans q1, fun K rec => ?_, q3, fun z => ⟨by omega, q5 z⟩⟩
          unfold B_X9_ferry_2
          rw [wl_0, bn1_some, if_neg (show ¬ (1 : Int32) = 0 by decide), if_neg hzt, hf, bn1_some, jn10_e, if_pos (by decide), hz, t1, bn8_some, k2, q2, bn10_some]
        have hDD := hD
        obtain ⟨⟨⟨a1, a2, a3⟩, b1, b2, hbr, ⟨ho1, ho2, ho3⟩, ⟨ca1, ca2, ca3⟩, hdu, ⟨ti1, ti2, ti3⟩, -⟩, ⟨be1, be2, be3⟩, r2, -⟩ := hD
        by_cases hk0 : k = 0
        · subst hk0
          by_cases hpl : places = 0
          · rw [if_pos hpl] at hy
            refine hgo (by rw [hy, ht, k2]; exact fo_a) ?_ (fun zn zt zp zv zg hAA => c_belt hX w2 hAA hDD)
            rw [hcl0, k1, bn1_some]
            dsimp only [jn1]
            rw [if_neg (show ¬ nI 0 = -1 by decide), if_pos (show nI 0 = 0 by decide), show f_X4_isTooMany (nI 0) places horses besides tideN cartN due = some 0 by rw [show nI 0 = (0 : Int32) from rfl, tm_0, hpl]; rfl, bn1_some, if_pos rfl]
          · rw [if_neg hpl] at hy
            refine hfail 0 3 ?_ (by decide) (by decide) (by rw [hy, ht, k2]; exact fo_b)
            have hp0 : ¬ places ≤ 0 := fun z => hpl (by rw [i_eq]; rw [i_le] at z a2; have z0 : (0 : Int32).toInt = 0 := rfl; omega)
            rw [hcl0, k1, bn1_some]
            dsimp only [jn1]
            rw [if_neg (show ¬ nI 0 = -1 by decide), if_pos (show nI 0 = 0 by decide), show f_X4_isTooMany (nI 0) places horses besides tideN cartN due = some 1 by rw [show nI 0 = (0 : Int32) from rfl, tm_0, if_neg hp0], bn1_some, if_neg (show ¬ (1 : Int32) = 0 by decide), fl_0, bn2_some]
        · have hkp : 0 < k := by omega
          have hkb : k < 2 ^ 31 := by omega
          have hkm : k < 1000000 := by omega
          have hk1 : 1 ≤ k := hkp
          have hk6 : k = 1 ∨ k = 2 ∨ k = 3 ∨ k = 4 ∨ k = 5 ∨ k = 6 := by omega
          by_cases hpl : places = 0
          · rw [if_pos hpl] at hy
            refine hfail 0 1 ?_ (by decide) (by decide) (by rw [hy, ht, k2]; exact fo_c hk1 hk)
            rw [hcl0, k1, bn1_some, fl_0]
            dsimp only [jn1, bn2]
            rw [if_neg (nI_ne hkm), if_neg (nI_ne0 hkp hkb), if_pos hpl]
          · rw [if_neg hpl] at hy
            have hfo := fo_k (isDue := isDue) (dr := dr) (k := k) hk1 hk
            have htm := tm_k (places := places) (horses := horses) (besides := besides) (tideN := tideN) (cartN := cartN) (due := due) (k := k) hk1 hk
            have h66 : dr 3 = 6 ↔ ¬ horses < 6 := by rw [ho1]; grind
            have h1212 : dr 6 = 12 ↔ ¬ besides < 12 := by rw [be1]; grind
            have h44 : dr 4 = 4 ↔ ¬ cartN < 4 := by rw [ca1]; grind
            have hdd : isDue ≠ 0 ↔ due ≠ 0 := by
              rw [r2]
              by_cases c : due = 0
              · rw [if_pos c]; exact ⟨fun z => absurd rfl z, fun z => absurd c z⟩
              · rw [if_neg c]; exact ⟨fun _ => c, fun _ => by decide⟩
            have hcond : ((k = 1 ∧ dr 3 = 6) ∨ (k = 3 ∧ dr 6 = 12) ∨ (k = 4 ∧ ¬ dr 7 ≤ 0) ∨ (k = 5 ∧ dr 4 = 4) ∨ (k = 6 ∧ isDue ≠ 0)) ↔ ((k = 1 ∧ ¬ horses < 6) ∨ (k = 3 ∧ ¬ besides < 12) ∨ (k = 4 ∧ ¬ tideN ≤ 0) ∨ (k = 5 ∧ ¬ cartN < 4) ∨ (k = 6 ∧ due ≠ 0)) := by rw [h66, h1212, ti1, h44, hdd]
            rw [if_iff hcond] at hfo
            by_cases c : (k = 1 ∧ ¬ horses < 6) ∨ (k = 3 ∧ ¬ besides < 12) ∨ (k = 4 ∧ ¬ tideN ≤ 0) ∨ (k = 5 ∧ ¬ cartN < 4) ∨ (k = 6 ∧ due ≠ 0)
            · rw [if_pos c] at hfo htm
              refine hfail 0 3 ?_ (by decide) (by decide) (by rw [hy, ht, k2]; exact hfo)
              rw [hcl0, k1, bn1_some]
              dsimp only [jn1]
              rw [if_neg (nI_ne hkm), if_neg (nI_ne0 hkp hkb), if_neg hpl, htm, bn1_some, if_neg (show ¬ (1 : Int32) = 0 by decide), fl_0, bn2_some]
            · rw [if_neg c] at hfo htm
              refine hgo (by rw [hy, ht, k2]; exact hfo) ?_ (fun zn zt zp zv zg hAA => ?_)
              · rw [hcl0, k1, bn1_some]
                dsimp only [jn1]
                rw [if_neg (nI_ne hkm), if_neg (nI_ne0 hkp hkb), if_neg hpl, htm, bn1_some, if_pos rfl]
              · rcases hk6 with rfl | rfl | rfl | rfl | rfl | rfl
                · exact c_horse hX w2 hAA hDD hpl (Classical.byContradiction (fun z => c (Or.inl ⟨rfl, z⟩)))
                · exact c_blind hX w2 hAA hDD hpl
                · exact c_beside hX w2 hAA hDD hpl (Classical.byContradiction (fun z => c (Or.inr (Or.inl ⟨rfl, z⟩))))
                · exact c_tide hX w2 hAA hDD hpl (Classical.byContradiction (fun z => c (Or.inr (Or.inr (Or.inl ⟨rfl, z⟩)))))
                · exact c_cart hX w2 hAA hDD hpl (Classical.byContradiction (fun z => c (Or.inr (Or.inr (Or.inr (Or.inl ⟨rfl, z⟩))))))
                · exact c_due hX w2 hAA hDD hpl
    · exact absurd hl (fig_nltr h.1)
    · exact absurd hl h.2.1
  · have ht : zt ≠ 1 := by
      rcases hA2 with h | h | h | h
      · rw [h.2]; decide
      · exact absurd h.1 hl
      · rw [h.2.1]; decide
      · rcases h.2.2.2.1 with z | z
        · rw [z.1]; decide
        · rw [z.1]; decide
    have hwe := we_no hl
    refine hfail 0 1 ?_ (by decide) (by decide) (fo_no ht)
    have hkd : kd (rl T (sk T L n) (we T L (sk T L n) - sk T L n)) = -1 := by
      rw [hwe, Nat.sub_self]
      have hne : ∀ i : Nat, i < 9 → rl T (sk T L n) 0 ≠ wR i := fun i hi => wR_ne i hi
      unfold kd
      rw [if_neg (hne 0 (by decide)), if_neg (hne 1 (by decide)), if_neg (hne 2 (by decide)), if_neg (hne 3 (by decide)), if_neg (hne 4 (by decide)), if_neg (hne 5 (by decide)), if_neg (hne 6 (by decide))]
    rw [hcl0, hkd, bn1_some, fl_0]; rfl
theorem read_loop {T Z : Nat → Int32} {L : Nat} (hX : TX T Z L) : ∀ (d n c : Nat) (cfa nf law places broad horses blinds besides tideN cartN due zn zt zp zv zg y1 isDue : Int32) (prs : Int64) (pull str back moods tides carts dr pr : Nat → Int32) (fc fz : Nat), L ≤ n + d → c ≤ n → d + 2 < fc → d + 2 < fz → n ≤ L → ADV T L n zn zt zp zv zg → RD law places broad horses blinds besides tideN cartN due prs pull str back moods tides carts dr isDue pr → (y1 = if places = 0 then 1 else 0) →
    ∃ (cf' cfa' cn' nf' : Int32) (law' : Int32) (places' : Int32) (broad' : Int32) (horses' : Int32) (blinds' : Int32) (besides' : Int32) (tideN' : Int32) (cartN' : Int32) (due' : Int32) (prs' : Int64) (pull' : Nat → Int32) (str' : Nat → Int32) (back' : Nat → Int32) (moods' : Nat → Int32) (tides' : Nat → Int32) (carts' : Nat → Int32) (zn' zt' zp' zv' zg' zf' zfa' isDue' : Int32) (dr' pr' : Nat → Int32), (∀ K, lq21 (B_X4_read_1 K (nI L) T) fc (nI c) 0 cfa (nI n) nf law places broad horses blinds besides tideN cartN due prs pull str back moods tides carts = K cf' cfa' cn' nf' law' places' broad' horses' blinds' besides' tideN' cartN' due' prs' pull' str' back' moods' tides' carts') ∧ (∀ K, lq11 (B_X9_ferry_2 K (nI L) Z) fz y1 zn zt zp zv zg 0 cfa isDue dr pr = K zn' zt' zp' zv' zg' zf' zfa' isDue' dr' pr') ∧ zf' = cf' ∧ zfa' = cfa' ∧ (cf' = 0 → RD law' places' broad' horses' blinds' besides' tideN' cartN' due' prs' pull' str' back' moods' tides' carts' dr' isDue' pr') := by
  intro d
  induction d with
  | zero =>
    intro n c cfa nf law places broad horses blinds besides tideN cartN due zn zt zp zv zg y1 isDue prs pull str back moods tides carts dr pr fc fz hd hc hfc hfz hn hA hD hy
    have hL := hX.1
    obtain ⟨s1, s2, s3⟩ := sk_f (T := T) hn
    obtain ⟨fc', rfl⟩ : ∃ fc', fc = fc' + 1 := ⟨fc - 1, by omega⟩
    obtain ⟨fz', rfl⟩ : ∃ fz', fz = fz' + 1 := ⟨fz - 1, by omega⟩
    have hzt : zt = 0 := by
      rcases hA.2 with h | h | h | h
      · exact h.2
      · exact absurd h.1.1 (by omega)
      · exact absurd h.1.1 (by omega)
      · exact absurd h.1 (by omega)
    have hR : ∀ K, lq11 (B_X9_ferry_2 K (nI L) Z) (fz' + 1) y1 zn zt zp zv zg 0 cfa isDue dr pr = K zn zt zp zv zg 0 cfa isDue dr pr := fun K => by
      rw [lq11_1]; unfold B_X9_ferry_2
      rw [wl_0, bn1_some, if_neg (show ¬ (1 : Int32) = 0 by decide), if_pos hzt]
    by_cases c5 : c < 500
    · refine ⟨0, cfa, nI (sk T L n), nf, law, places, broad, horses, blinds, besides, tideN, cartN, due, prs, pull, str, back, moods, tides, carts, zn, zt, zp, zv, zg, 0, cfa, isDue, dr, pr, fun K => ?_, hR, rfl, rfl, fun _ => hD⟩
      rw [lq21_1]; unfold B_X4_read_1
      rw [if_neg (show ¬ (500 : Int32) ≤ nI c from nI_ge (b := 500) c5 (by decide)), if_pos rfl, e_skip hL hn, bn1_some, if_neg (nI_nlt (by omega) (by omega))]
    · refine ⟨0, cfa, nI n, nf, law, places, broad, horses, blinds, besides, tideN, cartN, due, prs, pull, str, back, moods, tides, carts, zn, zt, zp, zv, zg, 0, cfa, isDue, dr, pr, fun K => ?_, hR, rfl, rfl, fun _ => hD⟩
      rw [lq21_1]; unfold B_X4_read_1
      rw [if_pos (show (500 : Int32) ≤ nI c from nI_le (a := 500) (by omega) (by omega))]
  | succ d ih =>
    intro n c cfa nf law places broad horses blinds besides tideN cartN due zn zt zp zv zg y1 isDue prs pull str back moods tides carts dr pr fc fz hd hc hfc hfz hn hA hD hy
    have hL := hX.1
    obtain ⟨s1, s2, s3⟩ := sk_f (T := T) hn
    obtain ⟨fc', rfl⟩ : ∃ fc', fc = fc' + 1 + 1 := ⟨fc - 2, by omega⟩
    obtain ⟨fz', rfl⟩ : ∃ fz', fz = fz' + 1 + 1 := ⟨fz - 2, by omega⟩
    by_cases hm : sk T L n < L
    · obtain ⟨n', cf', cfa', cn', nf', law', places', broad', horses', blinds', besides', tideN', cartN', due', prs', pull', str', back', moods', tides', carts', zn', zt', zp', zv', zg', zf', zfa', isDue', dr', pr', q1, q2, q3, q4⟩ := cl_both (nf := nf) hX hn hA hD hm hy
      obtain ⟨rfl, hn', rfl, rfl, hA'⟩ := q3
      have hC : ∀ K, lq21 (B_X4_read_1 K (nI L) T) (fc' + 1 + 1) (nI c) 0 cfa (nI n) nf law places broad horses blinds besides tideN cartN due prs pull str back moods tides carts = lq21 (B_X4_read_1 K (nI L) T) (fc' + 1) (nI (c + 1)) zf' zfa' (nI n') nf' law' places' broad' horses' blinds' besides' tideN' cartN' due' prs' pull' str' back' moods' tides' carts' := fun K => by
        have hst : ∀ rec, B_X4_read_1 K (nI L) T rec (nI c) 0 cfa (nI n) nf law places broad horses blinds besides tideN cartN due prs pull str back moods tides carts = rec (nI (c + 1)) zf' zfa' (nI n') nf' law' places' broad' horses' blinds' besides' tideN' cartN' due' prs' pull' str' back' moods' tides' carts' := fun rec => by
          unfold B_X4_read_1
          rw [if_neg (show ¬ (500 : Int32) ≤ nI c from nI_ge (b := 500) (by omega) (by decide)), if_pos rfl, e_skip hL hn, bn1_some, if_pos (nI_lt hm (by omega)), q1, bn20_some, nI_1]
        rw [lq21_1, hst]
      have hZ : ∀ K, lq11 (B_X9_ferry_2 K (nI L) Z) (fz' + 1 + 1) y1 zn zt zp zv zg 0 cfa isDue dr pr = lq11 (B_X9_ferry_2 K (nI L) Z) (fz' + 1) 0 zn' zt' zp' zv' zg' zf' zfa' isDue' dr' pr' := fun K => by
        rw [lq11_1, q2]
      by_cases c0 : zf' = 0
      · subst c0
        obtain ⟨z1, z2, z3⟩ := q4 rfl
        obtain ⟨x1, x2, x3, x4, ylaw, yplaces, ybroad, yhorses, yblinds, ybesides, ytideN, ycartN, ydue, yprs, ypull, ystr, yback, ymoods, ytides, ycarts, x5, x6, x7, x8, x9, x10, x11, x12, x13, x14, p1, p2, p3, p4, p5⟩ := ih n' (c + 1) zfa' nf' law' places' broad' horses' blinds' besides' tideN' cartN' due' zn' zt' zp' zv' zg' 0 isDue' prs' pull' str' back' moods' tides' carts' dr' pr' (fc' + 1) (fz' + 1) (by omega) (by omega) (by omega) (by omega) hn' (hA' rfl) z2 (by rw [if_neg z3])
        exact ⟨x1, x2, x3, x4, ylaw, yplaces, ybroad, yhorses, yblinds, ybesides, ytideN, ycartN, ydue, yprs, ypull, ystr, yback, ymoods, ytides, ycarts, x5, x6, x7, x8, x9, x10, x11, x12, x13, x14, fun K => (hC K).trans (p1 K), fun K => (hZ K).trans (p2 K), p3, p4, p5⟩
      · refine ⟨zf', zfa', nI n', nf', law', places', broad', horses', blinds', besides', tideN', cartN', due', prs', pull', str', back', moods', tides', carts', zn', zt', zp', zv', zg', zf', zfa', isDue', dr', pr', fun K => (hC K).trans ?_, fun K => (hZ K).trans ?_, rfl, rfl, fun z => absurd z c0⟩
        · rw [lq21_1]; unfold B_X4_read_1
          by_cases c5 : (500 : Int32) ≤ nI (c + 1)
          · rw [if_pos c5]
          · rw [if_neg c5, if_neg c0]
        · rw [lq11_1]; unfold B_X9_ferry_2
          rw [wl_1 c0, bn1_some, if_pos rfl]
    · have hzt : zt = 0 := by
        rcases hA.2 with h | h | h | h
        · exact h.2
        · exact absurd h.1.1 hm
        · exact absurd h.1.1 hm
        · exact absurd h.1 hm
      have hR : ∀ K, lq11 (B_X9_ferry_2 K (nI L) Z) (fz' + 1 + 1) y1 zn zt zp zv zg 0 cfa isDue dr pr = K zn zt zp zv zg 0 cfa isDue dr pr := fun K => by
        rw [lq11_1]; unfold B_X9_ferry_2
        rw [wl_0, bn1_some, if_neg (show ¬ (1 : Int32) = 0 by decide), if_pos hzt]
      by_cases c5 : c < 500
      · refine ⟨0, cfa, nI (sk T L n), nf, law, places, broad, horses, blinds, besides, tideN, cartN, due, prs, pull, str, back, moods, tides, carts, zn, zt, zp, zv, zg, 0, cfa, isDue, dr, pr, fun K => ?_, hR, rfl, rfl, fun _ => hD⟩
        rw [lq21_1]; unfold B_X4_read_1
        rw [if_neg (show ¬ (500 : Int32) ≤ nI c from nI_ge (b := 500) c5 (by decide)), if_pos rfl, e_skip hL hn, bn1_some, if_neg (nI_nlt (by omega) (by omega))]
      · refine ⟨0, cfa, nI n, nf, law, places, broad, horses, blinds, besides, tideN, cartN, due, prs, pull, str, back, moods, tides, carts, zn, zt, zp, zv, zg, 0, cfa, isDue, dr, pr, fun K => ?_, hR, rfl, rfl, fun _ => hD⟩
        rw [lq21_1]; unfold B_X4_read_1
        rw [if_pos (show (500 : Int32) ≤ nI c from nI_le (a := 500) (by omega) (by omega))]
