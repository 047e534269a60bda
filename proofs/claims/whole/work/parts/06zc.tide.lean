/-! PURE SIDE: clauses of both: tide (written by wip/whole/gen/mkclause4.py) -/
def TDR (i : Nat) (td dr : Nat → Int32) : Prop := dr 7 = nI i ∧ ∀ k, k < i → dr (68 + k) = td k ∧ 0 ≤ td k ∧ td k ≤ 40
def DRO (dr dr0 : Nat → Int32) : Prop := ∀ j, j ≠ 7 → ¬ (68 ≤ j ∧ j < 80) → dr j = dr0 j
theorem e_comma {T : Nat → Int32} {L x : Nat} (hL : L ≤ 500) (hx : x ≤ L) : f_X4_takeComma (nI L) 0 (nI x) T = if sk T L x < L ∧ T (sk T L x) = 44 then some (1, nI (sk T L x + 1)) else some (0, nI (sk T L x)) := by
  obtain ⟨s1, s2, s3⟩ := sk_f (T := T) hx
  unfold f_X4_takeComma
  rw [e_skip hL hx, bn1_some, if_pos rfl, e_isSign hL (by omega), bn1_some, nI_1]
  by_cases c : sk T L x < L ∧ T (sk T L x) = 44
  · rw [if_pos c, if_pos c, if_neg (show ¬ (1 : Int32) = 0 by decide)]
  · rw [if_neg c, if_neg c, if_pos rfl]
theorem e_comma_bad {T : Nat → Int32} {L x : Nat} {f : Int32} (hL : L ≤ 500) (hx : x ≤ L) (hf : f ≠ 0) : f_X4_takeComma (nI L) f (nI x) T = some (0, nI (sk T L x)) := by
  unfold f_X4_takeComma
  rw [e_skip hL hx, bn1_some, if_neg hf]
theorem adv_comma {T : Nat → Int32} {L n : Nat} {zn zt zp zv zg : Int32} (hA : ADV T L n zn zt zp zv zg) : (zt = 3 ∧ zv = 44) ↔ (sk T L n < L ∧ T (sk T L n) = 44) := by
  obtain ⟨hp, hA⟩ := hA
  constructor
  · rintro ⟨z1, z2⟩
    rcases hA with h | h | h | h
    · rw [h.2] at z1; exact absurd z1 (by decide)
    · rw [h.2.1] at z1; exact absurd z1 (by decide)
    · rw [h.2.1] at z1; exact absurd z1 (by decide)
    · exact ⟨h.1, h.2.2.2.2.1.symm.trans z2⟩
  · rintro ⟨z1, z2⟩
    obtain ⟨hnl, hnf⟩ := sgn_no (L := L) (Or.inr rfl) z2
    rcases hA with h | h | h | h
    · exact absurd z1 h.1
    · exact absurd h.1 hnl
    · exact absurd h.1 hnf
    · refine ⟨?_, h.2.2.2.2.1.trans z2⟩
      rcases h.2.2.2.1 with z | z
      · exact z.1
      · exact absurd (Or.inr z2) z.2
theorem adv_next {T : Nat → Int32} {L n : Nat} {zn zt zp zv zg : Int32} (hA : ADV T L n zn zt zp zv zg) (h : zt = 3) : zn = nI (sk T L n + 1) := by
  obtain ⟨hp, hA⟩ := hA
  rcases hA with q | q | q | q
  · rw [q.2] at h; exact absurd h (by decide)
  · rw [q.2.1] at h; exact absurd h (by decide)
  · rw [q.2.1] at h; exact absurd h (by decide)
  · exact q.2.2.2.2.2
theorem tide_both {T Z dr0 : Nat → Int32} {L : Nat} (hX : TX T Z L) : ∀ (d i n : Nat) (cfa nf zn zt zp zv zg : Int32) (td dr : Nat → Int32) (fc fz : Nat), i + d = 12 → 1 ≤ d → d + 1 < fc → d + 1 < fz → n ≤ L → ADV T L n zn zt zp zv zg → TDR i td dr → DRO dr dr0 →
    ∃ (n' : Nat) (f5 fa5 cn5 nf5 tN' : Int32) (td' : Nat → Int32) (zn' zt' zp' zv' zg' zf' zfa' zn5 zt5 zp5 zv5 zg5 zf5 zfa5 : Int32) (dr' : Nat → Int32), lq8 (B_X4_readTide_1 (fun (f fa nx nf tN : Int32) (td : Nat → Int32) => bn3 (f_X4_readSemicolon (nI L) f fa nx T) (fun (f2 fa2 nx2 : Int32) => some (f2, fa2, nx2, nf, tN, td))) (nI L) T) fc 1 (nI i) 0 cfa (nI n) nf (nI i) td = some (f5, fa5, cn5, nf5, tN', td') ∧ lq9 (B_X9_tide_1 (fun (a b c d e f g : Int32) (h : Nat → Int32) => some (a, b, c, d, e, f, g, h)) (nI L) Z) fz 1 zn zt zp zv zg 0 cfa dr = some (zn', zt', zp', zv', zg', zf', zfa', dr') ∧ f_X9_ends (nI L) zn' zt' zp' zv' zg' zf' zfa' Z = some (zn5, zt5, zp5, zv5, zg5, zf5, zfa5) ∧ REL T L n' f5 fa5 cn5 zn5 zt5 zp5 zv5 zg5 zf5 zfa5 ∧ n ≤ n' ∧ (f5 = 0 → ∃ j, j ≤ 12 ∧ tN' = nI j ∧ TDR j td' dr') ∧ DRO dr' dr0
  | 0, i, n, cfa, nf, zn, zt, zp, zv, zg, td, dr, fc, fz, hi, h1, hfc, hfz, hn, hA, hT, hO => absurd h1 (by omega)
  | d + 1, i, n, cfa, nf, zn, zt, zp, zv, zg, td, dr, fc, fz, hi, h1, hfc, hfz, hn, hA, hT, hO => by
    have hL := hX.1
    have hR0 : REL T L n 0 cfa (nI n) zn zt zp zv zg 0 cfa := ⟨rfl, hn, rfl, rfl, fun _ => hA⟩
    obtain ⟨n1, v, f1, fa1, cn1, nf1, w, zn1, zt1, zp1, zv1, zg1, zf1, zfa1, s1, s2, s3, s4, s5⟩ := m_num (lo := 0) (hi := 40) (nf := nf) hX hR0
    obtain ⟨fc', rfl⟩ : ∃ fc', fc = fc' + 1 + 1 := ⟨fc - 2, by omega⟩
    obtain ⟨fz', rfl⟩ : ∃ fz', fz = fz' + 1 + 1 := ⟨fz - 2, by omega⟩
    have q7 : dr (Int32.toNatClampNeg 7) = nI i := hT.1
    have e68 : (68 : Int32) + nI i = nI (68 + i) := nI_add 68 i
    have u7 : upd dr (68 + i) w (Int32.toNatClampNeg 7) = nI i := by
      show upd dr (68 + i) w 7 = nI i
      rw [upd_n (by omega)]; exact hT.1
    have hdr : ∀ x : Int32, upd (upd dr (68 + i) w) (Int32.toNatClampNeg 7) x = upd (upd dr (68 + i) w) 7 x := fun _ => rfl
    have u12 : upd (upd dr (68 + i) w) 7 (nI (i + 1)) (Int32.toNatClampNeg 7) = nI (i + 1) := upd_s
    have hO1 : DRO (upd (upd dr (68 + i) w) 7 (nI (i + 1))) dr0 := fun j a b => by rw [upd_n a, upd_n (by omega)]; exact hO j a b
    obtain ⟨rfl, hn1, rfl, rfl, hA1⟩ := s3
    obtain ⟨y1, y2, y3⟩ := sk_f (T := T) hn1
    -- the class's step
    have hC : ∀ rec, B_X4_readTide_1 (fun (f fa nx nf tN : Int32) (td : Nat → Int32) => bn3 (f_X4_readSemicolon (nI L) f fa nx T) (fun (f2 fa2 nx2 : Int32) => some (f2, fa2, nx2, nf, tN, td))) (nI L) T rec 1 (nI i) 0 cfa (nI n) nf (nI i) td = if i = 11 then rec 0 (nI (i + 1)) zf1 zfa1 (nI n1) nf1 (if zf1 = 0 then nI (i + 1) else nI i) (if zf1 = 0 then upd td i v else td) else bn2 (f_X4_takeComma (nI L) zf1 (nI n1) T) (fun (r8 : Int32) (nx8 : Int32) => if r8 = 0 then rec 0 (nI (i + 1)) zf1 zfa1 nx8 nf1 (if zf1 = 0 then nI (i + 1) else nI i) (if zf1 = 0 then upd td i v else td) else rec 1 (nI (i + 1)) zf1 zfa1 nx8 nf1 (if zf1 = 0 then nI (i + 1) else nI i) (if zf1 = 0 then upd td i v else td)) := fun rec => by
      unfold B_X4_readTide_1 f_X0_addTide
      rw [if_neg (show ¬ (12 : Int32) ≤ nI i from nI_ge (b := 12) (by omega) (by decide)), if_neg (show ¬ (1 : Int32) = 0 by decide), s1, bn5_some, if_neg (show ¬ (12 : Int32) ≤ nI i from nI_ge (b := 12) (by omega) (by decide)), if_neg (idx_ok (k := i) rfl (show i < 12 by omega) (by decide))]
      dsimp only [jn1, jn2]
      rw [bn2_some, nI_1, nI_clamp (by omega)]
      have h11 : (11 : Int32) ≤ nI i ↔ i = 11 := by
        rw [show (11 : Int32) = nI 11 from rfl, nI_leI (by omega) (by omega)]; omega
      by_cases c0 : zf1 = 0
      · rw [if_pos c0, if_pos c0, if_pos c0]
        by_cases c1 : i = 11
        · rw [if_pos (h11.mpr c1), if_pos c1]
        · rw [if_neg (fun z => c1 (h11.mp z)), if_neg c1]
      · rw [if_neg c0, if_neg c0, if_neg c0]
        by_cases c1 : i = 11
        · rw [if_pos (h11.mpr c1), if_pos c1]
        · rw [if_neg (fun z => c1 (h11.mp z)), if_neg c1]
    -- the class's end
    have hCe : ∀ (rec : Int32 → Int32 → Int32 → Int32 → Int32 → Int32 → Int32 → (Nat → Int32) → Option (Int32 × Int32 × Int32 × Int32 × Int32 × (Nat → Int32))) (f fa nx nf tN : Int32) (td : Nat → Int32), B_X4_readTide_1 (fun (f fa nx nf tN : Int32) (td : Nat → Int32) => bn3 (f_X4_readSemicolon (nI L) f fa nx T) (fun (f2 fa2 nx2 : Int32) => some (f2, fa2, nx2, nf, tN, td))) (nI L) T rec 0 (nI (i + 1)) f fa nx nf tN td = bn3 (f_X4_readSemicolon (nI L) f fa nx T) (fun (f2 fa2 nx2 : Int32) => some (f2, fa2, nx2, nf, tN, td)) := fun rec f fa nx nf tN td => by
      unfold B_X4_readTide_1
      by_cases c : (12 : Int32) ≤ nI (i + 1)
      · rw [if_pos c]
      · rw [if_neg c, if_pos rfl]
    -- the reference's step
    have hZ : ∀ rec, B_X9_tide_1 (fun (a b c d e f g : Int32) (h : Nat → Int32) => some (a, b, c, d, e, f, g, h)) (nI L) Z rec 1 zn zt zp zv zg 0 cfa dr = if zf1 = 0 ∧ zt1 = 3 ∧ zv1 = 44 then (if i = 11 then rec 0 zn1 zt1 zp1 zv1 zg1 1 zp1 (upd (upd dr (68 + i) w) 7 (nI (i + 1))) else bn5 (f_X9_advances (nI L) zn1 zt1 zp1 zv1 zg1 Z) (fun (a b c e g : Int32) => rec 1 a b c e g zf1 zfa1 (upd (upd dr (68 + i) w) 7 (nI (i + 1))))) else rec 0 zn1 zt1 zp1 zv1 zg1 zf1 zfa1 (upd (upd dr (68 + i) w) 7 (nI (i + 1))) := fun rec => by
      unfold B_X9_tide_1
      rw [if_neg (show ¬ (1 : Int32) = 0 by decide), s2, bn8_some, q7, e68, if_neg (idx_ok (k := 68 + i) rfl (show 68 + i < 84 by omega) (by decide)), nI_clamp (by omega), u7, hdr, nI_1]
      dsimp only [jn1]
      rw [u12]
      have h12 : nI (i + 1) = 12 ↔ i = 11 := by
        rw [show (12 : Int32) = nI 12 from rfl, nI_eq (by omega) (by omega)]; omega
      rw [if_pos rfl, if_pos rfl, if_neg (show ¬ (1 : Int32) = 0 by decide), if_neg (show ¬ (1 : Int32) = 0 by decide)]
      by_cases c0 : zf1 = 0
      · rw [c0, wl_0, bn1_some, if_neg (show ¬ (1 : Int32) = 0 by decide), zf_0, bn2_some]
        by_cases c1 : zt1 = 3
        · rw [if_pos c1]
          by_cases c2 : zv1 = 44
          · have hc3 : (0 : Int32) = 0 ∧ zt1 = 3 ∧ zv1 = 44 := ⟨rfl, c1, c2⟩
            rw [if_pos c2, if_pos hc3]
            by_cases c3 : i = 11
            · rw [if_pos (h12.mpr c3), if_pos c3]
            · rw [if_neg (fun z => c3 (h12.mp z)), if_neg c3]
          · rw [if_neg c2, if_neg (fun z => c2 z.2.2)]
        · rw [if_neg c1, if_neg (fun z => c1 z.2.1)]
      · rw [wl_1 c0, bn1_some, if_pos rfl, if_neg (fun z => c0 z.1)]
    have hZe : ∀ (rec : Int32 → Int32 → Int32 → Int32 → Int32 → Int32 → Int32 → Int32 → (Nat → Int32) → Option (Int32 × Int32 × Int32 × Int32 × Int32 × Int32 × Int32 × (Nat → Int32))) (a b c e f g h : Int32) (dr : Nat → Int32), B_X9_tide_1 (fun (a b c d e f g : Int32) (h : Nat → Int32) => some (a, b, c, d, e, f, g, h)) (nI L) Z rec 0 a b c e f g h dr = some (a, b, c, e, f, g, h, dr) := fun rec a b c e f g h dr => by
      unfold B_X9_tide_1
      rw [if_pos rfl]
    rw [lq8_1, hC, lq9_1, hZ]
    -- both end here, the readers side by side at x
    have fin : ∀ x, x ≤ L → n ≤ x → (zf1 = 0 → ADV T L x zn1 zt1 zp1 zv1 zg1) → ∃ (n' : Nat) (f5 fa5 cn5 nf5 tN' : Int32) (td' : Nat → Int32) (zn' zt' zp' zv' zg' zf' zfa' zn5 zt5 zp5 zv5 zg5 zf5 zfa5 : Int32) (dr' : Nat → Int32), lq8 (B_X4_readTide_1 (fun (f fa nx nf tN : Int32) (td : Nat → Int32) => bn3 (f_X4_readSemicolon (nI L) f fa nx T) (fun (f2 fa2 nx2 : Int32) => some (f2, fa2, nx2, nf, tN, td))) (nI L) T) (fc' + 1) 0 (nI (i + 1)) zf1 zfa1 (nI x) nf1 (if zf1 = 0 then nI (i + 1) else nI i) (if zf1 = 0 then upd td i v else td) = some (f5, fa5, cn5, nf5, tN', td') ∧ lq9 (B_X9_tide_1 (fun (a b c d e f g : Int32) (h : Nat → Int32) => some (a, b, c, d, e, f, g, h)) (nI L) Z) (fz' + 1) 0 zn1 zt1 zp1 zv1 zg1 zf1 zfa1 (upd (upd dr (68 + i) w) 7 (nI (i + 1))) = some (zn', zt', zp', zv', zg', zf', zfa', dr') ∧ f_X9_ends (nI L) zn' zt' zp' zv' zg' zf' zfa' Z = some (zn5, zt5, zp5, zv5, zg5, zf5, zfa5) ∧ REL T L n' f5 fa5 cn5 zn5 zt5 zp5 zv5 zg5 zf5 zfa5 ∧ n ≤ n' ∧ (f5 = 0 → ∃ j, j ≤ 12 ∧ tN' = nI j ∧ TDR j td' dr') ∧ DRO dr' dr0 := by
      intro x hx hnx hAx
      have hRx : REL T L x zf1 zfa1 (nI x) zn1 zt1 zp1 zv1 zg1 zf1 zfa1 := ⟨rfl, hx, rfl, rfl, hAx⟩
      obtain ⟨n4, f4, fa4, cn4, zn4, zt4, zp4, zv4, zg4, zf4, zfa4, t1, t2, t3, t4, t5⟩ := m_semi hX hRx
      rw [lq8_1, hCe, t1, bn3_some, lq9_1, hZe]
      refine ⟨_, _, _, _, _, _, _, _, _, _, _, _, _, _, _, _, _, _, _, _, _, _, rfl, rfl, t2, t3, by omega, fun z => ?_, hO1⟩
      have c0 := t5 z
      obtain ⟨-, s7, s8, s9⟩ := s5 c0
      rw [if_pos c0, if_pos c0]
      refine ⟨i + 1, by omega, rfl, upd_s, fun k hk => ?_⟩
      rw [upd_n (by omega)]
      by_cases e : k = i
      · subst e; rw [upd_s, upd_s]; exact ⟨s7.symm, s8, s9⟩
      · rw [upd_n (by omega), upd_n e]; exact hT.2 k (by omega)
    by_cases c0 : zf1 = 0
    · have hA1' := hA1 c0
      have hcom := adv_comma hA1'
      by_cases cc : sk T L n1 < L ∧ T (sk T L n1) = 44
      · obtain ⟨z3, z44⟩ := hcom.mpr cc
        have hz3 : zf1 = 0 ∧ zt1 = 3 ∧ zv1 = 44 := ⟨c0, z3, z44⟩
        rw [if_pos hz3]
        by_cases c11 : i = 11
        · -- a 13th
          rw [if_pos c11, if_pos c11, lq8_1, hCe, lq9_1, hZe]
          have hsemi : f_X4_readSemicolon (nI L) zf1 zfa1 (nI n1) T = some (1, nI (sk T L n1), nI (sk T L n1)) := by
            unfold f_X4_readSemicolon
            have hn59 : ¬ (sk T L n1 < L ∧ T (sk T L n1) = 59) := fun z => by have h := z.2; rw [cc.2] at h; exact absurd h (by decide)
            rw [e_skip hL hn1, bn1_some, e_isSign hL (by omega), bn1_some, if_neg hn59, if_pos rfl, c0, fl_0, bn2_some]
          rw [hsemi, bn3_some]
          have hends : f_X9_ends (nI L) zn1 zt1 zp1 zv1 zg1 1 zp1 Z = some (zn1, zt1, zp1, zv1, zg1, 1, zp1) := by rw [ends_eq, tk_bad (by decide), bn8_some]
          exact ⟨sk T L n1, _, _, _, _, _, _, _, _, _, _, _, _, _, _, _, _, _, _, _, _, _, rfl, rfl, hends, ⟨rfl, y2, rfl, hA1'.1, fun z => absurd z (by decide)⟩, by omega, fun z => absurd z (by decide), hO1⟩
        · rw [if_neg c11, if_neg c11, c0, e_comma hL hn1, if_pos cc, bn2_some, if_neg (show ¬ (1 : Int32) = 0 by decide), adv_next hA1' z3, if_pos rfl, if_pos rfl]
          obtain ⟨zn2, zt2, zp2, zv2, zg2, k1, k2⟩ := e_adv hX (show sk T L n1 + 1 ≤ L by omega) zt1 zp1 zv1 zg1
          rw [k1, bn5_some]
          obtain ⟨-, s7, s8, s9⟩ := s5 c0
          have hT2 : TDR (i + 1) (upd td i v) (upd (upd dr (68 + i) w) 7 (nI (i + 1))) := ⟨upd_s, fun k hk => by
            rw [upd_n (by omega)]
            by_cases e : k = i
            · subst e; rw [upd_s, upd_s]; exact ⟨s7.symm, s8, s9⟩
            · rw [upd_n (by omega), upd_n e]; exact hT.2 k (by omega)⟩
          obtain ⟨n', x1, x2, x3, x4, x5, x6, x7, x8, x9, x10, x11, x12, x13, x14, x15, x16, x17, x18, x19, x20, x21, p1, p2, p3, p4, p5, p6, p7⟩ := tide_both hX d (i + 1) (sk T L n1 + 1) zfa1 nf1 zn2 zt2 zp2 zv2 zg2 (upd td i v) (upd (upd dr (68 + i) w) 7 (nI (i + 1))) (fc' + 1) (fz' + 1) (by omega) (by omega) (by omega) (by omega) (by omega) k2 hT2 hO1
          exact ⟨n', x1, x2, x3, x4, x5, x6, x7, x8, x9, x10, x11, x12, x13, x14, x15, x16, x17, x18, x19, x20, x21, p1, p2, p3, p4, by omega, p6, p7⟩
      · have hnz : ¬ (zf1 = 0 ∧ zt1 = 3 ∧ zv1 = 44) := fun z => cc (hcom.mp z.2)
        rw [if_neg hnz]
        by_cases c11 : i = 11
        · rw [if_pos c11]
          exact fin n1 hn1 s4 hA1
        · rw [if_neg c11]
          have hcm := e_comma (T := T) hL hn1
          rw [if_neg cc] at hcm
          rw [show f_X4_takeComma (nI L) zf1 (nI n1) T = some (0, nI (sk T L n1)) by rw [c0]; exact hcm, bn2_some, if_pos rfl]
          exact fin (sk T L n1) y2 (by omega) (fun z => ADV_sk hn1 (hA1 z))
    · have hnz : ¬ (zf1 = 0 ∧ zt1 = 3 ∧ zv1 = 44) := fun z => c0 z.1
      rw [if_neg hnz]
      by_cases c11 : i = 11
      · rw [if_pos c11]
        exact fin n1 hn1 s4 hA1
      · rw [if_neg c11, e_comma_bad hL hn1 c0, bn2_some, if_pos rfl]
        exact fin (sk T L n1) y2 (by omega) (fun z => absurd z c0)
theorem c_tide {law places broad horses blinds besides tideN cartN due cfa nf zn zt zp zv zg isDue : Int32} {prs : Int64} {pull str back moods tides carts dr pr T Z : Nat → Int32} {L n : Nat} (hX : TX T Z L) (hn : n ≤ L) (hA : ADV T L n zn zt zp zv zg) (hD : RD law places broad horses blinds besides tideN cartN due prs pull str back moods tides carts dr isDue pr) (hpn : places ≠ 0) (h0 : tideN ≤ 0) :
    ∃ (n' : Nat) (cf' cfa' cn' nf' : Int32) (law' : Int32) (places' : Int32) (broad' : Int32) (horses' : Int32) (blinds' : Int32) (besides' : Int32) (tideN' : Int32) (cartN' : Int32) (due' : Int32) (prs' : Int64) (pull' : Nat → Int32) (str' : Nat → Int32) (back' : Nat → Int32) (moods' : Nat → Int32) (tides' : Nat → Int32) (carts' : Nat → Int32) (zn' zt' zp' zv' zg' zf' zfa' isDue' : Int32) (dr' pr' : Nat → Int32), f_X4_readParts 4 (nI L) 0 cfa (nI n) nf T law places broad horses blinds besides tideN cartN due prs pull str back moods tides carts = some (cf', cfa', cn', nf', law', places', broad', horses', blinds', besides', tideN', cartN', due', prs', pull', str', back', moods', tides', carts') ∧ f_X9_clause 4 (nI L) zn zt zp zv zg 0 cfa isDue Z dr pr = some (zn', zt', zp', zv', zg', zf', zfa', isDue', dr', pr') ∧ REL T L n' cf' cfa' cn' zn' zt' zp' zv' zg' zf' zfa' ∧ n ≤ n' ∧ (cf' = 0 → RD law' places' broad' horses' blinds' besides' tideN' cartN' due' prs' pull' str' back' moods' tides' carts' dr' isDue' pr' ∧ places' ≠ 0) := by
  have hL := hX.1
  obtain ⟨⟨hpl, b1, b2, hbr, hho, hca, hdu, ⟨ti1, ti2, ti3⟩, hh, hm, htd, hcc⟩, r1, r2, r3, r4, r5⟩ := hD
  have e0 : tideN = nI 0 := by rw [i_eq]; rw [i_le] at h0 ti2; have : (nI 0).toInt = 0 := rfl; have z0 : (0 : Int32).toInt = 0 := rfl; omega
  obtain ⟨n', f5, fa5, cn5, nf5, tN', td', zn', zt', zp', zv', zg', zf', zfa', zn5, zt5, zp5, zv5, zg5, zf5, zfa5, dr', p1, p2, p3, p4, p5, p6, p7⟩ := tide_both (dr0 := dr) hX 12 0 n cfa nf zn zt zp zv zg tides dr fu fu (by omega) (by omega) (by unfold fu; omega) (by unfold fu; omega) hn hA ⟨by rw [ti1, e0], fun k hk => absurd hk (by omega)⟩ (fun j _ _ => rfl)
  have hc : f_X4_readParts 4 (nI L) 0 cfa (nI n) nf T law places broad horses blinds besides tideN cartN due prs pull str back moods tides carts = some (f5, fa5, cn5, nf5, law, places, broad, horses, blinds, besides, tN', cartN, due, prs, pull, str, back, moods, td', carts) := by
    unfold f_X4_readParts f_X4_readTide
    rw [if_neg (by decide), if_neg (by decide), if_neg (by decide), if_neg (by decide), if_pos rfl, jn6_e, e0]
    have p1' : lq8 (B_X4_readTide_1 (fun (f fa nx nf tN : Int32) (td : Nat → Int32) => bn3 (f_X4_readSemicolon (nI L) f fa nx T) (fun (f2 fa2 nx2 : Int32) => some (f2, fa2, nx2, nf, tN, td))) (nI L) T) fu 1 0 0 cfa (nI n) nf (nI 0) tides = some (f5, fa5, cn5, nf5, tN', td') := p1
    refine Eq.trans (congrArg (fun o => bn6 o _) p1') ?_
    rfl
  have hz : f_X9_clause 4 (nI L) zn zt zp zv zg 0 cfa isDue Z dr pr = some (zn5, zt5, zp5, zv5, zg5, zf5, zfa5, isDue, dr', pr) := by
    unfold f_X9_clause f_X9_tide
    rw [jn10_e, if_neg (by decide), if_neg (by decide), if_neg (by decide), if_neg (by decide), if_pos rfl, jn8_e]
    refine Eq.trans (congrArg (fun o => bn8 o _) p2) ?_
    rw [bn8_some]
    dsimp only
    rw [p3, bn7_some]
  refine ⟨n', _, _, _, _, _, _, _, _, _, _, _, _, _, _, _, _, _, _, _, _, _, _, _, _, _, _, _, _, _, _,  hc, hz, p4, p5, fun z => ?_⟩
  obtain ⟨j, hj, ej, hTj⟩ := p6 z
  have hd : ∀ j, j ≠ 7 → ¬ (68 ≤ j ∧ j < 80) → dr' j = dr j := p7
  refine ⟨?_, hpn⟩
  refine ⟨⟨by rw [hd 0 (by omega) (by omega)]; exact hpl, by rw [hd 1 (by omega) (by omega)]; exact b1, b2, by rw [hd 2 (by omega) (by omega)]; exact hbr, by rw [hd 3 (by omega) (by omega)]; exact hho, by rw [hd 4 (by omega) (by omega)]; exact hca, by rw [hd 5 (by omega) (by omega)]; exact hdu, ⟨by rw [hTj.1, ej], by rw [ej]; exact nI_pos' (by omega), by rw [ej]; exact nI_le (b := 12) hj (by decide)⟩, fun h hh' => ?_, fun a b ha hb => ?_, fun i hi => ?_, fun c hc' => ?_⟩, by rw [hd 6 (by omega) (by omega)]; exact r1, r2, fun h hh' => by rw [hd _ (by omega) (by omega)]; exact r3 h hh', r4, r5⟩
  · have h6 : h < 6 := by
      have h7 := hho.2
      have h8 : horses.toNatClampNeg ≤ 6 := by rw [i_cl]; rw [i_le, i_le] at h7; have h9 : (6 : Int32).toInt = 6 := rfl; omega
      omega
    rw [hd _ (by omega) (by omega), hd _ (by omega) (by omega), hd _ (by omega) (by omega), hd _ (by omega) (by omega)]; exact hh h hh'
  · rw [hd _ (by omega) (by omega)]; exact hm a b ha hb
  · rw [ej, nI_clamp (by omega)] at hi
    exact hTj.2 i hi
  · rw [hd _ (by omega) (by omega)]; exact hcc c hc'
