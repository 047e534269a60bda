/-! PURE SIDE: put, told, horse -/
/-- where a horse stands, if each stands once -/
theorem where_eq {st s : Nat → Int32} {h : Int32} (h6 : s 6 = st 0 ∧ s 7 = st 1 ∧ s 8 = st 2) (hd : DIST st) (hh : h ≠ -1) : (if s 8 = h then (2 : Int32) else if s 7 = h then 1 else if s 6 = h then 0 else -1) = (if st 0 = h then 0 else if st 1 = h then 1 else if st 2 = h then 2 else -1) := by
  rw [h6.1, h6.2.1, h6.2.2]
  unfold DIST at hd
  grind
def plc (st : Nat → Int32) (h : Int32) : Int32 := if st 0 = h then 0 else if st 1 = h then 1 else if st 2 = h then 2 else -1
theorem plc_c (st : Nat → Int32) (h : Int32) : (plc st h = -1 ∧ st 0 ≠ h ∧ st 1 ≠ h ∧ st 2 ≠ h) ∨ ∃ k : Nat, k < 3 ∧ plc st h = nI k ∧ st k = h := by
  unfold plc
  by_cases c0 : st 0 = h
  · exact Or.inr ⟨0, by decide, by rw [if_pos c0]; rfl, c0⟩
  · by_cases c1 : st 1 = h
    · exact Or.inr ⟨1, by decide, by rw [if_neg c0, if_pos c1]; rfl, c1⟩
    · by_cases c2 : st 2 = h
      · exact Or.inr ⟨2, by decide, by rw [if_neg c0, if_neg c1, if_pos c2]; rfl, c2⟩
      · exact Or.inl ⟨by rw [if_neg c0, if_neg c1, if_neg c2], c0, c1, c2⟩
/-- what put makes of the places -/
def putA (st : Nat → Int32) (o : Nat) (h n2 : Int32) : Nat → Int32 :=
  let st1 := if plc st h = -1 then st else upd st (plc st h).toNatClampNeg (-1)
  if n2 = -1 then st1 else upd st1 (n2.toNatClampNeg) h
theorem STND_3 {P H : Int32} {a : Nat → Int32} : STND P H a ↔ ((a 0 = -1 ∨ (0 ≤ a 0 ∧ a 0 < H ∧ 0 < P)) ∧ (a 1 = -1 ∨ (0 ≤ a 1 ∧ a 1 < H ∧ 1 < P)) ∧ (a 2 = -1 ∨ (0 ≤ a 2 ∧ a 2 < H ∧ 2 < P))) ∧ (a 0 = -1 ∨ a 0 ≠ a 1) ∧ (a 1 = -1 ∨ a 1 ≠ a 2) ∧ (a 2 = -1 ∨ a 2 ≠ a 0) := by
  constructor
  · rintro ⟨h, hd⟩
    exact ⟨⟨h 0 (by decide), h 1 (by decide), h 2 (by decide)⟩, hd⟩
  · rintro ⟨⟨h0, h1, h2⟩, hd⟩
    refine ⟨fun p hp => ?_, hd⟩
    match p, hp with
    | 0, _ => exact h0
    | 1, _ => exact h1
    | 2, _ => exact h2
theorem clear_stnd {P H : Int32} {st : Nat → Int32} {k : Nat} (hk : k < 3) (hs : STND P H st) : STND P H (upd st k (-1)) := by
  rw [STND_3] at *
  rw [upd_at, upd_at, upd_at]
  have : k = 0 ∨ k = 1 ∨ k = 2 := by omega
  rcases this with rfl | rfl | rfl <;> simp <;> grind
theorem set_stnd {P H h : Int32} {st : Nat → Int32} {k : Nat} (hk : k < 3) (hs : STND P H st) (hh : 0 ≤ h ∧ h < H) (hkp : nI k < P) (hf : st 0 ≠ h ∧ st 1 ≠ h ∧ st 2 ≠ h) : STND P H (upd st k h) := by
  rw [STND_3] at *
  rw [upd_at, upd_at, upd_at]
  have : k = 0 ∨ k = 1 ∨ k = 2 := by omega
  rcases this with rfl | rfl | rfl
  · have : (0 : Int32) < P := hkp
    simp <;> grind
  · have : (1 : Int32) < P := hkp
    simp <;> grind
  · have : (2 : Int32) < P := hkp
    simp <;> grind
theorem RNb_put {b : Int} {hour oats missed seed x : Int32} {strength stands s t : Nat → Int32} {k : Nat} (ht : TW t) (hk : k < 3) (h : RNb b hour oats missed seed strength stands s t) (hs : STND (t 0) (t 3) (upd stands k x)) : RNb b hour oats missed seed strength (upd stands k x) (upd s (6 + k) x) t := by
  obtain ⟨H, h6, e3, eH⟩ := hor_n ht
  obtain ⟨⟨s9, hh0, hhb⟩, ⟨s10, ho0, ho1⟩, s11, ⟨s12, hseed⟩, ⟨s6, s7, s8⟩, hst, hstr⟩ := h
  refine ⟨⟨by rw [upd_n (by omega)]; exact s9, hh0, hhb⟩, ⟨by rw [upd_n (by omega)]; exact s10, ho0, ho1⟩, by rw [upd_n (by omega)]; exact s11, ⟨by rw [upd_n (by omega)]; exact s12, hseed⟩, ?_, hs, fun h hh => by rw [upd_n (by omega)]; exact hstr h hh⟩
  have : k = 0 ∨ k = 1 ∨ k = 2 := by omega
  rcases this with rfl | rfl | rfl
  · exact ⟨by rw [show 6 + 0 = 6 from rfl, upd_s, upd_s], by rw [upd_n (by decide), upd_n (by decide)]; exact s7, by rw [upd_n (by decide), upd_n (by decide)]; exact s8⟩
  · exact ⟨by rw [upd_n (by decide), upd_n (by decide)]; exact s6, by rw [show 6 + 1 = 7 from rfl, upd_s, upd_s], by rw [upd_n (by decide), upd_n (by decide)]; exact s8⟩
  · exact ⟨by rw [upd_n (by decide), upd_n (by decide)]; exact s6, by rw [upd_n (by decide), upd_n (by decide)]; exact s7, by rw [show 6 + 2 = 8 from rfl, upd_s, upd_s]⟩
def putC (n1 n2 : Int32) (st : Nat → Int32) : Option (Int32 × (Nat → Int32)) := jn1 (fun (s5 : Nat → Int32) => if n2 = -1 then some (plc st n1, s5) else if n2 < 0 ∨ 3 ≤ n2.toNatClampNeg then none else some (plc st n1, upd s5 n2.toNatClampNeg n1)) (fun J => if plc st n1 = -1 then J st else if plc st n1 < 0 ∨ 3 ≤ (plc st n1).toNatClampNeg then none else J (upd st (plc st n1).toNatClampNeg (-1)))
def putM (n1 n2 : Int32) (st s : Nat → Int32) : Option (Int32 × Int32 × (Nat → Int32)) := jn1 (fun (s5 : Nat → Int32) => if n2 = -1 then some (plc st n1, (0 : Int32), s5) else if (6 : Int32) + n2 < 0 ∨ 13 ≤ ((6 : Int32) + n2).toNatClampNeg then none else some (plc st n1, (0 : Int32), upd s5 ((6 : Int32) + n2).toNatClampNeg n1)) (fun J => if plc st n1 = -1 then J s else if (6 : Int32) + plc st n1 < 0 ∨ 13 ≤ ((6 : Int32) + plc st n1).toNatClampNeg then none else J (upd s ((6 : Int32) + plc st n1).toNatClampNeg (-1)))
theorem put_fin {places horses hour oats missed seed n1 n2 : Int32} {t strength stands s : Nat → Int32} {b : Int} (ht : TW t) (c : 0 ≤ n1 ∧ n1 < t 3) (hN : RNb b hour oats missed seed strength stands s t) (hn2 : n2 = -1 ∨ ∃ k : Nat, n2 = nI k ∧ k < 3 ∧ nI k < t 0) :
    ∃ (rr : Int32) (st' s' : Nat → Int32), putC n1 n2 stands = some (rr, st') ∧ putM n1 n2 stands s = some (rr, 0, s') ∧ RNb b hour oats missed seed strength st' s' t := by
  have hst := hN.2.2.2.2.2.1
  have hne : n1 ≠ -1 := by grind
  have fin : ∀ (r : Int32) (st1 s1 : Nat → Int32), RNb b hour oats missed seed strength st1 s1 t → (st1 0 ≠ n1 ∧ st1 1 ≠ n1 ∧ st1 2 ≠ n1) → ∃ (rr : Int32) (st' s' : Nat → Int32), (if n2 = -1 then some (r, st1) else if n2 < 0 ∨ 3 ≤ n2.toNatClampNeg then none else some (r, upd st1 n2.toNatClampNeg n1)) = some (rr, st') ∧ (if n2 = -1 then some (r, (0 : Int32), s1) else if (6 : Int32) + n2 < 0 ∨ 13 ≤ ((6 : Int32) + n2).toNatClampNeg then none else some (r, (0 : Int32), upd s1 ((6 : Int32) + n2).toNatClampNeg n1)) = some (rr, 0, s') ∧ RNb b hour oats missed seed strength st' s' t := by
    intro r st1 s1 hR hf
    rcases hn2 with c2 | ⟨k, e, hk, hkp⟩
    · rw [if_pos c2, if_pos c2]
      exact ⟨_, _, _, rfl, rfl, hR⟩
    · have e6 : (6 : Int32) + nI k = nI (6 + k) := nI_add 6 k
      have hne2 : ¬ nI k = -1 := nI_ne (by omega)
      rw [e, e6, if_neg hne2, if_neg hne2, if_neg (idx_ok rfl hk (by decide)), if_neg (idx_ok rfl (by omega) (by decide)), nI_clamp (by omega), nI_clamp (by omega)]
      exact ⟨_, _, _, rfl, rfl, RNb_put ht hk hR (set_stnd hk hR.2.2.2.2.2.1 c hkp hf)⟩
  unfold putC putM
  rw [jn1_d, jn1_d]
  rcases plc_c stands n1 with ⟨e1, hf⟩ | ⟨j, hj, e1, e2⟩
  · rw [e1, if_pos rfl, if_pos rfl]
    exact fin _ _ _ hN hf
  · have e6 : (6 : Int32) + nI j = nI (6 + j) := nI_add 6 j
    have hne2 : ¬ nI j = -1 := nI_ne (by omega)
    rw [e1, e6, if_neg hne2, if_neg hne2, if_neg (idx_ok rfl hj (by decide)), if_neg (idx_ok rfl (by omega) (by decide)), nI_clamp (by omega), nI_clamp (by omega)]
    refine fin _ _ _ (RNb_put ht hj hN (clear_stnd hj hst)) ?_
    have hd := hst.2
    rw [upd_at, upd_at, upd_at]
    have : j = 0 ∨ j = 1 ∨ j = 2 := by omega
    rcases this with rfl | rfl | rfl <;> simp <;> grind
theorem m_put {places horses hour oats missed seed th n1 n2 : Int32} {t strength stands s : Nat → Int32} {b : Int} (ht : TW t) (h3 : horses = t 3) (hp : t 0 = places ∧ 0 ≤ places ∧ places ≤ 3) (hN : RNb b hour oats missed seed strength stands s t) :
    ∃ (rr : Int32) (st' s' : Nat → Int32), f_X8_put n1 n2 places horses stands = some (rr, st') ∧ f_X9_put n1 n2 th t s = some (rr, 0, s') ∧ RNb b hour oats missed seed strength st' s' t := by
  have h6 := hN.2.2.2.2.1
  have hst := hN.2.2.2.2.2.1
  unfold f_X8_put f_X9_put
  rw [h3, e_hasHorse, bn1_some, e_isHorse _ _ ht.1.1, bn1_some]
  by_cases c : 0 ≤ n1 ∧ n1 < t 3
  · have hne : n1 ≠ -1 := by grind
    rw [if_pos ((hor_c ht n1).1.mpr c), if_pos c, if_neg (show ¬ (1 : Int32) = 0 by decide), if_neg (show ¬ (1 : Int32) = 0 by decide)]
    have hC : bn1 (f_X5_placeOf n1 stands) (fun r_4 => jn1 (fun (s5 : Nat → Int32) => if n2 = -1 then some (r_4, s5) else if n2 < 0 ∨ 3 ≤ n2.toNatClampNeg then none else some (r_4, upd s5 n2.toNatClampNeg n1)) (fun J => if r_4 = -1 then J stands else if r_4 < 0 ∨ 3 ≤ r_4.toNatClampNeg then none else J (upd stands r_4.toNatClampNeg (-1)))) = putC n1 n2 stands := by
      rw [e_placeOf, bn1_some]; rfl
    have hM : bn1 (f_X9_whereIs n1 s) (fun r_4 => jn1 (fun (s5 : Nat → Int32) => if n2 = -1 then some (r_4, (0 : Int32), s5) else if (6 : Int32) + n2 < 0 ∨ 13 ≤ ((6 : Int32) + n2).toNatClampNeg then none else some (r_4, (0 : Int32), upd s5 ((6 : Int32) + n2).toNatClampNeg n1)) (fun J => if r_4 = -1 then J s else if (6 : Int32) + r_4 < 0 ∨ 13 ≤ ((6 : Int32) + r_4).toNatClampNeg then none else J (upd s ((6 : Int32) + r_4).toNatClampNeg (-1)))) = putM n1 n2 stands s := by
      rw [e_whereIs, bn1_some, where_eq h6 hst.2 hne]; rfl
    rw [hC, hM, jn1_d, jn1_d, jn1_d, jn1_d]
    by_cases c2 : n2 = -1
    · rw [if_pos c2, if_pos c2, if_pos c2, if_pos c2]
      exact put_fin (places := places) (horses := horses) ht c hN (Or.inl c2)
    · rw [if_neg c2, if_neg c2, if_neg c2, if_neg c2, e_hasPlace, bn1_some, e_isPlace _ _ (by rw [hp.1]; exact hp.2.1), bn1_some, hp.1]
      by_cases c3 : 0 ≤ n2 ∧ n2 < places
      · obtain ⟨k, hk, ek⟩ := (pla_c hp.2 n2).2 c3
        rw [if_pos ((pla_c hp.2 n2).1.mpr c3), if_pos c3, if_neg (show ¬ (1 : Int32) = 0 by decide), if_neg (show ¬ (1 : Int32) = 0 by decide)]
        dsimp only
        have e6 : (6 : Int32) + n2 = nI (6 + k) := by rw [ek]; exact nI_add 6 k
        have hC6 : s ((6 : Int32) + n2).toNatClampNeg = stands k := by rw [e6, nI_clamp (by omega), s6k h6 hk]
        have hC7 : stands n2.toNatClampNeg = stands k := by rw [ek, nI_clamp (by omega)]
        have i1 : ¬ (n2 < 0 ∨ 3 ≤ n2.toNatClampNeg) := by rw [ek]; exact idx_ok rfl hk (by decide)
        have i2 : ¬ ((6 : Int32) + n2 < 0 ∨ 13 ≤ ((6 : Int32) + n2).toNatClampNeg) := by rw [e6]; exact idx_ok rfl (by omega) (by decide)
        have hfin := put_fin (places := places) (horses := horses) (n1 := n1) (n2 := n2) ht c hN (Or.inr ⟨k, ek, hk, by rw [hp.1, ← ek]; exact c3.2⟩)
        rw [if_neg i1, if_neg i2, hC6, hC7]
        by_cases c4 : stands k = -1
        · rw [if_pos c4, if_pos c4]; exact hfin
        · rw [if_neg c4, if_neg c4]
          by_cases c5 : stands k = n1
          · rw [if_pos c5, if_pos c5]; exact hfin
          · rw [if_neg c5, if_neg c5]
            exact ⟨_, _, _, rfl, rfl, hN⟩
      · rw [if_neg (fun z => c3 ((pla_c hp.2 n2).1.mp z)), if_neg c3, if_pos rfl, if_pos rfl]
        exact ⟨_, _, _, rfl, rfl, hN⟩
  · rw [if_neg (fun z => c ((hor_c ht n1).1.mp z)), if_neg c, if_pos rfl, if_pos rfl]
    exact ⟨_, _, _, rfl, rfl, hN⟩
