/-! PURE SIDE: the rows of horses that can be tried; fill() -/
abbrev okN (P H r : Nat) : Prop := 0 < r ∧ (r / 49 = 0 ∨ (r / 49 ≤ H ∧ 0 < P)) ∧ (r / 7 % 7 = 0 ∨ (r / 7 % 7 ≤ H ∧ 1 < P)) ∧ (r % 7 = 0 ∨ (r % 7 ≤ H ∧ 2 < P)) ∧ (r / 49 = 0 ∨ r / 49 ≠ r / 7 % 7) ∧ (r / 7 % 7 = 0 ∨ r / 7 % 7 ≠ r % 7) ∧ (r % 7 = 0 ∨ r % 7 ≠ r / 49)
def dgt (r p : Nat) : Nat := if p = 0 then r / 49 else if p = 1 then r / 7 % 7 else r % 7
def rowA (r : Nat) : Nat → Int32 := fun p => nI (dgt r p) - 1
def cntN (P H : Nat) : Nat → Nat
  | 0 => 0
  | r + 1 => if okN P H r then cntN P H r + 1 else cntN P H r
theorem cntN_s (P H r : Nat) : cntN P H (r + 1) = if okN P H r then cntN P H r + 1 else cntN P H r := rfl
theorem cnt_max : cntN 3 6 343 = 228 := by decide +kernel
theorem cnt_le3 {P H : Nat} (hP : P ≤ 3) (hH : H ≤ 6) : ∀ r, cntN P H r ≤ cntN 3 6 r
  | 0 => Nat.le_refl _
  | r + 1 => by
    have ih := cnt_le3 hP hH r
    rw [cntN_s, cntN_s]
    by_cases c : okN P H r
    · rw [if_pos c, if_pos (show okN 3 6 r by unfold okN at *; omega)]; omega
    · rw [if_neg c]
      by_cases c2 : okN 3 6 r
      · rw [if_pos c2]; omega
      · rw [if_neg c2]; exact ih
theorem cnt_mono {P H : Nat} {r : Nat} : ∀ d, cntN P H r ≤ cntN P H (r + d)
  | 0 => Nat.le_refl _
  | d + 1 => by
    have ih := cnt_mono (P := P) (H := H) (r := r) d
    show cntN P H r ≤ cntN P H (r + d + 1)
    rw [cntN_s]
    by_cases c : okN P H (r + d)
    · rw [if_pos c]; omega
    · rw [if_neg c]; exact ih
theorem cnt_228 {P H : Nat} (hP : P ≤ 3) (hH : H ≤ 6) : cntN P H 343 ≤ 228 := by
  rw [← cnt_max]; exact cnt_le3 hP hH 343
theorem cnt_lt {P H r : Nat} (hr : r < 343) (h : okN P H r) : cntN P H r < cntN P H 343 := by
  have := cnt_mono (P := P) (H := H) (r := r + 1) (343 - (r + 1))
  rw [cntN_s, if_pos h, show r + 1 + (343 - (r + 1)) = 343 by omega] at this
  omega
theorem cnt_skip {P H r : Nat} : ∀ d, (∀ j, r ≤ j → j < r + d → ¬ okN P H j) → cntN P H (r + d) = cntN P H r
  | 0, _ => rfl
  | d + 1, h => by
    show cntN P H (r + d + 1) = _
    rw [cntN_s, if_neg (h (r + d) (by omega) (by omega)), cnt_skip d (fun j h1 h2 => h j h1 (by omega))]
theorem nextV {P H k : Nat} : ∀ (d r : Nat), r + d = 343 → cntN P H r = k → k < cntN P H 343 → ∃ r', r ≤ r' ∧ r' < 343 ∧ okN P H r' ∧ cntN P H r' = k ∧ ∀ j, r ≤ j → j < r' → ¬ okN P H j
  | 0, r, hr, h1, h2 => by
    obtain rfl : r = 343 := by omega
    omega
  | d + 1, r, hr, h1, h2 => by
    by_cases c : okN P H r
    · exact ⟨r, Nat.le_refl _, by omega, c, h1, fun j a b => by omega⟩
    · obtain ⟨r', g1, g2, g3, g4, g5⟩ := nextV d (r + 1) (by omega) (by rw [cntN_s, if_neg c]; exact h1) h2
      refine ⟨r', by omega, g2, g3, g4, fun j a b => ?_⟩
      by_cases e : j = r
      · subst e; exact c
      · exact g5 j (by omega) b
theorem dgt_b {r : Nat} (hr : r < 343) (p : Nat) : dgt r p ≤ 6 := by
  unfold dgt
  by_cases c : p = 0
  · rw [if_pos c]; omega
  · rw [if_neg c]
    by_cases c2 : p = 1
    · rw [if_pos c2]; omega
    · rw [if_neg c2]; omega
theorem rowA_0 {r p : Nat} (h : dgt r p = 0) : rowA r p = -1 := by
  unfold rowA; rw [h]; rfl
theorem rowA_1 {r p : Nat} (h : dgt r p ≠ 0) : rowA r p = nI (dgt r p - 1) := by
  unfold rowA
  obtain ⟨k, hk⟩ : ∃ k, dgt r p = k + 1 := ⟨dgt r p - 1, by omega⟩
  rw [hk, nI_pred]; rfl
theorem rowA_n {r p : Nat} (hr : r < 343) : rowA r p = -1 ↔ dgt r p = 0 := by
  constructor
  · intro h
    by_cases c : dgt r p = 0
    · exact c
    · rw [rowA_1 c] at h
      have := dgt_b hr p
      exact absurd h (nI_ne (by omega))
  · exact rowA_0
theorem rowA_eq {r p q : Nat} (hr : r < 343) : rowA r p = rowA r q ↔ dgt r p = dgt r q := by
  have h1 := dgt_b hr p
  have h2 := dgt_b hr q
  constructor
  · intro h
    by_cases c : dgt r p = 0
    · rw [rowA_0 c] at h; rw [c]; exact ((rowA_n hr).mp h.symm).symm
    · by_cases c2 : dgt r q = 0
      · rw [rowA_0 c2] at h; exact absurd ((rowA_n hr).mp h) c
      · rw [rowA_1 c, rowA_1 c2, nI_eq (by omega) (by omega)] at h; omega
  · intro h; unfold rowA; rw [h]
theorem row_stnd {P H r : Nat} (hP : P ≤ 3) (hH : H ≤ 6) (hr : r < 343) (h : okN P H r) : STND (nI P) (nI H) (rowA r) := by
  obtain ⟨h0, a0, a1, a2, d0, d1, d2⟩ := h
  have key : ∀ p, p < 3 → (dgt r p = 0 ∨ (dgt r p ≤ H ∧ p < P)) → (rowA r p = -1 ∨ (0 ≤ rowA r p ∧ rowA r p < nI H ∧ nI p < nI P)) := fun p hp hd => by
    by_cases c : dgt r p = 0
    · exact Or.inl (rowA_0 c)
    · obtain ⟨e1, e2⟩ := hd.resolve_left c
      rw [rowA_1 c]
      exact Or.inr ⟨nI_pos' (by omega), nI_lt (by omega) (by omega), nI_lt e2 (by omega)⟩
  refine ⟨fun p hp => ?_, ?_, ?_, ?_⟩
  · match p, hp with
    | 0, _ => exact key 0 (by decide) a0
    | 1, _ => exact key 1 (by decide) a1
    | 2, _ => exact key 2 (by decide) a2
  · rw [rowA_n hr, Ne, rowA_eq hr]; exact d0
  · rw [rowA_n hr, Ne, rowA_eq hr]; exact d1
  · rw [rowA_n hr, Ne, rowA_eq hr]; exact d2
theorem row_crew {P H r : Nat} {t : Nat → Int32} (ht : TW t) (e0 : t 0 = nI P) (e3 : t 3 = nI H) (hP : P ≤ 3) (hH : H ≤ 6) (hr : r < 343) (h : okN P H r) : CREW t (rowA r) := by
  refine STND_CREW ht ?_
  rw [e0, e3]; exact row_stnd hP hH hr h
theorem row_dist {P H r : Nat} (hP : P ≤ 3) (hH : H ≤ 6) (hr : r < 343) (h : okN P H r) : DIST (rowA r) := (row_stnd hP hH hr h).2
/-- crews 1 and on are the rows that may be tried, in their order -/
def CRW (t : Nat → Int32) (P H : Nat) (who pull : Nat → Int32) (r : Nat) : Prop := ∀ j, j < r → okN P H j → ROW who pull (cntN P H j + 1) (rowA j) (pullP t (rowA j) (-1))
def FST (t : Nat → Int32) (P H r : Nat) (last : Int32) (who pull : Nat → Int32) : Prop := last = nI (cntN P H r) ∧ CRW t P H who pull r
theorem FST_skip {t : Nat → Int32} {P H r : Nat} {last : Int32} {who pull : Nat → Int32} (d : Nat) (h : ∀ j, r ≤ j → j < r + d → ¬ okN P H j) (hF : FST t P H r last who pull) : FST t P H (r + d) last who pull := by
  refine ⟨by rw [cnt_skip d h]; exact hF.1, fun j hj ho => ?_⟩
  by_cases c : j < r
  · exact hF.2 j c ho
  · exact absurd ho (h j (by omega) hj)
def chN (P H p : Nat) : Nat := if p < P then H else 0
theorem ch_b {P H p : Nat} (hH : H ≤ 6) : chN P H p ≤ 6 := by
  unfold chN
  by_cases c : p < P
  · rw [if_pos c]; exact hH
  · rw [if_neg c]; omega
theorem e_choices {P H p : Nat} (hP : P ≤ 3) (hp : p < 3) : f_X2_choices (nI p) (nI P) (nI H) = some (nI (chN P H p)) := by
  unfold f_X2_choices chN
  rw [e_hasPlace, bn1_some]
  by_cases c : p < P
  · have hc : 0 ≤ nI p ∧ nI p < nI P ∧ nI p < 3 := ⟨nI_pos' (by omega), nI_lt c (by omega), nI_lt (b := 3) hp (by decide)⟩
    rw [if_pos c, if_pos hc, if_neg (show ¬ (1 : Int32) = 0 by decide)]
  · have hc : ¬ (0 ≤ nI p ∧ nI p < nI P ∧ nI p < 3) := fun z => c ((nI_ltI (by omega) (by omega)).mp z.2.1)
    rw [if_neg c, if_neg hc, if_pos rfl]
    rfl
theorem y_ge {c k : Nat} (hc : c ≤ 6) (hk : k ≤ 7) : (nI c ≤ nI k - 1) ↔ c < k := by
  rw [jI_nat, jI_nat, show (1 : Int32) = jI 1 from rfl, jI_sub, jI_le (by omega) (by omega) (by omega) (by omega)]
  omega
theorem y_s (k : Nat) : nI k - 1 + 1 = nI (k + 1) - 1 := by
  rw [nI_pred]; exact Int32.sub_add_cancel _ _
theorem fill3_step {t pull moods who cp : Nat → Int32} {blinds last : Int32} {P H A B C : Nat} {K : Int32 → (Nat → Int32) → (Nat → Int32) → Option (Int32 × (Nat → Int32) × (Nat → Int32))} {rec : Int32 → Int32 → (Nat → Int32) → (Nat → Int32) → Option (Int32 × (Nat → Int32) × (Nat → Int32))}
    (ht : TW t) (hB : PB (nI H) blinds pull moods t) (e0 : t 0 = nI P) (e3 : t 3 = nI H) (hP : P ≤ 3) (hH : H ≤ 6) (hA : A ≤ chN P H 0) (hBb : B ≤ chN P H 1) (hC : C ≤ chN P H 2) (hF : FST t P H (49 * A + 7 * B + C) last who cp) :
    ∃ last' who' cp', FST t P H (49 * A + 7 * B + C + 1) last' who' cp' ∧ B_X2_fill_3 (nI P) (nI H) K (nI A - 1) (nI B - 1) blinds pull moods rec (nI C - 1) last who cp = rec (nI (C + 1) - 1) last' who' cp' := by
  have b0 := ch_b (P := P) (p := 0) hH
  have b1 := ch_b (P := P) (p := 1) hH
  have b2 := ch_b (P := P) (p := 2) hH
  generalize hr : 49 * A + 7 * B + C = r at *
  have hr3 : r < 343 := by omega
  have g0 : dgt r 0 = A := by show r / 49 = A; omega
  have g1 : dgt r 1 = B := by show r / 7 % 7 = B; omega
  have g2 : dgt r 2 = C := by show r % 7 = C; omega
  have w0 : nI A - 1 = rowA r 0 := by unfold rowA; rw [g0]
  have w1 : nI B - 1 = rowA r 1 := by unfold rowA; rw [g1]
  have w2 : nI C - 1 = rowA r 2 := by unfold rowA; rw [g2]
  have hch : f_X2_choices 2 (nI P) (nI H) = some (nI (chN P H 2)) := e_choices (p := 2) hP (by decide)
  unfold B_X2_fill_3
  rw [hch, bn1_some, if_neg (show ¬ nI (chN P H 2) ≤ nI C - 1 from fun z => by have := (y_ge b2 (by omega)).mp z; omega), y_s, e_isOneTwice]
  simp only [jn1_d, jn3_d, bn1_some]
  rw [w0, w1, w2]
  have hch0 : chN P H 0 = if 0 < P then H else 0 := rfl
  have hch1 : chN P H 1 = if 1 < P then H else 0 := rfl
  have hch2 : chN P H 2 = if 2 < P then H else 0 := rfl
  have hok : okN P H r ↔ ¬ (rowA r 0 = -1 ∧ rowA r 1 = -1 ∧ rowA r 2 = -1) ∧ ¬ ((rowA r 0 ≠ -1 ∧ (rowA r 0 = rowA r 1 ∨ rowA r 0 = rowA r 2)) ∨ (rowA r 1 ≠ -1 ∧ rowA r 1 = rowA r 2)) := by
    simp only [Ne, rowA_n hr3, rowA_eq hr3, g0, g1, g2]
    have h0 : r / 49 = A := by omega
    have h1 : r / 7 % 7 = B := by omega
    have h2 : r % 7 = C := by omega
    unfold okN
    rw [h0, h1, h2]
    by_cases c0 : 0 < P <;> by_cases c1 : 1 < P <;> by_cases c2 : 2 < P <;> simp only [c0, c1, c2, if_true, if_false] at hch0 hch1 hch2 <;> omega
  by_cases c0 : rowA r 0 = -1 ∧ rowA r 1 = -1 ∧ rowA r 2 = -1
  · rw [if_pos c0.1, if_pos c0.2.1, if_pos c0.2.2, if_neg (show ¬ (1 : Int32) = 0 by decide)]
    refine ⟨last, who, cp, FST_skip 1 (fun j h1 h2 ho => ?_) hF, rfl⟩
    obtain rfl : j = r := by omega
    exact (hok.mp ho).1 c0
  · have hsk : ∀ {X Y : Option (Int32 × (Nat → Int32) × (Nat → Int32))}, (if rowA r 0 = -1 then if rowA r 1 = -1 then if rowA r 2 = -1 then X else Y else Y else Y) = Y := fun {X Y} => by
      by_cases d0 : rowA r 0 = -1
      · rw [if_pos d0]
        by_cases d1 : rowA r 1 = -1
        · rw [if_pos d1, if_neg (fun d2 => c0 ⟨d0, d1, d2⟩)]
        · rw [if_neg d1]
      · rw [if_neg d0]
    rw [hsk, if_pos trivial]
    by_cases c1 : (rowA r 0 ≠ -1 ∧ (rowA r 0 = rowA r 1 ∨ rowA r 0 = rowA r 2)) ∨ (rowA r 1 ≠ -1 ∧ rowA r 1 = rowA r 2)
    · rw [if_pos c1, if_neg (show ¬ (1 : Int32) = 0 by decide)]
      refine ⟨last, who, cp, FST_skip 1 (fun j h1 h2 ho => ?_) hF, rfl⟩
      obtain rfl : j = r := by omega
      exact (hok.mp ho).2 c1
    · have ho := hok.mpr ⟨c0, c1⟩
      have hlt := cnt_lt hr3 ho
      have h228 := cnt_228 hP hH
      obtain ⟨W, Pp, hs, hrow, hrest⟩ := e_seat (who := who) (cp := cp) (c := cntN P H r + 1) ht (row_crew ht e0 e3 hP hH hr3 ho) hB (by omega)
      rw [if_neg c1, if_pos rfl, hF.1, if_neg (show ¬ (228 : Int32) ≤ nI (cntN P H r) from nI_ge (b := 228) (by omega) (by decide)), nI_1, hs, bn2_some]
      refine ⟨nI (cntN P H r + 1), W, Pp, ⟨by rw [cntN_s, if_pos ho], fun j hj hoj => ?_⟩, rfl⟩
      by_cases e : j = r
      · subst e; exact hrow
      · have hr2 := hF.2 j (by omega) hoj
        have hcj : cntN P H j + 1 ≤ cntN P H r := by
          have := cnt_mono (P := P) (H := H) (r := j + 1) (r - (j + 1))
          rw [cntN_s, if_pos hoj, show j + 1 + (r - (j + 1)) = r by omega] at this
          exact this
        refine ⟨hr2.1, fun p hp => ?_⟩
        rw [(hrest (3 * (cntN P H j + 1) + p) (by omega)).1, (hrest (3 * (cntN P H j + 1) + p) (by omega)).2]
        exact hr2.2 p hp
theorem fill3 {t pull moods : Nat → Int32} {blinds : Int32} {P H A B : Nat} (K : Int32 → (Nat → Int32) → (Nat → Int32) → Option (Int32 × (Nat → Int32) × (Nat → Int32)))
    (ht : TW t) (hB : PB (nI H) blinds pull moods t) (e0 : t 0 = nI P) (e3 : t 3 = nI H) (hP : P ≤ 3) (hH : H ≤ 6) (hA : A ≤ chN P H 0) (hBb : B ≤ chN P H 1) (last : Int32) (who cp : Nat → Int32) (hF : FST t P H (49 * A + 7 * B) last who cp) :
    ∃ last' who' cp', lq4 (B_X2_fill_3 (nI P) (nI H) K (nI A - 1) (nI B - 1) blinds pull moods) fu (-1) last who cp = K last' who' cp' ∧ FST t P H (49 * A + 7 * B + 7) last' who' cp' := by
  have b0 := ch_b (P := P) (p := 0) hH
  have b1 := ch_b (P := P) (p := 1) hH
  have b2 := ch_b (P := P) (p := 2) hH
  refine lq4_inv (fun k y l w c => y = nI k - 1 ∧ FST t P H (49 * A + 7 * B + k) l w c) (fun o => ∃ last' who' cp', o = K last' who' cp' ∧ FST t P H (49 * A + 7 * B + 7) last' who' cp') (chN P H 2 + 1) ?_ ?_ fu 0 (-1) last who cp (by omega) (by unfold fu; omega) ⟨rfl, hF⟩
  · rintro rec k y l w c hk ⟨rfl, hf⟩
    obtain ⟨l', w', c', g1, g2⟩ := fill3_step (K := K) (rec := rec) ht hB e0 e3 hP hH hA hBb (show k ≤ chN P H 2 by omega) hf
    exact Or.inl ⟨_, l', w', c', ⟨rfl, g1⟩, g2⟩
  · rintro rec y l w c ⟨rfl, hf⟩
    have hch : f_X2_choices 2 (nI P) (nI H) = some (nI (chN P H 2)) := e_choices (p := 2) hP (by decide)
    unfold B_X2_fill_3
    rw [hch, bn1_some, if_pos ((y_ge b2 (by omega)).mpr (by omega))]
    refine ⟨l, w, c, rfl, ?_⟩
    have := FST_skip (6 - chN P H 2) (fun j h1 h2 ho => ?_) hf
    · rwa [show 49 * A + 7 * B + (chN P H 2 + 1) + (6 - chN P H 2) = 49 * A + 7 * B + 7 by omega] at this
    · have hj : j % 7 > chN P H 2 := by omega
      have h4 := ho.2.2.2.1
      unfold chN at hj
      by_cases c2 : 2 < P
      · rw [if_pos c2] at hj; omega
      · rw [if_neg c2] at hj; omega
theorem fill2 {t pull moods : Nat → Int32} {blinds : Int32} {P H A : Nat} (K : Int32 → (Nat → Int32) → (Nat → Int32) → Option (Int32 × (Nat → Int32) × (Nat → Int32)))
    (ht : TW t) (hB : PB (nI H) blinds pull moods t) (e0 : t 0 = nI P) (e3 : t 3 = nI H) (hP : P ≤ 3) (hH : H ≤ 6) (hA : A ≤ chN P H 0) (last : Int32) (who cp : Nat → Int32) (hF : FST t P H (49 * A) last who cp) :
    ∃ last' who' cp', lq4 (B_X2_fill_2 (nI P) (nI H) K (nI A - 1) blinds pull moods) fu (-1) last who cp = K last' who' cp' ∧ FST t P H (49 * A + 49) last' who' cp' := by
  have b0 := ch_b (P := P) (p := 0) hH
  have b1 := ch_b (P := P) (p := 1) hH
  have hch : f_X2_choices 1 (nI P) (nI H) = some (nI (chN P H 1)) := e_choices (p := 1) hP (by decide)
  refine lq4_inv (fun k y l w c => y = nI k - 1 ∧ FST t P H (49 * A + 7 * k) l w c) (fun o => ∃ last' who' cp', o = K last' who' cp' ∧ FST t P H (49 * A + 49) last' who' cp') (chN P H 1 + 1) ?_ ?_ fu 0 (-1) last who cp (by omega) (by unfold fu; omega) ⟨rfl, hF⟩
  · rintro rec k y l w c hk ⟨rfl, hf⟩
    obtain ⟨l', w', c', g1, g2⟩ := fill3 (fun l w c => rec (nI (k + 1) - 1) l w c) ht hB e0 e3 hP hH hA (show k ≤ chN P H 1 by omega) l w c hf
    refine Or.inl ⟨nI (k + 1) - 1, l', w', c', ⟨rfl, by rwa [show 49 * A + 7 * (k + 1) = 49 * A + 7 * k + 7 by omega]⟩, ?_⟩
    unfold B_X2_fill_2
    rw [hch, bn1_some, if_neg (show ¬ nI (chN P H 1) ≤ nI k - 1 from fun z => by have := (y_ge b1 (by omega)).mp z; omega), jn3_d, y_s]
    exact g1
  · rintro rec y l w c ⟨rfl, hf⟩
    unfold B_X2_fill_2
    rw [hch, bn1_some, if_pos ((y_ge b1 (by omega)).mpr (by omega))]
    refine ⟨l, w, c, rfl, ?_⟩
    have := FST_skip (42 - 7 * chN P H 1) (fun j h1 h2 ho => ?_) hf
    · rwa [show 49 * A + 7 * (chN P H 1 + 1) + (42 - 7 * chN P H 1) = 49 * A + 49 by omega] at this
    · have hj : j / 7 % 7 > chN P H 1 := by omega
      have h4 := ho.2.2.1
      unfold chN at hj
      by_cases c2 : 1 < P
      · rw [if_pos c2] at hj; omega
      · rw [if_neg c2] at hj; omega
theorem fill1_eq (last places horses blinds : Int32) (who cp pull moods : Nat → Int32) : f_X2_fill last who cp places horses blinds pull moods = lq4 (B_X2_fill_1 places horses (fun l w c => some (l, w, c)) blinds pull moods) fu (-1) 0 who cp := by
  unfold f_X2_fill
  rw [jn3_d]
  rfl
theorem e_fillc {t pull moods who cp : Nat → Int32} {blinds last : Int32} {P H : Nat} (ht : TW t) (hB : PB (nI H) blinds pull moods t) (e0 : t 0 = nI P) (e3 : t 3 = nI H) (hP : P ≤ 3) (hH : H ≤ 6) :
    ∃ last' who' cp', f_X2_fill last who cp (nI P) (nI H) blinds pull moods = some (last', who', cp') ∧ FST t P H 343 last' who' cp' := by
  have b0 := ch_b (P := P) (p := 0) hH
  have hch : f_X2_choices 0 (nI P) (nI H) = some (nI (chN P H 0)) := e_choices (p := 0) hP (by decide)
  rw [fill1_eq]
  refine lq4_inv (fun k y l w c => y = nI k - 1 ∧ FST t P H (49 * k) l w c) (fun o => ∃ last' who' cp', o = some (last', who', cp') ∧ FST t P H 343 last' who' cp') (chN P H 0 + 1) ?_ ?_ fu 0 (-1) 0 who cp (by omega) (by unfold fu; omega) ⟨rfl, rfl, fun j hj => by omega⟩
  · rintro rec k y l w c hk ⟨rfl, hf⟩
    obtain ⟨l', w', c', g1, g2⟩ := fill2 (fun l w c => rec (nI (k + 1) - 1) l w c) ht hB e0 e3 hP hH (show k ≤ chN P H 0 by omega) l w c hf
    refine Or.inl ⟨nI (k + 1) - 1, l', w', c', ⟨rfl, by rwa [show 49 * (k + 1) = 49 * k + 49 by omega]⟩, ?_⟩
    unfold B_X2_fill_1
    rw [hch, bn1_some, if_neg (show ¬ nI (chN P H 0) ≤ nI k - 1 from fun z => by have := (y_ge b0 (by omega)).mp z; omega), jn3_d, y_s]
    exact g1
  · rintro rec y l w c ⟨rfl, hf⟩
    unfold B_X2_fill_1
    rw [hch, bn1_some, if_pos ((y_ge b0 (by omega)).mpr (by omega))]
    refine ⟨l, w, c, rfl, ?_⟩
    have := FST_skip (294 - 49 * chN P H 0) (fun j h1 h2 ho => ?_) hf
    · rwa [show 49 * (chN P H 0 + 1) + (294 - 49 * chN P H 0) = 343 by omega] at this
    · have hj : j / 49 > chN P H 0 := by omega
      have h4 := ho.2.1
      unfold chN at hj
      by_cases c2 : 0 < P
      · rw [if_pos c2] at hj; omega
      · rw [if_neg c2] at hj; omega
