/-! PURE SIDE: a day by draws, and drift() -/
theorem e_fill {N : Nat} {x : Int32} {u : Nat → Int32} (hN : N < 800) : f_J7_fill_53178 N x u = some (fA 0 N (fun _ _ => x) u) := by
  unfold f_J7_fill_53178
  rw [jn1_d]
  refine (fillL (K := fun w => some w) 0 N (fun _ _ => x) (by omega) (fun rec k w hk => ?_) (fun rec w => ?_) u)
  · have h6 : ¬ Int32.ofNat N ≤ nI k := nI_ge hk (by omega)
    have hc : (nI k).toNatClampNeg = k := nI_clamp (by omega)
    have h0 : ¬ nI k < 0 := nI_pos (by omega)
    simp only [h6, hc, h0, if_false, false_or, show ¬ N ≤ k by omega, nI_1, Nat.zero_add]
  · rw [if_pos (show Int32.ofNat N ≤ nI N from Int32.le_refl _)]
theorem dst_s (H : Nat) (x0 : Int32) (st0 : Nat → Int32) (k : Nat) : dst H x0 st0 (k + 1) = if drR (H + 1) (dsd x0 k) < H ∧ free (dst H x0 st0 k) (nI (drR (H + 1) (dsd x0 k))) then upd (dst H x0 st0 k) k (nI (drR (H + 1) (dsd x0 k))) else dst H x0 st0 k := rfl
theorem dsd_s (x0 : Int32) (k : Nat) : dsd x0 (k + 1) = drS (dsd x0 k) := rfl
theorem cday_loop {H pl : Nat} (hH : H ≤ 6) (hp : pl ≤ 3) (K : Int32 → (Nat → Int32) → Option ((Nat → Int32) × (Nat → Int32) × Int32 × Int32 × Int32 × Int32 × (Nat → Int32) × (Nat → Int32) × Int32 × Int32)) (x0 : Int32) (st0 : Nat → Int32) :
    lq3 (B_X8_driftDay_1 (nI pl) K (nI H)) fu 0 x0 st0 = K (dsd x0 pl) (dst H x0 st0 pl) := by
  refine lq3_inv (fun k y sd st => y = nI k ∧ sd = dsd x0 k ∧ st = dst H x0 st0 k) (fun o => o = K (dsd x0 pl) (dst H x0 st0 pl)) pl ?_ ?_ fu 0 0 x0 st0 (by omega) (by unfold fu; omega) ⟨rfl, rfl, rfl⟩
  · rintro rec k y sd st hk ⟨rfl, rfl, rfl⟩
    refine Or.inl ⟨nI (k + 1), dsd x0 (k + 1), dst H x0 st0 (k + 1), ⟨rfl, rfl, rfl⟩, ?_⟩
    unfold B_X8_driftDay_1
    rw [if_neg (nI_ge hk (by omega)), if_neg (show ¬ (3 : Int32) ≤ nI k from nI_ge (b := 3) (by omega) (by decide)), nI_1, e_cdraw (by omega) (by omega), bn2_some, jn1_d, nI_1]
    have hr := drR_lt (N := H + 1) (by omega) (dsd x0 k)
    rw [dst_s]
    generalize drR (H + 1) (dsd x0 k) = r at hr ⊢
    by_cases c : r < H
    · rw [if_neg (nI_ge c (by omega)), e_placeOf, bn1_some]
      by_cases c2 : free (dst H x0 st0 k) (nI r)
      · rw [if_pos ((place_free _ _).mpr c2), if_neg (idx_ok rfl (by omega) (by decide)), nI_clamp (by omega), if_pos ⟨c, c2⟩]; rfl
      · rw [if_neg (fun z => c2 ((place_free _ _).mp z)), if_neg (fun z => c2 z.2)]; rfl
    · rw [if_pos (nI_le (by omega) (by omega)), if_neg (fun z => c z.1)]; rfl
  · rintro rec y sd st ⟨rfl, rfl, rfl⟩
    unfold B_X8_driftDay_1
    rw [if_pos (Int32.le_refl _)]
/-- the reference's row while a day is drawn -/
def SR (H : Nat) (x0 : Int32) (st0 s : Nat → Int32) (k : Nat) (z : Nat → Int32) : Prop := z 12 = dsd x0 k ∧ (z 6 = dst H x0 st0 k 0 ∧ z 7 = dst H x0 st0 k 1 ∧ z 8 = dst H x0 st0 k 2) ∧ ∀ j, j ≠ 12 → ¬ (6 ≤ j ∧ j < 9) → z j = s j
theorem free_ext {f g : Nat → Int32} {r : Int32} (h : f 0 = g 0 ∧ f 1 = g 1 ∧ f 2 = g 2) : free f r ↔ free g r := by
  unfold free
  rw [h.1, h.2.1, h.2.2]
theorem jnB {B : Type} (F : Int32 → Option B) (c : Prop) [Decidable c] (X : Option Int32) : jn1 F (fun J => jn1 (fun (_ : Unit) => J 0) (fun J2 => if c then J2 () else bn1 X (fun r => if r = -1 then J 1 else J2 ()))) = if c then F 0 else bn1 X (fun r => if r = -1 then F 1 else F 0) := rfl
theorem mday_loop {t : Nat → Int32} {H pl : Nat} (hH : H ≤ 6) (hp : pl ≤ 3) (e3 : t 3 = nI H) (e0 : t 0 = nI pl) (K : (Nat → Int32) → Option (Int32 × Int32 × Int32 × (Nat → Int32) × (Nat → Int32) × (Nat → Int32) × (Nat → Int32))) (x0 : Int32) (st0 s s0 : Nat → Int32) (hst0 : ∀ p, p < 3 → st0 p = -1) (hs0 : SR H x0 st0 s 0 s0) :
    ∃ s', lq2 (B_X9_drift_2 t K) fu 0 s0 = K s' ∧ SR H x0 st0 s pl s' := by
  refine lq2_inv (fun k y z => y = nI k ∧ SR H x0 st0 s k z) (fun o => ∃ s', o = K s' ∧ SR H x0 st0 s pl s') pl ?_ ?_ fu 0 0 s0 (by omega) (by unfold fu; omega) ⟨rfl, hs0⟩
  · rintro rec k y z hk ⟨rfl, h12, h678, hoth⟩
    have hneg := (dst_stnd (x0 := x0) hH hst0 k (by omega)).1
    refine Or.inl ⟨nI (k + 1), upd (upd z 12 (drS (z 12))) (6 + k) (dst H x0 st0 (k + 1) k), ⟨rfl, ?_⟩, ?_⟩
    · have hd : ∀ p, p < 3 → p ≠ k → dst H x0 st0 (k + 1) p = dst H x0 st0 k p := fun p hp hn => by
        rw [dst_s]
        by_cases c : drR (H + 1) (dsd x0 k) < H ∧ free (dst H x0 st0 k) (nI (drR (H + 1) (dsd x0 k)))
        · rw [if_pos c, upd_n hn]
        · rw [if_neg c]
      refine ⟨by rw [upd_n (by omega), upd_s, h12, dsd_s], ?_, fun j h1 h2 => by rw [upd_n (by omega), upd_n h1]; exact hoth j h1 h2⟩
      have : k = 0 ∨ k = 1 ∨ k = 2 := by omega
      rcases this with rfl | rfl | rfl
      · refine ⟨by rw [show (6 + 0 : Nat) = 6 from rfl, upd_s], ?_, ?_⟩
        · rw [upd_n (by decide), upd_n (by decide), hd 1 (by decide) (by decide)]; exact h678.2.1
        · rw [upd_n (by decide), upd_n (by decide), hd 2 (by decide) (by decide)]; exact h678.2.2
      · refine ⟨?_, by rw [show (6 + 1 : Nat) = 7 from rfl, upd_s], ?_⟩
        · rw [upd_n (by decide), upd_n (by decide), hd 0 (by decide) (by decide)]; exact h678.1
        · rw [upd_n (by decide), upd_n (by decide), hd 2 (by decide) (by decide)]; exact h678.2.2
      · refine ⟨?_, ?_, by rw [show (6 + 2 : Nat) = 8 from rfl, upd_s]⟩
        · rw [upd_n (by decide), upd_n (by decide), hd 0 (by decide) (by decide)]; exact h678.1
        · rw [upd_n (by decide), upd_n (by decide), hd 1 (by decide) (by decide)]; exact h678.2.1
    · have hr := drR_lt (N := H + 1) (by omega) (dsd x0 k)
      have q0 : ¬ t (Int32.toNatClampNeg 0) ≤ nI k := by show ¬ t 0 ≤ nI k; rw [e0]; exact nI_ge hk (by omega)
      have q3 : t (Int32.toNatClampNeg 3) = nI H := e3
      have hmd := e_mdraw (N := H + 1) (by omega) (by omega) z
      have hds := congrFun (dst_s H x0 st0 k) k
      rw [hds]
      rw [h12] at hmd ⊢
      generalize drR (H + 1) (dsd x0 k) = r at hr hmd hds ⊢
      generalize drS (dsd x0 k) = sd at hmd ⊢
      unfold B_X9_drift_2
      have e6 : (6 : Int32) + nI k = nI (6 + k) := nI_add 6 k
      rw [if_neg q0, q3, nI_1, hmd, bn2_some]
      refine Eq.trans (jnB _ _ _) ?_
      have hi : ¬ (nI (6 + k) < 0 ∨ 13 ≤ (nI (6 + k)).toNatClampNeg) := idx_ok rfl (by omega) (by decide)
      have hf : free (fun p => upd z 12 sd (6 + p)) (nI r) ↔ free (dst H x0 st0 k) (nI r) := free_ext ⟨by rw [upd_n (by decide)]; exact h678.1, by rw [upd_n (by decide)]; exact h678.2.1, by rw [upd_n (by decide)]; exact h678.2.2⟩
      by_cases c : r < H
      · by_cases c2 : free (dst H x0 st0 k) (nI r)
        · have e9 : (if r < H ∧ free (dst H x0 st0 k) (nI r) then upd (dst H x0 st0 k) k (nI r) else dst H x0 st0 k) k = nI r := by rw [if_pos ⟨c, c2⟩, upd_s]
          rw [e9, if_neg (nI_ge c (by omega)), e_whereIs, bn1_some, if_pos ((where_free _ _).mpr (hf.mpr c2)), jn1_if, e6, if_neg hi, if_neg (by decide), nI_1, nI_clamp (by omega)]
        · have e9 : (if r < H ∧ free (dst H x0 st0 k) (nI r) then upd (dst H x0 st0 k) k (nI r) else dst H x0 st0 k) k = -1 := by rw [if_neg (fun z => c2 z.2), hneg k (by omega) (by omega)]
          rw [e9, if_neg (nI_ge c (by omega)), e_whereIs, bn1_some, if_neg (fun z => c2 (hf.mp ((where_free _ _).mp z))), jn1_if, e6, if_neg hi, if_pos rfl, nI_1, nI_clamp (by omega)]
      · have e9 : (if r < H ∧ free (dst H x0 st0 k) (nI r) then upd (dst H x0 st0 k) k (nI r) else dst H x0 st0 k) k = -1 := by rw [if_neg (fun z => c z.1), hneg k (by omega) (by omega)]
        rw [e9, if_pos (nI_le (by omega) (by omega)), jn1_if, e6, if_neg hi, if_pos rfl, nI_1, nI_clamp (by omega)]
  · rintro rec y z ⟨rfl, hz⟩
    refine ⟨z, ?_, hz⟩
    unfold B_X9_drift_2
    have q0 : t (Int32.toNatClampNeg 0) ≤ nI pl := by show t 0 ≤ nI pl; rw [e0]; exact Int32.le_refl _
    rw [if_pos q0]
theorem RNb_draw {b : Int} {hour oats missed seed : Int32} {strength stands s t : Nat → Int32} (ht : TW t) (h : RNb b hour oats missed seed strength stands s t) : RNb b hour oats missed (drS seed) strength stands (upd s 12 (drS (s 12))) t := by
  obtain ⟨⟨s9, hh0, hhb⟩, ⟨s10, ho0, ho1⟩, s11, ⟨s12, hseed⟩, ⟨s6, s7, s8⟩, hst, hstr⟩ := h
  obtain ⟨k, hk, e⟩ := drS_n seed
  refine ⟨⟨by rw [upd_n (by decide)]; exact s9, hh0, hhb⟩, ⟨by rw [upd_n (by decide)]; exact s10, ho0, ho1⟩, by rw [upd_n (by decide)]; exact s11, ⟨by rw [upd_s, s12], by rw [e]; exact nI_pos' (by omega)⟩, ⟨by rw [upd_n (by decide)]; exact s6, by rw [upd_n (by decide)]; exact s7, by rw [upd_n (by decide)]; exact s8⟩, hst, fun h hh => ?_⟩
  obtain ⟨H, h6, e3, eH⟩ := hor_n ht
  rw [upd_n (by omega)]; exact hstr h hh
