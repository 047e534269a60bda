/-! PURE SIDE: seat(): what the class's horses pull is what the reference's do -/
/-- the class's Boat as far as pulls go -/
def PB (horses blinds : Int32) (pull moods t : Nat → Int32) : Prop := horses = t 3 ∧ MOODS t moods ∧ ∀ h : Nat, h < (t 3).toNatClampNeg → t (8 + 4 * h) = pull h ∧ t (8 + 4 * h + 3) = if (blinds >>> (nI h &&& 31)) &&& 1 = 0 then 0 else 1
theorem e_cBlind {h : Nat} (hh : h < 6) (blinds : Int32) : f_X0_isBlind (nI h) blinds = some (if (blinds >>> (nI h &&& 31)) &&& 1 = 0 then 0 else 1) := by
  unfold f_X0_isBlind
  rw [if_neg (nI_pos (by omega)), if_neg (show ¬ (6 : Int32) ≤ nI h from nI_ge (a := h) (b := 6) hh (by decide))]
  by_cases c : (blinds >>> (nI h &&& 31)) &&& 1 = 0
  · rw [if_pos c, if_pos c]
  · rw [if_neg c, if_neg c]
theorem e_cHorse {h : Nat} {horses : Int32} (h1 : h < horses.toNatClampNeg) (h2 : h < 6) : f_X0_hasHorse (nI h) horses = some 1 := by
  rw [e_hasHorse, if_pos]
  refine ⟨nI_pos' (by omega), ?_, nI_lt (a := h) (b := 6) h2 (by decide)⟩
  rw [i_lt, nI_toInt (by omega)]
  rw [i_cl] at h1
  omega
theorem e_cHorse_no {horses : Int32} : f_X0_hasHorse (-1) horses = some 0 := by
  rw [e_hasHorse, if_neg (fun z => absurd z.1 (by decide))]
theorem pos_max {v : Int} (h1 : -9 ≤ v) (h2 : v ≤ 40) : (if (0 : Int32) < jI v then jI v else 0) = jI (posP v) := by
  unfold posP
  by_cases c : v < 0
  · have : ¬ (0 : Int32) < jI v := by rw [show (0 : Int32) = jI 0 from rfl, jI_lt (by omega) (by omega) (by omega) (by omega)]; omega
    rw [if_pos c, if_neg this]; rfl
  · rw [if_neg c]
    by_cases c2 : v = 0
    · subst c2; rfl
    · have : (0 : Int32) < jI v := by rw [show (0 : Int32) = jI 0 from rfl, jI_lt (by omega) (by omega) (by omega) (by omega)]; omega
      rw [if_pos this]
theorem e_pb {t a pull moods : Nat → Int32} {horses blinds other bf bh : Int32} {h p : Nat} (ht : TW t) (ha : CREW t a) (hh : h < 6) (hth : h < (t 3).toNatClampNeg) (hho : horses = t 3) (hbl : t (8 + 4 * h + 3) = if (blinds >>> (nI h &&& 31)) &&& 1 = 0 then 0 else 1) (hown : (if other = 0 then pull h else other) = t (8 + 4 * h))
    (hbf : f_X0_mood (nI h) bf moods = some (jI (md0 t a h p))) (hbh : f_X0_mood (nI h) bh moods = some (jI (moodP t a h (p + 1)))) :
    f_X0_pullBetween (nI h) other bf bh horses blinds pull moods = some (jI (posP (rawP t a h p))) := by
  have hb := rawP_b ht ha (p := p) hh hth
  have hm0 := md0_b ht ha (p := p) hh
  have hm1 := moodP_b ht ha (p := p + 1) hh
  have hpl := pull_b ht hth
  subst hho
  unfold f_X0_pullBetween
  rw [e_cHorse hth hh, bn1_some, if_neg (by decide), jn1_d]
  have key : ∀ z : Int32, z = t (8 + 4 * h) → bn1 (f_X0_isBlind (nI h) blinds) (fun r_3 => if r_3 = 0 then bn1 (f_X0_mood (nI h) bf moods) (fun r_4 => bn1 (f_X0_mood (nI h) bh moods) (fun r_5 => some (if (0 : Int32) < z + r_4 + r_5 then z + r_4 + r_5 else 0))) else some z) = some (jI (posP (rawP t a h p))) := by
    intro z hz
    rw [e_cBlind hh, bn1_some]
    unfold rawP at hb ⊢
    by_cases c : (blinds >>> (nI h &&& 31)) &&& 1 = 0
    · have c2 : t (8 + 4 * h + 3) = 0 := by rw [hbl, if_pos c]
      rw [if_pos c2] at hb
      rw [if_pos c, if_pos rfl, hbf, bn1_some, hbh, bn1_some, if_pos c2, hz]
      have ez : t (8 + 4 * h) + jI (md0 t a h p) + jI (moodP t a h (p + 1)) = jI ((t (8 + 4 * h)).toInt + (md0 t a h p + moodP t a h (p + 1))) := by
        rw [← jI_self (t (8 + 4 * h)), jI_add, jI_add, jI_self, Int.add_assoc]
      rw [ez, pos_max hb.1 hb.2]
    · have c2 : ¬ t (8 + 4 * h + 3) = 0 := by rw [hbl, if_neg c]; decide
      rw [if_neg c, if_neg (by decide), if_neg c2, hz]
      unfold posP
      rw [if_neg (by omega), jI_self]
  by_cases c : other = 0
  · rw [if_pos c, if_neg (idx_ok rfl hh (by decide)), nI_clamp (by omega)]
    rw [if_pos c] at hown
    exact key _ hown
  · rw [if_neg c]
    rw [if_neg c] at hown
    exact key _ hown
/-- place p of a crew -/
theorem e_pbp {t a pull moods : Nat → Int32} {horses blinds bf bh : Int32} {p : Nat} (ht : TW t) (ha : CREW t a) (hB : PB horses blinds pull moods t) (hp : p < 3) (hbf : (p = 0 ∧ bf = -1) ∨ (0 < p ∧ bf = a (p - 1))) (hbh : (p = 2 ∧ bh = -1) ∨ (p < 2 ∧ bh = a (p + 1))) :
    f_X0_pullBetween (a p) 0 bf bh horses blinds pull moods = some (jI (pullP t a (-1) p)) := by
  rcases ha p hp with e | ⟨h, hth, hh, e⟩
  · unfold f_X0_pullBetween pullP
    rw [e, e_cHorse_no, bn1_some, if_pos rfl, if_pos rfl]
    rfl
  · obtain ⟨hb1, hb2⟩ := hB.2.2 h hth
    rw [pullP_eq e hh, if_neg (nI_ne (by omega)), e]
    refine e_pb ht ha hh hth hB.1 hb2 (by rw [if_pos rfl, hb1]) ?_ ?_
    · unfold md0
      rcases hbf with ⟨z, rfl⟩ | ⟨z, rfl⟩
      · rw [if_pos z, e_cmood_no hh]; rfl
      · rw [if_neg (by omega), e_cmood hB.2.1 ha hh (by omega)]
    · rcases hbh with ⟨z, rfl⟩ | ⟨z, rfl⟩
      · rw [e_cmood_no hh]
        unfold moodP
        rw [if_neg (by omega)]; rfl
      · rw [e_cmood hB.2.1 ha hh (by omega)]
theorem e_seat {t a pull moods who cp : Nat → Int32} {horses blinds : Int32} {c : Nat} (ht : TW t) (ha : CREW t a) (hB : PB horses blinds pull moods t) (hc : c ≤ 228) :
    ∃ W P : Nat → Int32, f_X2_seat (nI c) (a 0) (a 1) (a 2) who cp horses blinds pull moods = some (W, P) ∧ ROW W P c a (pullP t a (-1)) ∧ ∀ k : Nat, (k < 3 * c ∨ 3 * c + 3 ≤ k) → W k = who k ∧ P k = cp k := by
  have e3c : nI c * (3 : Int32) = nI (3 * c) := by rw [show (3 : Int32) = nI 3 from rfl, pk_mul, Nat.mul_comm]
  have e1 : nI (3 * c) + (1 : Int32) = nI (3 * c + 1) := nI_add _ 1
  have e2 : nI (3 * c) + (2 : Int32) = nI (3 * c + 2) := nI_add _ 2
  refine ⟨upd (upd (upd who (3 * c) (a 0)) (3 * c + 1) (a 1)) (3 * c + 2) (a 2), upd (upd (upd cp (3 * c) (jI (pullP t a (-1) 0))) (3 * c + 1) (jI (pullP t a (-1) 1))) (3 * c + 2) (jI (pullP t a (-1) 2)), ?_, ⟨hc, ?_⟩, ?_⟩
  · unfold f_X2_seat
    rw [e_isCrew hc, bn1_some, if_neg (by decide), e3c, e1, e2, if_neg (idx_ok rfl (by omega) (by decide)), if_neg (idx_ok rfl (by omega) (by decide)), if_neg (idx_ok rfl (by omega) (by decide)), e_pbp (p := 0) ht ha hB (by decide) (Or.inl ⟨rfl, rfl⟩) (Or.inr ⟨by decide, rfl⟩), bn1_some, e_pbp (p := 1) ht ha hB (by decide) (Or.inr ⟨by decide, rfl⟩) (Or.inr ⟨by decide, rfl⟩), bn1_some, e_pbp (p := 2) ht ha hB (by decide) (Or.inr ⟨by decide, rfl⟩) (Or.inl ⟨rfl, rfl⟩), bn1_some, nI_clamp (by omega), nI_clamp (by omega), nI_clamp (by omega)]
  · intro p hp
    match p, hp with
    | 0, _ => exact ⟨by rw [upd_n (by omega), upd_n (by omega), Nat.add_zero, upd_s], by rw [upd_n (by omega), upd_n (by omega), Nat.add_zero, upd_s]⟩
    | 1, _ => exact ⟨by rw [upd_n (by omega), upd_s], by rw [upd_n (by omega), upd_s]⟩
    | 2, _ => exact ⟨by rw [upd_s], by rw [upd_s]⟩
  · intro k hk
    exact ⟨by rw [upd_n (by omega), upd_n (by omega), upd_n (by omega)], by rw [upd_n (by omega), upd_n (by omega), upd_n (by omega)]⟩
