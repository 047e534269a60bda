def f_X2_choices (n1 : Int32) (b_places : Int32) (b_horses : Int32) : Option (Int32) :=
  bn1 (f_X0_hasPlace n1 b_places) (fun (r_1 : Int32) =>
    if r_1 = 0 then
      some ((0 : Int32))
    else
      some (b_horses)
  )
set_option maxRecDepth 100000 in
theorem plC_3 (cI cZ cII : ClassId) (qc qc_who qc_pull qb qb_pull qb_strength qb_back qb_moods qb_tides qb_carts : Nat) (c_last : Int32) (c_who : Nat → Int32) (c_pull : Nat → Int32) (b_law : Int32) (b_places : Int32) (b_broad : Int32) (b_horses : Int32) (b_blinds : Int32) (b_besides : Int32) (b_tideCount : Int32) (b_cartCount : Int32) (b_due : Int32) (b_pairs : Int64) (b_pull : Nat → Int32) (b_strength : Nat → Int32) (b_back : Nat → Int32) (b_moods : Nat → Int32) (b_tides : Nat → Int32) (b_carts : Nat → Int32) : ([3, 4, 5, 6, 7, 8, 9] : List Nat).map (fun i => (W_X2c_X0b cI cZ cII qc qc_who qc_pull qb qb_pull qb_strength qb_back qb_moods qb_tides qb_carts c_last c_who c_pull b_law b_places b_broad b_horses b_blinds b_besides b_tideCount b_cartCount b_due b_pairs b_pull b_strength b_back b_moods b_tides b_carts)[i]?) = (W_X0b cI cZ cII qb qb_pull qb_strength qb_back qb_moods qb_tides qb_carts b_law b_places b_broad b_horses b_blinds b_besides b_tideCount b_cartCount b_due b_pairs b_pull b_strength b_back b_moods b_tides b_carts).map some := rfl
set_option maxRecDepth 100000 in
theorem plF_3 (cI cZ cII : ClassId) (qc qc_who qc_pull qb qb_pull qb_strength qb_back qb_moods qb_tides qb_carts : Nat) (c_last : Int32) (c_who : Nat → Int32) (c_pull : Nat → Int32) (b_law : Int32) (b_places : Int32) (b_broad : Int32) (b_horses : Int32) (b_blinds : Int32) (b_besides : Int32) (b_tideCount : Int32) (b_cartCount : Int32) (b_due : Int32) (b_pairs : Int64) (b_pull : Nat → Int32) (b_strength : Nat → Int32) (b_back : Nat → Int32) (b_moods : Nat → Int32) (b_tides : Nat → Int32) (b_carts : Nat → Int32) (b9b_law : Int32) (b9b_places : Int32) (b9b_broad : Int32) (b9b_horses : Int32) (b9b_blinds : Int32) (b9b_besides : Int32) (b9b_tideCount : Int32) (b9b_cartCount : Int32) (b9b_due : Int32) (b9b_pairs : Int64) (b9b_pull : Nat → Int32) (b9b_strength : Nat → Int32) (b9b_back : Nat → Int32) (b9b_moods : Nat → Int32) (b9b_tides : Nat → Int32) (b9b_carts : Nat → Int32) : ([0, 1, 2, 3, 4, 5, 6, 7, 8, 9] : List Nat).map (fun i => (pickW (W_X2c_X0b cI cZ cII qc qc_who qc_pull qb qb_pull qb_strength qb_back qb_moods qb_tides qb_carts c_last c_who c_pull b_law b_places b_broad b_horses b_blinds b_besides b_tideCount b_cartCount b_due b_pairs b_pull b_strength b_back b_moods b_tides b_carts) ([0, 1, 2] : List Nat) ++ (W_X0b cI cZ cII qb qb_pull qb_strength qb_back qb_moods qb_tides qb_carts b9b_law b9b_places b9b_broad b9b_horses b9b_blinds b9b_besides b9b_tideCount b9b_cartCount b9b_due b9b_pairs b9b_pull b9b_strength b9b_back b9b_moods b9b_tides b9b_carts))[i]?) = (W_X2c_X0b cI cZ cII qc qc_who qc_pull qb qb_pull qb_strength qb_back qb_moods qb_tides qb_carts c_last c_who c_pull b9b_law b9b_places b9b_broad b9b_horses b9b_blinds b9b_besides b9b_tideCount b9b_cartCount b9b_due b9b_pairs b9b_pull b9b_strength b9b_back b9b_moods b9b_tides b9b_carts).map some := rfl
abbrev rm_X2_choices : Room := { frames := 1, cells := 0, slots := 0, locals := 21 }
theorem dk_X2_choices : yX2_choices.cls = RX2 ∧ yX2_choices.cls ≠ "java/lang/invoke/MethodHandle" ∧ yX2_choices.cls ≠ "java/lang/invoke/VarHandle" ∧ (parseMethodDescriptor yX2_choices.desc).map (fun d => d.parameters.length) = some 1 := by decide +kernel
set_option maxHeartbeats 4000000 in
set_option maxRecDepth 100000 in
theorem c_X2_choices (l : Launch) (dC : Nat → ClassId) (dI : Nat → Nat → Nat) (cI cZ cII : ClassId) (qc qc_who qc_pull qb qb_pull qb_strength qb_back qb_moods qb_tides qb_carts : Nat) (sz : Nat) (c_last : Int32) (c_who : Nat → Int32) (c_pull : Nat → Int32) (b_law : Int32) (b_places : Int32) (b_broad : Int32) (b_horses : Int32) (b_blinds : Int32) (b_besides : Int32) (b_tideCount : Int32) (b_cartCount : Int32) (b_due : Int32) (b_pairs : Int64) (b_pull : Nat → Int32) (b_strength : Nat → Int32) (b_back : Nat → Int32) (b_moods : Nat → Int32) (b_tides : Nat → Int32) (b_carts : Nat → Int32) (n1 : Int32) (rr : Int32) (hf : f_X2_choices n1 b_places b_horses = some (rr)) : Met l yX2_choices (wM yX2_choices cX2_choices 2 (some .int)) rm_X2_choices (PreW (dC, dI) (tyA cI cZ cII) (W_X2c_X0b cI cZ cII qc qc_who qc_pull qb qb_pull qb_strength qb_back qb_moods qb_tides qb_carts c_last c_who c_pull b_law b_places b_broad b_horses b_blinds b_besides b_tideCount b_cartCount b_due b_pairs b_pull b_strength b_back b_moods b_tides b_carts) sz [.ref qc, .int n1]) (PostI (dC, dI) (tyA cI cZ cII) rr (W_X2c_X0b cI cZ cII qc qc_who qc_pull qb qb_pull qb_strength qb_back qb_moods qb_tides qb_carts c_last c_who c_pull b_law b_places b_broad b_horses b_blinds b_besides b_tideCount b_cartCount b_due b_pairs b_pull b_strength b_back b_moods b_tides b_carts) (W_X2c_X0b cI cZ cII qc qc_who qc_pull qb qb_pull qb_strength qb_back qb_moods qb_tides qb_carts c_last c_who c_pull b_law b_places b_broad b_horses b_blinds b_besides b_tideCount b_cartCount b_due b_pairs b_pull b_strength b_back b_moods b_tides b_carts) sz) 0 0 (va_A (W_X2c_X0b cI cZ cII qc qc_who qc_pull qb qb_pull qb_strength qb_back qb_moods qb_tides qb_carts c_last c_who c_pull b_law b_places b_broad b_horses b_blinds b_besides b_tideCount b_cartCount b_due b_pairs b_pull b_strength b_back b_moods b_tides b_carts) sz) := by
  refine Met.ofW (cc := cX2_choices) (maxL := 2) (ret := (some .int)) (by decide) rfl ?_
  intro p e s m args below meth c s₁ B hml hv
  obtain ⟨rfl, hsz, hP, hK, hD0⟩ := hv
  have hx := B.exec
  have hb := B.bytes
  have hr := B.returns
  have hts := atoms_spec (ws := wM yX2_choices cX2_choices 2 (some .int)) B.pre
  have hown : s.vm.findClass RX2 = some m.cls := findClass_of_methodNamed B.named
  have hlocks := B.notSynchronized
  subst hsz
  have hD := hD0.self (sz := s.heap.size)
  obtain ⟨A, hAe⟩ : ∃ A, A = va_A (W_X2c_X0b cI cZ cII qc qc_who qc_pull qb qb_pull qb_strength qb_back qb_moods qb_tides qb_carts c_last c_who c_pull b_law b_places b_broad b_horses b_blinds b_besides b_tideCount b_cartCount b_due b_pairs b_pull b_strength b_back b_moods b_tides b_carts) s.heap.size := ⟨_, rfl⟩
  rw [← hAe] at hD
  have hA : ∀ q : Nat, s.heap.size ≤ q → A q := fun q h => by rw [hAe]; exact Or.inr h
  have hS : va_S A s.heap s.heap [] := va_S.rf
  have hl := lv_entry ([.ref qc, .int n1]) (n := 2) (Nat.le_of_ble_eq_true rfl)
  rw [lg_entry_eq]
  generalize (lg_sl ([.ref qc, .int n1]) ++ List.replicate (2 - (lg_sl ([.ref qc, .int n1])).length) Slot.unset).toArray = ls at hl ⊢
  have hl : lv_has ls 2 [(0, .ref qc), (1, .int n1)] := hl
  generalize ([.ref qc, .int n1] : List Value).toArray = args at hts ⊢
  have hw : ∀ w ∈ wsL_law, w.before args s = true := fun w h => hts w (List.mem_cons_of_mem _ h)
  refine pg_start (fun Q hQ => ?_)
  have RET : ∀ (H : Heap) (locs : List Loc) (ls : Array Slot) (pc : Nat) (v : Int32) , decode cX2_choices pc = .ok (.ireturn, 1) → va_P (dC, dI) vwCl (W_X2c_X0b cI cZ cII qc qc_who qc_pull qb qb_pull qb_strength qb_back qb_moods qb_tides qb_carts c_last c_who c_pull b_law b_places b_broad b_horses b_blinds b_besides b_tideCount b_cartCount b_due b_pairs b_pull b_strength b_back b_moods b_tides b_carts) H → va_D A (W_X2c_X0b cI cZ cII qc qc_who qc_pull qb qb_pull qb_strength qb_back qb_moods qb_tides qb_carts c_last c_who c_pull b_law b_places b_broad b_horses b_blinds b_besides b_tideCount b_cartCount b_due b_pairs b_pull b_strength b_back b_moods b_tides b_carts) → va_S A s.heap H locs → (some (v) : Option (Int32)) = some (rr) → W p l e rm_X2_choices s m args below meth c H locs 0 0 Q (F0 m pc ls [.int v]) := by
    intro H locs ls pc v hd hP hD hS he
    subst hAe; subst hQ
    obtain rfl := Option.some.inj he
    exact pg_iret hx hb hr hlocks hK hP hD hS hd
  unfold f_X2_choices at hf
  refine lv_aload_n hx hb dX2_choices_0 rfl (lv_at hl 0 rfl) ?_
  refine va_get (D := (dC, dI)) (ci := 2) (v := .ref qb) (C := RX2) (T := TX2) (N := 4) hx hb hw inlX2 hown hK hP 0 rfl rfl 1 (by decide) (hw _ mw_3_21) (fun _ h9 => h9) rfl dX2_choices_1 ?_
  refine lv_iload_n hx hb dX2_choices_4 rfl (lv_at hl 1 rfl) ?_
  obtain ⟨r_1, hc, hf⟩ := bn1_s hf
  refine pg_cVi (As := [.int n1]) (rest := []) (wf := (W_X2c_X0b cI cZ cII qc qc_who qc_pull qb qb_pull qb_strength qb_back qb_moods qb_tides qb_carts c_last c_who c_pull b_law b_places b_broad b_horses b_blinds b_besides b_tideCount b_cartCount b_due b_pairs b_pull b_strength b_back b_moods b_tides b_carts)) ⟨hx, hb, hml, hown, hw⟩ (c_X0_hasPlace l dC dI cI cZ cII qb qb_pull qb_strength qb_back qb_moods qb_tides qb_carts s.heap.size b_law b_places b_broad b_horses b_blinds b_besides b_tideCount b_cartCount b_due b_pairs b_pull b_strength b_back b_moods b_tides b_carts n1 r_1 hc) (cwV 1 hts (wM_V mw_17_5 mw_17_6 mw_17_7 mw_1_15 mw_17_8) rfl rfl rfl dk_X0_hasPlace ⟨Nat.le_of_ble_eq_true rfl, Nat.le_of_ble_eq_true rfl⟩) hK hP hD hS hA 0 0 rfl rfl rfl [3, 4, 5, 6, 7, 8, 9] [0, 1, 2] [0, 1, 2, 3, 4, 5, 6, 7, 8, 9] (plC_3 cI cZ cII qc qc_who qc_pull qb qb_pull qb_strength qb_back qb_moods qb_tides qb_carts c_last c_who c_pull b_law b_places b_broad b_horses b_blinds b_besides b_tideCount b_cartCount b_due b_pairs b_pull b_strength b_back b_moods b_tides b_carts) rfl (plF_3 cI cZ cII qc qc_who qc_pull qb qb_pull qb_strength qb_back qb_moods qb_tides qb_carts c_last c_who c_pull b_law b_places b_broad b_horses b_blinds b_besides b_tideCount b_cartCount b_due b_pairs b_pull b_strength b_back b_moods b_tides b_carts b_law b_places b_broad b_horses b_blinds b_besides b_tideCount b_cartCount b_due b_pairs b_pull b_strength b_back b_moods b_tides b_carts) (by decide) rfl hl.1 rfl (Nat.le_of_ble_eq_true rfl) dX2_choices_5 ⟨Nat.zero_le _, Nat.zero_le _⟩ (fun H locs hP hD hS => ?_)
  refine lv_if_eq (tgt := 21) hx hb dX2_choices_8 (by decide) (fun h9 => ?_) (fun h9 => ?_)
  · have hf := pg_t h9 hf
    refine lv_iconst (v := (0 : Int32)) hx hb dX2_choices_21 (by decide) ?_
    exact RET _ _ _ _ _ dX2_choices_22 hP hD hS hf
  · have hf := pg_f h9 hf
    refine lv_aload_n hx hb dX2_choices_11 rfl (lv_at hl 0 rfl) ?_
    refine va_get (D := (dC, dI)) (ci := 2) (v := .ref qb) (C := RX2) (T := TX2) (N := 4) hx hb hw inlX2 hown hK hP 0 rfl rfl 1 (by decide) (hw _ mw_3_21) (fun _ h9 => h9) rfl dX2_choices_12 ?_
    refine va_get (D := (dC, dI)) (ci := 0) (v := .int b_horses) (C := RX0) (T := TX0) (N := 16) hx hb hw inlX0 hown hK hP 3 rfl rfl 3 (by decide) (hw _ mw_17_4) (fun _ h9 => h9) rfl dX2_choices_15 ?_
    refine lv_goto (tgt := 22) hx hb dX2_choices_18 (by decide) ?_
    exact RET _ _ _ _ _ dX2_choices_22 hP hD hS hf
def f_X2_isOneTwice (n0 : Int32) (n1 : Int32) (n2 : Int32) : Option (Int32) :=
  jn1 (fun (u_1 : Unit) =>
    if n1 = (-1 : Int32) then
      some ((0 : Int32))
    else
      if n1 = n2 then
        some ((1 : Int32))
      else
        some ((0 : Int32))
  ) (fun J15_1 =>
  if n0 = (-1 : Int32) then
    J15_1 ()
  else
    if n0 = n1 then
      some ((1 : Int32))
    else
      if n0 = n2 then
        some ((1 : Int32))
      else
        J15_1 ()
  )
abbrev rm_X2_isOneTwice : Room := { frames := 0, cells := 0, slots := 0, locals := 0 }
theorem dk_X2_isOneTwice : yX2_isOneTwice.cls ≠ "java/lang/invoke/MethodHandle" ∧ yX2_isOneTwice.cls ≠ "java/lang/invoke/VarHandle" ∧ (parseMethodDescriptor yX2_isOneTwice.desc).map (fun d => d.parameters.length) = some 3 := by decide +kernel
set_option maxHeartbeats 4000000 in
set_option maxRecDepth 100000 in
theorem c_X2_isOneTwice (l : Launch) (dC : Nat → ClassId) (dI : Nat → Nat → Nat) (cI cZ cII : ClassId) (sz : Nat) (n0 : Int32) (n1 : Int32) (n2 : Int32) (rr : Int32) (hf : f_X2_isOneTwice n0 n1 n2 = some (rr)) : Met l yX2_isOneTwice (wM yX2_isOneTwice cX2_isOneTwice 3 (some .boolean)) rm_X2_isOneTwice (PreW (dC, dI) (tyA cI cZ cII) (W_0 cI cZ cII) sz [.int n0, .int n1, .int n2]) (PostI (dC, dI) (tyA cI cZ cII) rr (W_0 cI cZ cII) (W_0 cI cZ cII) sz) 0 0 (va_A (W_0 cI cZ cII) sz) := by
  refine Met.ofW (cc := cX2_isOneTwice) (maxL := 3) (ret := (some .boolean)) (by decide) rfl ?_
  intro p e s m args below meth c s₁ B hml hv
  obtain ⟨rfl, hsz, hP, hK, hD0⟩ := hv
  have hx := B.exec
  have hb := B.bytes
  have hr := B.returns
  have hts := atoms_spec (ws := wM yX2_isOneTwice cX2_isOneTwice 3 (some .boolean)) B.pre
  have hown : s.vm.findClass RX2 = some m.cls := findClass_of_methodNamed B.named
  have hlocks := B.notSynchronized
  subst hsz
  have hD := hD0.self (sz := s.heap.size)
  obtain ⟨A, hAe⟩ : ∃ A, A = va_A (W_0 cI cZ cII) s.heap.size := ⟨_, rfl⟩
  rw [← hAe] at hD
  have hA : ∀ q : Nat, s.heap.size ≤ q → A q := fun q h => by rw [hAe]; exact Or.inr h
  have hS : va_S A s.heap s.heap [] := va_S.rf
  have hl := lv_entry ([.int n0, .int n1, .int n2]) (n := 3) (Nat.le_of_ble_eq_true rfl)
  rw [lg_entry_eq]
  generalize (lg_sl ([.int n0, .int n1, .int n2]) ++ List.replicate (3 - (lg_sl ([.int n0, .int n1, .int n2])).length) Slot.unset).toArray = ls at hl ⊢
  have hl : lv_has ls 3 [(0, .int n0), (1, .int n1), (2, .int n2)] := hl
  generalize ([.int n0, .int n1, .int n2] : List Value).toArray = args at hts ⊢
  have hw : ∀ w ∈ wsL_law, w.before args s = true := fun w h => hts w (List.mem_cons_of_mem _ h)
  refine pg_start (fun Q hQ => ?_)
  have RET : ∀ (H : Heap) (locs : List Loc) (ls : Array Slot) (pc : Nat) (v : Int32) , decode cX2_isOneTwice pc = .ok (.ireturn, 1) → (v = 0 ∨ v = 1) → va_P (dC, dI) vwCl (W_0 cI cZ cII) H → va_D A (W_0 cI cZ cII) → va_S A s.heap H locs → (some (v) : Option (Int32)) = some (rr) → W p l e rm_X2_isOneTwice s m args below meth c H locs 0 0 Q (F0 m pc ls [.int v]) := by
    intro H locs ls pc v hd hz hP hD hS he
    subst hAe; subst hQ
    obtain rfl := Option.some.inj he
    exact pg_zret hx hb hr hlocks hz hK hP hD hS hd
  unfold f_X2_isOneTwice at hf
  refine lv_iload_n hx hb dX2_isOneTwice_0 rfl (lv_at hl 0 rfl) ?_
  refine lv_iconst (v := (-1 : Int32)) hx hb dX2_isOneTwice_1 (by decide) ?_
  obtain ⟨J15_1, hJ15_1, hf⟩ := jn1_s hf
  have WJ15_1 : ∀ (u_1 : Unit) (H : Heap) (locs : List Loc) (ls : Array Slot), va_P (dC, dI) vwCl (W_0 cI cZ cII) H → va_D A (W_0 cI cZ cII) → va_S A s.heap H locs → lv_has ls 3 [(1, .int n1), (2, .int n2)] → J15_1 u_1 = some (rr) → W p l e rm_X2_isOneTwice s m args below meth c H locs 0 0 Q (F0 m 15 ls []) := by
    intro u_1 H locs ls hP hD hS hl hf
    have hf := hJ15_1 _ hf
    refine lv_iload_n hx hb dX2_isOneTwice_15 rfl (lv_at hl 0 rfl) ?_
    refine lv_iconst (v := (-1 : Int32)) hx hb dX2_isOneTwice_16 (by decide) ?_
    refine lv_icmp_eq (tgt := 29) hx hb dX2_isOneTwice_17 (by decide) (fun h9 => ?_) (fun h9 => ?_)
    · have hf := pg_t h9 hf
      refine lv_iconst (v := (0 : Int32)) hx hb dX2_isOneTwice_29 (by decide) ?_
      exact RET _ _ _ _ _ dX2_isOneTwice_30 (by decide) hP hD hS hf
    · have hf := pg_f h9 hf
      refine lv_iload_n hx hb dX2_isOneTwice_20 rfl (lv_at hl 0 rfl) ?_
      refine lv_iload_n hx hb dX2_isOneTwice_21 rfl (lv_at hl 1 rfl) ?_
      refine lv_icmp_ne (tgt := 29) hx hb dX2_isOneTwice_22 (by decide) (fun h9 => ?_) (fun h9 => ?_)
      · have hf := pg_f h9 hf
        refine lv_iconst (v := (0 : Int32)) hx hb dX2_isOneTwice_29 (by decide) ?_
        exact RET _ _ _ _ _ dX2_isOneTwice_30 (by decide) hP hD hS hf
      · have hf := pg_t h9 hf
        refine lv_iconst (v := (1 : Int32)) hx hb dX2_isOneTwice_25 (by decide) ?_
        refine lv_goto (tgt := 30) hx hb dX2_isOneTwice_26 (by decide) ?_
        exact RET _ _ _ _ _ dX2_isOneTwice_30 (by decide) hP hD hS hf
  refine lv_icmp_eq (tgt := 15) hx hb dX2_isOneTwice_2 (by decide) (fun h9 => ?_) (fun h9 => ?_)
  · have hf := pg_t h9 hf
    exact WJ15_1 _ _ _ _ hP hD hS (lv_sub hl [1, 2] rfl) hf
  · have hf := pg_f h9 hf
    refine lv_iload_n hx hb dX2_isOneTwice_5 rfl (lv_at hl 0 rfl) ?_
    refine lv_iload_n hx hb dX2_isOneTwice_6 rfl (lv_at hl 1 rfl) ?_
    refine lv_icmp_eq (tgt := 25) hx hb dX2_isOneTwice_7 (by decide) (fun h9 => ?_) (fun h9 => ?_)
    · have hf := pg_t h9 hf
      refine lv_iconst (v := (1 : Int32)) hx hb dX2_isOneTwice_25 (by decide) ?_
      refine lv_goto (tgt := 30) hx hb dX2_isOneTwice_26 (by decide) ?_
      exact RET _ _ _ _ _ dX2_isOneTwice_30 (by decide) hP hD hS hf
    · have hf := pg_f h9 hf
      refine lv_iload_n hx hb dX2_isOneTwice_10 rfl (lv_at hl 0 rfl) ?_
      refine lv_iload_n hx hb dX2_isOneTwice_11 rfl (lv_at hl 2 rfl) ?_
      refine lv_icmp_eq (tgt := 25) hx hb dX2_isOneTwice_12 (by decide) (fun h9 => ?_) (fun h9 => ?_)
      · have hf := pg_t h9 hf
        refine lv_iconst (v := (1 : Int32)) hx hb dX2_isOneTwice_25 (by decide) ?_
        refine lv_goto (tgt := 30) hx hb dX2_isOneTwice_26 (by decide) ?_
        exact RET _ _ _ _ _ dX2_isOneTwice_30 (by decide) hP hD hS hf
      · have hf := pg_f h9 hf
        exact WJ15_1 _ _ _ _ hP hD hS (lv_sub hl [1, 2] rfl) hf
def f_X2_isCrew (n0 : Int32) : Option (Int32) :=
  if n0 < 0 then
    some ((0 : Int32))
  else
    if (229 : Int32) ≤ n0 then
      some ((0 : Int32))
    else
      some ((1 : Int32))
abbrev rm_X2_isCrew : Room := { frames := 0, cells := 0, slots := 0, locals := 0 }
theorem dk_X2_isCrew : yX2_isCrew.cls ≠ "java/lang/invoke/MethodHandle" ∧ yX2_isCrew.cls ≠ "java/lang/invoke/VarHandle" ∧ (parseMethodDescriptor yX2_isCrew.desc).map (fun d => d.parameters.length) = some 1 := by decide +kernel
set_option maxHeartbeats 4000000 in
set_option maxRecDepth 100000 in
theorem c_X2_isCrew (l : Launch) (dC : Nat → ClassId) (dI : Nat → Nat → Nat) (cI cZ cII : ClassId) (sz : Nat) (n0 : Int32) (rr : Int32) (hf : f_X2_isCrew n0 = some (rr)) : Met l yX2_isCrew (wM yX2_isCrew cX2_isCrew 1 (some .boolean)) rm_X2_isCrew (PreW (dC, dI) (tyA cI cZ cII) (W_0 cI cZ cII) sz [.int n0]) (PostI (dC, dI) (tyA cI cZ cII) rr (W_0 cI cZ cII) (W_0 cI cZ cII) sz) 0 0 (va_A (W_0 cI cZ cII) sz) := by
  refine Met.ofW (cc := cX2_isCrew) (maxL := 1) (ret := (some .boolean)) (by decide) rfl ?_
  intro p e s m args below meth c s₁ B hml hv
  obtain ⟨rfl, hsz, hP, hK, hD0⟩ := hv
  have hx := B.exec
  have hb := B.bytes
  have hr := B.returns
  have hts := atoms_spec (ws := wM yX2_isCrew cX2_isCrew 1 (some .boolean)) B.pre
  have hown : s.vm.findClass RX2 = some m.cls := findClass_of_methodNamed B.named
  have hlocks := B.notSynchronized
  subst hsz
  have hD := hD0.self (sz := s.heap.size)
  obtain ⟨A, hAe⟩ : ∃ A, A = va_A (W_0 cI cZ cII) s.heap.size := ⟨_, rfl⟩
  rw [← hAe] at hD
  have hA : ∀ q : Nat, s.heap.size ≤ q → A q := fun q h => by rw [hAe]; exact Or.inr h
  have hS : va_S A s.heap s.heap [] := va_S.rf
  have hl := lv_entry ([.int n0]) (n := 1) (Nat.le_of_ble_eq_true rfl)
  rw [lg_entry_eq]
  generalize (lg_sl ([.int n0]) ++ List.replicate (1 - (lg_sl ([.int n0])).length) Slot.unset).toArray = ls at hl ⊢
  have hl : lv_has ls 1 [(0, .int n0)] := hl
  generalize ([.int n0] : List Value).toArray = args at hts ⊢
  have hw : ∀ w ∈ wsL_law, w.before args s = true := fun w h => hts w (List.mem_cons_of_mem _ h)
  refine pg_start (fun Q hQ => ?_)
  have RET : ∀ (H : Heap) (locs : List Loc) (ls : Array Slot) (pc : Nat) (v : Int32) , decode cX2_isCrew pc = .ok (.ireturn, 1) → (v = 0 ∨ v = 1) → va_P (dC, dI) vwCl (W_0 cI cZ cII) H → va_D A (W_0 cI cZ cII) → va_S A s.heap H locs → (some (v) : Option (Int32)) = some (rr) → W p l e rm_X2_isCrew s m args below meth c H locs 0 0 Q (F0 m pc ls [.int v]) := by
    intro H locs ls pc v hd hz hP hD hS he
    subst hAe; subst hQ
    obtain rfl := Option.some.inj he
    exact pg_zret hx hb hr hlocks hz hK hP hD hS hd
  unfold f_X2_isCrew at hf
  refine lv_iload_n hx hb dX2_isCrew_0 rfl (lv_at hl 0 rfl) ?_
  refine lv_if_lt (tgt := 15) hx hb dX2_isCrew_1 (by decide) (fun h9 => ?_) (fun h9 => ?_)
  · have hf := pg_t h9 hf
    refine lv_iconst (v := (0 : Int32)) hx hb dX2_isCrew_15 (by decide) ?_
    exact RET _ _ _ _ _ dX2_isCrew_16 (by decide) hP hD hS hf
  · have hf := pg_f h9 hf
    refine lv_iload_n hx hb dX2_isCrew_4 rfl (lv_at hl 0 rfl) ?_
    refine lv_sipush (v := (229 : Int32)) hx hb dX2_isCrew_5 (by decide) ?_
    refine lv_icmp_ge (tgt := 15) hx hb dX2_isCrew_8 (by decide) (fun h9 => ?_) (fun h9 => ?_)
    · have hf := pg_t h9 hf
      refine lv_iconst (v := (0 : Int32)) hx hb dX2_isCrew_15 (by decide) ?_
      exact RET _ _ _ _ _ dX2_isCrew_16 (by decide) hP hD hS hf
    · have hf := pg_f h9 hf
      refine lv_iconst (v := (1 : Int32)) hx hb dX2_isCrew_11 (by decide) ?_
      refine lv_goto (tgt := 16) hx hb dX2_isCrew_12 (by decide) ?_
      exact RET _ _ _ _ _ dX2_isCrew_16 (by decide) hP hD hS hf
def f_X2_seat (n1 : Int32) (n2 : Int32) (n3 : Int32) (n4 : Int32) (c_who : Nat → Int32) (c_pull : Nat → Int32) (b_horses : Int32) (b_blinds : Int32) (b_pull : Nat → Int32) (b_moods : Nat → Int32) : Option ((Nat → Int32) × (Nat → Int32)) :=
  bn1 (f_X2_isCrew n1) (fun (r_1 : Int32) =>
    if r_1 = 0 then
      some (c_who, c_pull)
    else
      if (n1 * (3 : Int32)) < 0 ∨ 687 ≤ ((n1 * (3 : Int32))).toNatClampNeg then none else
      if ((n1 * (3 : Int32)) + (1 : Int32)) < 0 ∨ 687 ≤ (((n1 * (3 : Int32)) + (1 : Int32))).toNatClampNeg then none else
      if ((n1 * (3 : Int32)) + (2 : Int32)) < 0 ∨ 687 ≤ (((n1 * (3 : Int32)) + (2 : Int32))).toNatClampNeg then none else
      bn1 (f_X0_pullBetween n2 (0 : Int32) (-1 : Int32) n3 b_horses b_blinds b_pull b_moods) (fun (r_5 : Int32) =>
        bn1 (f_X0_pullBetween n3 (0 : Int32) n2 n4 b_horses b_blinds b_pull b_moods) (fun (r_6 : Int32) =>
          bn1 (f_X0_pullBetween n4 (0 : Int32) n3 (-1 : Int32) b_horses b_blinds b_pull b_moods) (fun (r_7 : Int32) =>
            some ((upd (upd (upd c_who ((n1 * (3 : Int32))).toNatClampNeg n2) (((n1 * (3 : Int32)) + (1 : Int32))).toNatClampNeg n3) (((n1 * (3 : Int32)) + (2 : Int32))).toNatClampNeg n4), (upd (upd (upd c_pull ((n1 * (3 : Int32))).toNatClampNeg r_5) (((n1 * (3 : Int32)) + (1 : Int32))).toNatClampNeg r_6) (((n1 * (3 : Int32)) + (2 : Int32))).toNatClampNeg r_7))
          )
        )
      )
  )
set_option maxRecDepth 100000 in
theorem plC_4 (cI cZ cII : ClassId) (qc qc_who qc_pull qb qb_pull qb_strength qb_back qb_moods qb_tides qb_carts : Nat) (c_last : Int32) (c_who : Nat → Int32) (c_pull : Nat → Int32) (b_law : Int32) (b_places : Int32) (b_broad : Int32) (b_horses : Int32) (b_blinds : Int32) (b_besides : Int32) (b_tideCount : Int32) (b_cartCount : Int32) (b_due : Int32) (b_pairs : Int64) (b_pull : Nat → Int32) (b_strength : Nat → Int32) (b_back : Nat → Int32) (b_moods : Nat → Int32) (b_tides : Nat → Int32) (b_carts : Nat → Int32) : ([] : List Nat).map (fun i => (W_X2c_X0b cI cZ cII qc qc_who qc_pull qb qb_pull qb_strength qb_back qb_moods qb_tides qb_carts c_last c_who c_pull b_law b_places b_broad b_horses b_blinds b_besides b_tideCount b_cartCount b_due b_pairs b_pull b_strength b_back b_moods b_tides b_carts)[i]?) = (W_0 cI cZ cII).map some := rfl
set_option maxRecDepth 100000 in
theorem plF_4 (cI cZ cII : ClassId) (qc qc_who qc_pull qb qb_pull qb_strength qb_back qb_moods qb_tides qb_carts : Nat) (c_last : Int32) (c_who : Nat → Int32) (c_pull : Nat → Int32) (b_law : Int32) (b_places : Int32) (b_broad : Int32) (b_horses : Int32) (b_blinds : Int32) (b_besides : Int32) (b_tideCount : Int32) (b_cartCount : Int32) (b_due : Int32) (b_pairs : Int64) (b_pull : Nat → Int32) (b_strength : Nat → Int32) (b_back : Nat → Int32) (b_moods : Nat → Int32) (b_tides : Nat → Int32) (b_carts : Nat → Int32) : ([0, 1, 2, 3, 4, 5, 6, 7, 8, 9] : List Nat).map (fun i => (pickW (W_X2c_X0b cI cZ cII qc qc_who qc_pull qb qb_pull qb_strength qb_back qb_moods qb_tides qb_carts c_last c_who c_pull b_law b_places b_broad b_horses b_blinds b_besides b_tideCount b_cartCount b_due b_pairs b_pull b_strength b_back b_moods b_tides b_carts) ([0, 1, 2, 3, 4, 5, 6, 7, 8, 9] : List Nat) ++ (W_0 cI cZ cII))[i]?) = (W_X2c_X0b cI cZ cII qc qc_who qc_pull qb qb_pull qb_strength qb_back qb_moods qb_tides qb_carts c_last c_who c_pull b_law b_places b_broad b_horses b_blinds b_besides b_tideCount b_cartCount b_due b_pairs b_pull b_strength b_back b_moods b_tides b_carts).map some := rfl
abbrev rm_X2_seat : Room := { frames := 2, cells := 0, slots := 0, locals := 65 }
theorem dk_X2_seat : yX2_seat.cls = RX2 ∧ yX2_seat.cls ≠ "java/lang/invoke/MethodHandle" ∧ yX2_seat.cls ≠ "java/lang/invoke/VarHandle" ∧ (parseMethodDescriptor yX2_seat.desc).map (fun d => d.parameters.length) = some 4 := by decide +kernel
set_option maxHeartbeats 4000000 in
set_option maxRecDepth 100000 in
theorem c_X2_seat (l : Launch) (dC : Nat → ClassId) (dI : Nat → Nat → Nat) (cI cZ cII : ClassId) (qc qc_who qc_pull qb qb_pull qb_strength qb_back qb_moods qb_tides qb_carts : Nat) (sz : Nat) (c_last : Int32) (c_who : Nat → Int32) (c_pull : Nat → Int32) (b_law : Int32) (b_places : Int32) (b_broad : Int32) (b_horses : Int32) (b_blinds : Int32) (b_besides : Int32) (b_tideCount : Int32) (b_cartCount : Int32) (b_due : Int32) (b_pairs : Int64) (b_pull : Nat → Int32) (b_strength : Nat → Int32) (b_back : Nat → Int32) (b_moods : Nat → Int32) (b_tides : Nat → Int32) (b_carts : Nat → Int32) (n1 : Int32) (n2 : Int32) (n3 : Int32) (n4 : Int32) (c_who' : Nat → Int32) (c_pull' : Nat → Int32) (hf : f_X2_seat n1 n2 n3 n4 c_who c_pull b_horses b_blinds b_pull b_moods = some (c_who', c_pull')) : Met l yX2_seat (wM yX2_seat cX2_seat 6 none) rm_X2_seat (PreW (dC, dI) (tyA cI cZ cII) (W_X2c_X0b cI cZ cII qc qc_who qc_pull qb qb_pull qb_strength qb_back qb_moods qb_tides qb_carts c_last c_who c_pull b_law b_places b_broad b_horses b_blinds b_besides b_tideCount b_cartCount b_due b_pairs b_pull b_strength b_back b_moods b_tides b_carts) sz [.ref qc, .int n1, .int n2, .int n3, .int n4]) (PostV (dC, dI) (tyA cI cZ cII) (W_X2c_X0b cI cZ cII qc qc_who qc_pull qb qb_pull qb_strength qb_back qb_moods qb_tides qb_carts c_last c_who c_pull b_law b_places b_broad b_horses b_blinds b_besides b_tideCount b_cartCount b_due b_pairs b_pull b_strength b_back b_moods b_tides b_carts) (W_X2c_X0b cI cZ cII qc qc_who qc_pull qb qb_pull qb_strength qb_back qb_moods qb_tides qb_carts c_last c_who' c_pull' b_law b_places b_broad b_horses b_blinds b_besides b_tideCount b_cartCount b_due b_pairs b_pull b_strength b_back b_moods b_tides b_carts) sz) 0 0 (va_A (W_X2c_X0b cI cZ cII qc qc_who qc_pull qb qb_pull qb_strength qb_back qb_moods qb_tides qb_carts c_last c_who c_pull b_law b_places b_broad b_horses b_blinds b_besides b_tideCount b_cartCount b_due b_pairs b_pull b_strength b_back b_moods b_tides b_carts) sz) := by
  refine Met.ofW (cc := cX2_seat) (maxL := 6) (ret := none) (by decide) rfl ?_
  intro p e s m args below meth c s₁ B hml hv
  obtain ⟨rfl, hsz, hP, hK, hD0⟩ := hv
  have hx := B.exec
  have hb := B.bytes
  have hr := B.returns
  have hts := atoms_spec (ws := wM yX2_seat cX2_seat 6 none) B.pre
  have hown : s.vm.findClass RX2 = some m.cls := findClass_of_methodNamed B.named
  have hlocks := B.notSynchronized
  subst hsz
  have hD := hD0.self (sz := s.heap.size)
  obtain ⟨A, hAe⟩ : ∃ A, A = va_A (W_X2c_X0b cI cZ cII qc qc_who qc_pull qb qb_pull qb_strength qb_back qb_moods qb_tides qb_carts c_last c_who c_pull b_law b_places b_broad b_horses b_blinds b_besides b_tideCount b_cartCount b_due b_pairs b_pull b_strength b_back b_moods b_tides b_carts) s.heap.size := ⟨_, rfl⟩
  rw [← hAe] at hD
  have hA : ∀ q : Nat, s.heap.size ≤ q → A q := fun q h => by rw [hAe]; exact Or.inr h
  have hS : va_S A s.heap s.heap [] := va_S.rf
  have hl := lv_entry ([.ref qc, .int n1, .int n2, .int n3, .int n4]) (n := 6) (Nat.le_of_ble_eq_true rfl)
  rw [lg_entry_eq]
  generalize (lg_sl ([.ref qc, .int n1, .int n2, .int n3, .int n4]) ++ List.replicate (6 - (lg_sl ([.ref qc, .int n1, .int n2, .int n3, .int n4])).length) Slot.unset).toArray = ls at hl ⊢
  have hl : lv_has ls 6 [(0, .ref qc), (1, .int n1), (2, .int n2), (3, .int n3), (4, .int n4)] := hl
  generalize ([.ref qc, .int n1, .int n2, .int n3, .int n4] : List Value).toArray = args at hts ⊢
  have hw : ∀ w ∈ wsL_law, w.before args s = true := fun w h => hts w (List.mem_cons_of_mem _ h)
  refine pg_start (fun Q hQ => ?_)
  have RET : ∀ (H : Heap) (locs : List Loc) (ls : Array Slot) (pc : Nat) (x0 : Nat → Int32) (x1 : Nat → Int32) , decode cX2_seat pc = .ok (.return_, 1) → va_P (dC, dI) vwCl (W_X2c_X0b cI cZ cII qc qc_who qc_pull qb qb_pull qb_strength qb_back qb_moods qb_tides qb_carts c_last x0 x1 b_law b_places b_broad b_horses b_blinds b_besides b_tideCount b_cartCount b_due b_pairs b_pull b_strength b_back b_moods b_tides b_carts) H → va_D A (W_X2c_X0b cI cZ cII qc qc_who qc_pull qb qb_pull qb_strength qb_back qb_moods qb_tides qb_carts c_last x0 x1 b_law b_places b_broad b_horses b_blinds b_besides b_tideCount b_cartCount b_due b_pairs b_pull b_strength b_back b_moods b_tides b_carts) → va_S A s.heap H locs → (some (x0, x1) : Option ((Nat → Int32) × (Nat → Int32))) = some (c_who', c_pull') → W p l e rm_X2_seat s m args below meth c H locs 0 0 Q (F0 m pc ls []) := by
    intro H locs ls pc x0 x1 hd hP hD hS he
    subst hAe; subst hQ
    simp only [Option.some.injEq, Prod.mk.injEq] at he
    obtain ⟨rfl, rfl⟩ := he
    exact pg_vret hx hb hr hlocks hK hP hD hS hd
  unfold f_X2_seat at hf
  refine lv_iload_n hx hb dX2_seat_0 rfl (lv_at hl 1 rfl) ?_
  obtain ⟨r_1, hc, hf⟩ := bn1_s hf
  refine pg_cSi (As := [.int n1]) (rest := []) (wf := (W_X2c_X0b cI cZ cII qc qc_who qc_pull qb qb_pull qb_strength qb_back qb_moods qb_tides qb_carts c_last c_who c_pull b_law b_places b_broad b_horses b_blinds b_besides b_tideCount b_cartCount b_due b_pairs b_pull b_strength b_back b_moods b_tides b_carts)) ⟨hx, hb, hml, hown, hw⟩ (c_X2_isCrew l dC dI cI cZ cII  s.heap.size  n1 r_1 hc) (va_cwS 1 hts (wM_S mw_17_16 mw_17_17 mw_2_0 mw_17_18) rfl rfl rfl dk_X2_isCrew ⟨Nat.le_of_ble_eq_true rfl, Nat.le_of_ble_eq_true rfl⟩) hK hP hD hS hA [] [0, 1, 2, 3, 4, 5, 6, 7, 8, 9] [0, 1, 2, 3, 4, 5, 6, 7, 8, 9] (plC_4 cI cZ cII qc qc_who qc_pull qb qb_pull qb_strength qb_back qb_moods qb_tides qb_carts c_last c_who c_pull b_law b_places b_broad b_horses b_blinds b_besides b_tideCount b_cartCount b_due b_pairs b_pull b_strength b_back b_moods b_tides b_carts) rfl (plF_4 cI cZ cII qc qc_who qc_pull qb qb_pull qb_strength qb_back qb_moods qb_tides qb_carts c_last c_who c_pull b_law b_places b_broad b_horses b_blinds b_besides b_tideCount b_cartCount b_due b_pairs b_pull b_strength b_back b_moods b_tides b_carts ) (by decide) rfl hl.1 rfl (Nat.le_of_ble_eq_true rfl) dX2_seat_1 ⟨Nat.zero_le _, Nat.zero_le _⟩ (fun H locs hP hD hS => ?_)
  refine lv_if_ne (tgt := 8) hx hb dX2_seat_4 (by decide) (fun h9 => ?_) (fun h9 => ?_)
  · have hf := pg_f h9 hf
    refine lv_iload_n hx hb dX2_seat_8 rfl (lv_at hl 1 rfl) ?_
    refine lv_iconst (v := (3 : Int32)) hx hb dX2_seat_9 (by decide) ?_
    refine lv_imul hx hb dX2_seat_10 ?_
    refine lv_istore (lv' := [(5, .int (n1 * (3 : Int32))), (0, .ref qc), (1, .int n1), (2, .int n2), (3, .int n3), (4, .int n4)]) hx hb dX2_seat_11 hl (by decide) rfl (fun ls hl => ?_)
    refine lv_aload_n hx hb dX2_seat_13 rfl (lv_at hl 1 rfl) ?_
    refine va_get (D := (dC, dI)) (ci := 2) (v := .ref qc_who) (C := RX2) (T := TX2) (N := 4) hx hb hw inlX2 hown hK hP 0 rfl rfl 2 (by decide) (hw _ mw_3_19) (fun _ h9 => h9) rfl dX2_seat_14 ?_
    refine lv_iload hx hb dX2_seat_17 (lv_at hl 0 rfl) ?_
    refine lv_iload_n hx hb dX2_seat_19 rfl (lv_at hl 3 rfl) ?_
    obtain ⟨hi2, hf⟩ := pg_chk hf
    refine va_iast hx hb hK hP hD hS 1 0 rfl rfl hi2 dX2_seat_20 (fun H locs hP hD hS => ?_)
    have hP : va_P (dC, dI) vwCl (W_X2c_X0b cI cZ cII qc qc_who qc_pull qb qb_pull qb_strength qb_back qb_moods qb_tides qb_carts c_last (upd c_who ((n1 * (3 : Int32))).toNatClampNeg n2) c_pull b_law b_places b_broad b_horses b_blinds b_besides b_tideCount b_cartCount b_due b_pairs b_pull b_strength b_back b_moods b_tides b_carts) H := hP
    have hD : va_D A (W_X2c_X0b cI cZ cII qc qc_who qc_pull qb qb_pull qb_strength qb_back qb_moods qb_tides qb_carts c_last (upd c_who ((n1 * (3 : Int32))).toNatClampNeg n2) c_pull b_law b_places b_broad b_horses b_blinds b_besides b_tideCount b_cartCount b_due b_pairs b_pull b_strength b_back b_moods b_tides b_carts) := hD
    refine lv_aload_n hx hb dX2_seat_21 rfl (lv_at hl 1 rfl) ?_
    refine va_get (D := (dC, dI)) (ci := 2) (v := .ref qc_who) (C := RX2) (T := TX2) (N := 4) hx hb hw inlX2 hown hK hP 0 rfl rfl 2 (by decide) (hw _ mw_3_19) (fun _ h9 => h9) rfl dX2_seat_22 ?_
    refine lv_iload hx hb dX2_seat_25 (lv_at hl 0 rfl) ?_
    refine lv_iconst (v := (1 : Int32)) hx hb dX2_seat_27 (by decide) ?_
    refine lv_iadd hx hb dX2_seat_28 ?_
    refine lv_iload_n hx hb dX2_seat_29 rfl (lv_at hl 4 rfl) ?_
    obtain ⟨hi3, hf⟩ := pg_chk hf
    refine va_iast hx hb hK hP hD hS 1 0 rfl rfl hi3 dX2_seat_30 (fun H locs hP hD hS => ?_)
    have hP : va_P (dC, dI) vwCl (W_X2c_X0b cI cZ cII qc qc_who qc_pull qb qb_pull qb_strength qb_back qb_moods qb_tides qb_carts c_last (upd (upd c_who ((n1 * (3 : Int32))).toNatClampNeg n2) (((n1 * (3 : Int32)) + (1 : Int32))).toNatClampNeg n3) c_pull b_law b_places b_broad b_horses b_blinds b_besides b_tideCount b_cartCount b_due b_pairs b_pull b_strength b_back b_moods b_tides b_carts) H := hP
    have hD : va_D A (W_X2c_X0b cI cZ cII qc qc_who qc_pull qb qb_pull qb_strength qb_back qb_moods qb_tides qb_carts c_last (upd (upd c_who ((n1 * (3 : Int32))).toNatClampNeg n2) (((n1 * (3 : Int32)) + (1 : Int32))).toNatClampNeg n3) c_pull b_law b_places b_broad b_horses b_blinds b_besides b_tideCount b_cartCount b_due b_pairs b_pull b_strength b_back b_moods b_tides b_carts) := hD
    refine lv_aload_n hx hb dX2_seat_31 rfl (lv_at hl 1 rfl) ?_
    refine va_get (D := (dC, dI)) (ci := 2) (v := .ref qc_who) (C := RX2) (T := TX2) (N := 4) hx hb hw inlX2 hown hK hP 0 rfl rfl 2 (by decide) (hw _ mw_3_19) (fun _ h9 => h9) rfl dX2_seat_32 ?_
    refine lv_iload hx hb dX2_seat_35 (lv_at hl 0 rfl) ?_
    refine lv_iconst (v := (2 : Int32)) hx hb dX2_seat_37 (by decide) ?_
    refine lv_iadd hx hb dX2_seat_38 ?_
    refine lv_iload hx hb dX2_seat_39 (lv_at hl 5 rfl) ?_
    obtain ⟨hi4, hf⟩ := pg_chk hf
    refine va_iast hx hb hK hP hD hS 1 0 rfl rfl hi4 dX2_seat_41 (fun H locs hP hD hS => ?_)
    have hP : va_P (dC, dI) vwCl (W_X2c_X0b cI cZ cII qc qc_who qc_pull qb qb_pull qb_strength qb_back qb_moods qb_tides qb_carts c_last (upd (upd (upd c_who ((n1 * (3 : Int32))).toNatClampNeg n2) (((n1 * (3 : Int32)) + (1 : Int32))).toNatClampNeg n3) (((n1 * (3 : Int32)) + (2 : Int32))).toNatClampNeg n4) c_pull b_law b_places b_broad b_horses b_blinds b_besides b_tideCount b_cartCount b_due b_pairs b_pull b_strength b_back b_moods b_tides b_carts) H := hP
    have hD : va_D A (W_X2c_X0b cI cZ cII qc qc_who qc_pull qb qb_pull qb_strength qb_back qb_moods qb_tides qb_carts c_last (upd (upd (upd c_who ((n1 * (3 : Int32))).toNatClampNeg n2) (((n1 * (3 : Int32)) + (1 : Int32))).toNatClampNeg n3) (((n1 * (3 : Int32)) + (2 : Int32))).toNatClampNeg n4) c_pull b_law b_places b_broad b_horses b_blinds b_besides b_tideCount b_cartCount b_due b_pairs b_pull b_strength b_back b_moods b_tides b_carts) := hD
    refine lv_aload_n hx hb dX2_seat_42 rfl (lv_at hl 1 rfl) ?_
    refine va_get (D := (dC, dI)) (ci := 2) (v := .ref qc_pull) (C := RX2) (T := TX2) (N := 4) hx hb hw inlX2 hown hK hP 0 rfl rfl 3 (by decide) (hw _ mw_3_20) (fun _ h9 => h9) rfl dX2_seat_43 ?_
    refine lv_iload hx hb dX2_seat_46 (lv_at hl 0 rfl) ?_
    refine lv_aload_n hx hb dX2_seat_48 rfl (lv_at hl 1 rfl) ?_
    refine va_get (D := (dC, dI)) (ci := 2) (v := .ref qb) (C := RX2) (T := TX2) (N := 4) hx hb hw inlX2 hown hK hP 0 rfl rfl 1 (by decide) (hw _ mw_3_21) (fun _ h9 => h9) rfl dX2_seat_49 ?_
    refine lv_iload_n hx hb dX2_seat_52 rfl (lv_at hl 3 rfl) ?_
    refine lv_iconst (v := (0 : Int32)) hx hb dX2_seat_53 (by decide) ?_
    refine lv_iconst (v := (-1 : Int32)) hx hb dX2_seat_54 (by decide) ?_
    refine lv_iload_n hx hb dX2_seat_55 rfl (lv_at hl 4 rfl) ?_
    obtain ⟨r_5, hc, hf⟩ := bn1_s hf
    refine pg_cVi (As := [.int n2, .int (0 : Int32), .int (-1 : Int32), .int n3]) (rest := [.int (n1 * (3 : Int32)), .ref qc_pull]) (wf := (W_X2c_X0b cI cZ cII qc qc_who qc_pull qb qb_pull qb_strength qb_back qb_moods qb_tides qb_carts c_last (upd (upd (upd c_who ((n1 * (3 : Int32))).toNatClampNeg n2) (((n1 * (3 : Int32)) + (1 : Int32))).toNatClampNeg n3) (((n1 * (3 : Int32)) + (2 : Int32))).toNatClampNeg n4) c_pull b_law b_places b_broad b_horses b_blinds b_besides b_tideCount b_cartCount b_due b_pairs b_pull b_strength b_back b_moods b_tides b_carts)) ⟨hx, hb, hml, hown, hw⟩ (c_X0_pullBetween l dC dI cI cZ cII qb qb_pull qb_strength qb_back qb_moods qb_tides qb_carts H.size b_law b_places b_broad b_horses b_blinds b_besides b_tideCount b_cartCount b_due b_pairs b_pull b_strength b_back b_moods b_tides b_carts n2 (0 : Int32) (-1 : Int32) n3 r_5 hc) (cwV 4 hts (wM_V mw_17_19 mw_17_20 mw_17_21 mw_1_15 mw_17_22) rfl rfl rfl dk_X0_pullBetween ⟨Nat.le_of_ble_eq_true rfl, Nat.le_of_ble_eq_true rfl⟩) hK hP hD hS hA 0 0 rfl rfl rfl [3, 4, 5, 6, 7, 8, 9] [0, 1, 2] [0, 1, 2, 3, 4, 5, 6, 7, 8, 9] (plC_3 cI cZ cII qc qc_who qc_pull qb qb_pull qb_strength qb_back qb_moods qb_tides qb_carts c_last (upd (upd (upd c_who ((n1 * (3 : Int32))).toNatClampNeg n2) (((n1 * (3 : Int32)) + (1 : Int32))).toNatClampNeg n3) (((n1 * (3 : Int32)) + (2 : Int32))).toNatClampNeg n4) c_pull b_law b_places b_broad b_horses b_blinds b_besides b_tideCount b_cartCount b_due b_pairs b_pull b_strength b_back b_moods b_tides b_carts) rfl (plF_3 cI cZ cII qc qc_who qc_pull qb qb_pull qb_strength qb_back qb_moods qb_tides qb_carts c_last (upd (upd (upd c_who ((n1 * (3 : Int32))).toNatClampNeg n2) (((n1 * (3 : Int32)) + (1 : Int32))).toNatClampNeg n3) (((n1 * (3 : Int32)) + (2 : Int32))).toNatClampNeg n4) c_pull b_law b_places b_broad b_horses b_blinds b_besides b_tideCount b_cartCount b_due b_pairs b_pull b_strength b_back b_moods b_tides b_carts b_law b_places b_broad b_horses b_blinds b_besides b_tideCount b_cartCount b_due b_pairs b_pull b_strength b_back b_moods b_tides b_carts) (by decide) rfl hl.1 rfl (Nat.le_of_ble_eq_true rfl) dX2_seat_56 ⟨Nat.zero_le _, Nat.zero_le _⟩ (fun H locs hP hD hS => ?_)
    refine va_iast hx hb hK hP hD hS 2 0 rfl rfl hi2 dX2_seat_59 (fun H locs hP hD hS => ?_)
    have hP : va_P (dC, dI) vwCl (W_X2c_X0b cI cZ cII qc qc_who qc_pull qb qb_pull qb_strength qb_back qb_moods qb_tides qb_carts c_last (upd (upd (upd c_who ((n1 * (3 : Int32))).toNatClampNeg n2) (((n1 * (3 : Int32)) + (1 : Int32))).toNatClampNeg n3) (((n1 * (3 : Int32)) + (2 : Int32))).toNatClampNeg n4) (upd c_pull ((n1 * (3 : Int32))).toNatClampNeg r_5) b_law b_places b_broad b_horses b_blinds b_besides b_tideCount b_cartCount b_due b_pairs b_pull b_strength b_back b_moods b_tides b_carts) H := hP
    have hD : va_D A (W_X2c_X0b cI cZ cII qc qc_who qc_pull qb qb_pull qb_strength qb_back qb_moods qb_tides qb_carts c_last (upd (upd (upd c_who ((n1 * (3 : Int32))).toNatClampNeg n2) (((n1 * (3 : Int32)) + (1 : Int32))).toNatClampNeg n3) (((n1 * (3 : Int32)) + (2 : Int32))).toNatClampNeg n4) (upd c_pull ((n1 * (3 : Int32))).toNatClampNeg r_5) b_law b_places b_broad b_horses b_blinds b_besides b_tideCount b_cartCount b_due b_pairs b_pull b_strength b_back b_moods b_tides b_carts) := hD
    refine lv_aload_n hx hb dX2_seat_60 rfl (lv_at hl 1 rfl) ?_
    refine va_get (D := (dC, dI)) (ci := 2) (v := .ref qc_pull) (C := RX2) (T := TX2) (N := 4) hx hb hw inlX2 hown hK hP 0 rfl rfl 3 (by decide) (hw _ mw_3_20) (fun _ h9 => h9) rfl dX2_seat_61 ?_
    refine lv_iload hx hb dX2_seat_64 (lv_at hl 0 rfl) ?_
    refine lv_iconst (v := (1 : Int32)) hx hb dX2_seat_66 (by decide) ?_
    refine lv_iadd hx hb dX2_seat_67 ?_
    refine lv_aload_n hx hb dX2_seat_68 rfl (lv_at hl 1 rfl) ?_
    refine va_get (D := (dC, dI)) (ci := 2) (v := .ref qb) (C := RX2) (T := TX2) (N := 4) hx hb hw inlX2 hown hK hP 0 rfl rfl 1 (by decide) (hw _ mw_3_21) (fun _ h9 => h9) rfl dX2_seat_69 ?_
    refine lv_iload_n hx hb dX2_seat_72 rfl (lv_at hl 4 rfl) ?_
    refine lv_iconst (v := (0 : Int32)) hx hb dX2_seat_73 (by decide) ?_
    refine lv_iload_n hx hb dX2_seat_74 rfl (lv_at hl 3 rfl) ?_
    refine lv_iload hx hb dX2_seat_75 (lv_at hl 5 rfl) ?_
    obtain ⟨r_6, hc, hf⟩ := bn1_s hf
    refine pg_cVi (As := [.int n3, .int (0 : Int32), .int n2, .int n4]) (rest := [.int ((n1 * (3 : Int32)) + (1 : Int32)), .ref qc_pull]) (wf := (W_X2c_X0b cI cZ cII qc qc_who qc_pull qb qb_pull qb_strength qb_back qb_moods qb_tides qb_carts c_last (upd (upd (upd c_who ((n1 * (3 : Int32))).toNatClampNeg n2) (((n1 * (3 : Int32)) + (1 : Int32))).toNatClampNeg n3) (((n1 * (3 : Int32)) + (2 : Int32))).toNatClampNeg n4) (upd c_pull ((n1 * (3 : Int32))).toNatClampNeg r_5) b_law b_places b_broad b_horses b_blinds b_besides b_tideCount b_cartCount b_due b_pairs b_pull b_strength b_back b_moods b_tides b_carts)) ⟨hx, hb, hml, hown, hw⟩ (c_X0_pullBetween l dC dI cI cZ cII qb qb_pull qb_strength qb_back qb_moods qb_tides qb_carts H.size b_law b_places b_broad b_horses b_blinds b_besides b_tideCount b_cartCount b_due b_pairs b_pull b_strength b_back b_moods b_tides b_carts n3 (0 : Int32) n2 n4 r_6 hc) (cwV 4 hts (wM_V mw_17_19 mw_17_20 mw_17_21 mw_1_15 mw_17_22) rfl rfl rfl dk_X0_pullBetween ⟨Nat.le_of_ble_eq_true rfl, Nat.le_of_ble_eq_true rfl⟩) hK hP hD hS hA 0 0 rfl rfl rfl [3, 4, 5, 6, 7, 8, 9] [0, 1, 2] [0, 1, 2, 3, 4, 5, 6, 7, 8, 9] (plC_3 cI cZ cII qc qc_who qc_pull qb qb_pull qb_strength qb_back qb_moods qb_tides qb_carts c_last (upd (upd (upd c_who ((n1 * (3 : Int32))).toNatClampNeg n2) (((n1 * (3 : Int32)) + (1 : Int32))).toNatClampNeg n3) (((n1 * (3 : Int32)) + (2 : Int32))).toNatClampNeg n4) (upd c_pull ((n1 * (3 : Int32))).toNatClampNeg r_5) b_law b_places b_broad b_horses b_blinds b_besides b_tideCount b_cartCount b_due b_pairs b_pull b_strength b_back b_moods b_tides b_carts) rfl (plF_3 cI cZ cII qc qc_who qc_pull qb qb_pull qb_strength qb_back qb_moods qb_tides qb_carts c_last (upd (upd (upd c_who ((n1 * (3 : Int32))).toNatClampNeg n2) (((n1 * (3 : Int32)) + (1 : Int32))).toNatClampNeg n3) (((n1 * (3 : Int32)) + (2 : Int32))).toNatClampNeg n4) (upd c_pull ((n1 * (3 : Int32))).toNatClampNeg r_5) b_law b_places b_broad b_horses b_blinds b_besides b_tideCount b_cartCount b_due b_pairs b_pull b_strength b_back b_moods b_tides b_carts b_law b_places b_broad b_horses b_blinds b_besides b_tideCount b_cartCount b_due b_pairs b_pull b_strength b_back b_moods b_tides b_carts) (by decide) rfl hl.1 rfl (Nat.le_of_ble_eq_true rfl) dX2_seat_77 ⟨Nat.zero_le _, Nat.zero_le _⟩ (fun H locs hP hD hS => ?_)
    refine va_iast hx hb hK hP hD hS 2 0 rfl rfl hi3 dX2_seat_80 (fun H locs hP hD hS => ?_)
    have hP : va_P (dC, dI) vwCl (W_X2c_X0b cI cZ cII qc qc_who qc_pull qb qb_pull qb_strength qb_back qb_moods qb_tides qb_carts c_last (upd (upd (upd c_who ((n1 * (3 : Int32))).toNatClampNeg n2) (((n1 * (3 : Int32)) + (1 : Int32))).toNatClampNeg n3) (((n1 * (3 : Int32)) + (2 : Int32))).toNatClampNeg n4) (upd (upd c_pull ((n1 * (3 : Int32))).toNatClampNeg r_5) (((n1 * (3 : Int32)) + (1 : Int32))).toNatClampNeg r_6) b_law b_places b_broad b_horses b_blinds b_besides b_tideCount b_cartCount b_due b_pairs b_pull b_strength b_back b_moods b_tides b_carts) H := hP
    have hD : va_D A (W_X2c_X0b cI cZ cII qc qc_who qc_pull qb qb_pull qb_strength qb_back qb_moods qb_tides qb_carts c_last (upd (upd (upd c_who ((n1 * (3 : Int32))).toNatClampNeg n2) (((n1 * (3 : Int32)) + (1 : Int32))).toNatClampNeg n3) (((n1 * (3 : Int32)) + (2 : Int32))).toNatClampNeg n4) (upd (upd c_pull ((n1 * (3 : Int32))).toNatClampNeg r_5) (((n1 * (3 : Int32)) + (1 : Int32))).toNatClampNeg r_6) b_law b_places b_broad b_horses b_blinds b_besides b_tideCount b_cartCount b_due b_pairs b_pull b_strength b_back b_moods b_tides b_carts) := hD
    refine lv_aload_n hx hb dX2_seat_81 rfl (lv_at hl 1 rfl) ?_
    refine va_get (D := (dC, dI)) (ci := 2) (v := .ref qc_pull) (C := RX2) (T := TX2) (N := 4) hx hb hw inlX2 hown hK hP 0 rfl rfl 3 (by decide) (hw _ mw_3_20) (fun _ h9 => h9) rfl dX2_seat_82 ?_
    refine lv_iload hx hb dX2_seat_85 (lv_at hl 0 rfl) ?_
    refine lv_iconst (v := (2 : Int32)) hx hb dX2_seat_87 (by decide) ?_
    refine lv_iadd hx hb dX2_seat_88 ?_
    refine lv_aload_n hx hb dX2_seat_89 rfl (lv_at hl 1 rfl) ?_
    refine va_get (D := (dC, dI)) (ci := 2) (v := .ref qb) (C := RX2) (T := TX2) (N := 4) hx hb hw inlX2 hown hK hP 0 rfl rfl 1 (by decide) (hw _ mw_3_21) (fun _ h9 => h9) rfl dX2_seat_90 ?_
    refine lv_iload hx hb dX2_seat_93 (lv_at hl 5 rfl) ?_
    refine lv_iconst (v := (0 : Int32)) hx hb dX2_seat_95 (by decide) ?_
    refine lv_iload_n hx hb dX2_seat_96 rfl (lv_at hl 4 rfl) ?_
    refine lv_iconst (v := (-1 : Int32)) hx hb dX2_seat_97 (by decide) ?_
    obtain ⟨r_7, hc, hf⟩ := bn1_s hf
    refine pg_cVi (As := [.int n4, .int (0 : Int32), .int n3, .int (-1 : Int32)]) (rest := [.int ((n1 * (3 : Int32)) + (2 : Int32)), .ref qc_pull]) (wf := (W_X2c_X0b cI cZ cII qc qc_who qc_pull qb qb_pull qb_strength qb_back qb_moods qb_tides qb_carts c_last (upd (upd (upd c_who ((n1 * (3 : Int32))).toNatClampNeg n2) (((n1 * (3 : Int32)) + (1 : Int32))).toNatClampNeg n3) (((n1 * (3 : Int32)) + (2 : Int32))).toNatClampNeg n4) (upd (upd c_pull ((n1 * (3 : Int32))).toNatClampNeg r_5) (((n1 * (3 : Int32)) + (1 : Int32))).toNatClampNeg r_6) b_law b_places b_broad b_horses b_blinds b_besides b_tideCount b_cartCount b_due b_pairs b_pull b_strength b_back b_moods b_tides b_carts)) ⟨hx, hb, hml, hown, hw⟩ (c_X0_pullBetween l dC dI cI cZ cII qb qb_pull qb_strength qb_back qb_moods qb_tides qb_carts H.size b_law b_places b_broad b_horses b_blinds b_besides b_tideCount b_cartCount b_due b_pairs b_pull b_strength b_back b_moods b_tides b_carts n4 (0 : Int32) n3 (-1 : Int32) r_7 hc) (cwV 4 hts (wM_V mw_17_19 mw_17_20 mw_17_21 mw_1_15 mw_17_22) rfl rfl rfl dk_X0_pullBetween ⟨Nat.le_of_ble_eq_true rfl, Nat.le_of_ble_eq_true rfl⟩) hK hP hD hS hA 0 0 rfl rfl rfl [3, 4, 5, 6, 7, 8, 9] [0, 1, 2] [0, 1, 2, 3, 4, 5, 6, 7, 8, 9] (plC_3 cI cZ cII qc qc_who qc_pull qb qb_pull qb_strength qb_back qb_moods qb_tides qb_carts c_last (upd (upd (upd c_who ((n1 * (3 : Int32))).toNatClampNeg n2) (((n1 * (3 : Int32)) + (1 : Int32))).toNatClampNeg n3) (((n1 * (3 : Int32)) + (2 : Int32))).toNatClampNeg n4) (upd (upd c_pull ((n1 * (3 : Int32))).toNatClampNeg r_5) (((n1 * (3 : Int32)) + (1 : Int32))).toNatClampNeg r_6) b_law b_places b_broad b_horses b_blinds b_besides b_tideCount b_cartCount b_due b_pairs b_pull b_strength b_back b_moods b_tides b_carts) rfl (plF_3 cI cZ cII qc qc_who qc_pull qb qb_pull qb_strength qb_back qb_moods qb_tides qb_carts c_last (upd (upd (upd c_who ((n1 * (3 : Int32))).toNatClampNeg n2) (((n1 * (3 : Int32)) + (1 : Int32))).toNatClampNeg n3) (((n1 * (3 : Int32)) + (2 : Int32))).toNatClampNeg n4) (upd (upd c_pull ((n1 * (3 : Int32))).toNatClampNeg r_5) (((n1 * (3 : Int32)) + (1 : Int32))).toNatClampNeg r_6) b_law b_places b_broad b_horses b_blinds b_besides b_tideCount b_cartCount b_due b_pairs b_pull b_strength b_back b_moods b_tides b_carts b_law b_places b_broad b_horses b_blinds b_besides b_tideCount b_cartCount b_due b_pairs b_pull b_strength b_back b_moods b_tides b_carts) (by decide) rfl hl.1 rfl (Nat.le_of_ble_eq_true rfl) dX2_seat_98 ⟨Nat.zero_le _, Nat.zero_le _⟩ (fun H locs hP hD hS => ?_)
    refine va_iast hx hb hK hP hD hS 2 0 rfl rfl hi4 dX2_seat_101 (fun H locs hP hD hS => ?_)
    have hP : va_P (dC, dI) vwCl (W_X2c_X0b cI cZ cII qc qc_who qc_pull qb qb_pull qb_strength qb_back qb_moods qb_tides qb_carts c_last (upd (upd (upd c_who ((n1 * (3 : Int32))).toNatClampNeg n2) (((n1 * (3 : Int32)) + (1 : Int32))).toNatClampNeg n3) (((n1 * (3 : Int32)) + (2 : Int32))).toNatClampNeg n4) (upd (upd (upd c_pull ((n1 * (3 : Int32))).toNatClampNeg r_5) (((n1 * (3 : Int32)) + (1 : Int32))).toNatClampNeg r_6) (((n1 * (3 : Int32)) + (2 : Int32))).toNatClampNeg r_7) b_law b_places b_broad b_horses b_blinds b_besides b_tideCount b_cartCount b_due b_pairs b_pull b_strength b_back b_moods b_tides b_carts) H := hP
    have hD : va_D A (W_X2c_X0b cI cZ cII qc qc_who qc_pull qb qb_pull qb_strength qb_back qb_moods qb_tides qb_carts c_last (upd (upd (upd c_who ((n1 * (3 : Int32))).toNatClampNeg n2) (((n1 * (3 : Int32)) + (1 : Int32))).toNatClampNeg n3) (((n1 * (3 : Int32)) + (2 : Int32))).toNatClampNeg n4) (upd (upd (upd c_pull ((n1 * (3 : Int32))).toNatClampNeg r_5) (((n1 * (3 : Int32)) + (1 : Int32))).toNatClampNeg r_6) (((n1 * (3 : Int32)) + (2 : Int32))).toNatClampNeg r_7) b_law b_places b_broad b_horses b_blinds b_besides b_tideCount b_cartCount b_due b_pairs b_pull b_strength b_back b_moods b_tides b_carts) := hD
    exact RET _ _ _ _ _ _ dX2_seat_102 hP hD hS hf
  · have hf := pg_t h9 hf
    exact RET _ _ _ _ _ _ dX2_seat_7 hP hD hS hf
def f_X2_fill (c_last : Int32) (c_who : Nat → Int32) (c_pull : Nat → Int32) (b_places : Int32) (b_horses : Int32) (b_blinds : Int32) (b_pull : Nat → Int32) (b_moods : Nat → Int32) : Option (Int32 × (Nat → Int32) × (Nat → Int32)) :=
  jn3 (fun (c_last_1 : Int32) (c_who_1 : Nat → Int32) (c_pull_1 : Nat → Int32) =>
    some (c_last_1, c_who_1, c_pull_1)
  ) (fun K123_1 =>
  lq4 (fun rec2 (y1_2 : Int32) (c_last_2 : Int32) (c_who_2 : Nat → Int32) (c_pull_2 : Nat → Int32) =>
    bn1 (f_X2_choices (0 : Int32) b_places b_horses) (fun (r_3 : Int32) =>
      if r_3 ≤ y1_2 then
        K123_1 c_last_2 c_who_2 c_pull_2
      else
        jn3 (fun (c_last_4 : Int32) (c_who_4 : Nat → Int32) (c_pull_4 : Nat → Int32) =>
          rec2 (y1_2 + (1 : Int32)) c_last_4 c_who_4 c_pull_4
        ) (fun K117_4 =>
        lq4 (fun rec5 (y2_5 : Int32) (c_last_5 : Int32) (c_who_5 : Nat → Int32) (c_pull_5 : Nat → Int32) =>
          bn1 (f_X2_choices (1 : Int32) b_places b_horses) (fun (r_6 : Int32) =>
            if r_6 ≤ y2_5 then
              K117_4 c_last_5 c_who_5 c_pull_5
            else
              jn3 (fun (c_last_7 : Int32) (c_who_7 : Nat → Int32) (c_pull_7 : Nat → Int32) =>
                rec5 (y2_5 + (1 : Int32)) c_last_7 c_who_7 c_pull_7
              ) (fun K111_7 =>
              lq4 (fun rec8 (y3_8 : Int32) (c_last_8 : Int32) (c_who_8 : Nat → Int32) (c_pull_8 : Nat → Int32) =>
                bn1 (f_X2_choices (2 : Int32) b_places b_horses) (fun (r_9 : Int32) =>
                  if r_9 ≤ y3_8 then
                    K111_7 c_last_8 c_who_8 c_pull_8
                  else
                    jn1 (fun (z0_10 : Int32) =>
                      jn3 (fun (c_last_11 : Int32) (c_who_11 : Nat → Int32) (c_pull_11 : Nat → Int32) =>
                        rec8 (y3_8 + (1 : Int32)) c_last_11 c_who_11 c_pull_11
                      ) (fun J105_11 =>
                      if z0_10 = 0 then
                        bn1 (f_X2_isOneTwice y1_2 y2_5 y3_8) (fun (r_12 : Int32) =>
                          if r_12 = 0 then
                            if (228 : Int32) ≤ c_last_8 then
                              J105_11 c_last_8 c_who_8 c_pull_8
                            else
                              bn2 (f_X2_seat (c_last_8 + (1 : Int32)) y1_2 y2_5 y3_8 c_who_8 c_pull_8 b_horses b_blinds b_pull b_moods) (fun (c_who_13 : Nat → Int32) (c_pull_13 : Nat → Int32) =>
                                J105_11 (c_last_8 + (1 : Int32)) c_who_13 c_pull_13
                              )
                          else
                            J105_11 c_last_8 c_who_8 c_pull_8
                        )
                      else
                        J105_11 c_last_8 c_who_8 c_pull_8
                      )
                    ) (fun J58_10 =>
                    jn1 (fun (u_14 : Unit) =>
                      J58_10 (0 : Int32)
                    ) (fun J57_14 =>
                    if y1_2 = (-1 : Int32) then
                      if y2_5 = (-1 : Int32) then
                        if y3_8 = (-1 : Int32) then
                          J58_10 (1 : Int32)
                        else
                          J57_14 ()
                      else
                        J57_14 ()
                    else
                      J57_14 ()
                    )
                    )
                )
              ) fu (-1 : Int32) c_last_5 c_who_5 c_pull_5
              )
          )
        ) fu (-1 : Int32) c_last_2 c_who_2 c_pull_2
        )
    )
  ) fu (-1 : Int32) (0 : Int32) c_who c_pull
  )
set_option maxRecDepth 100000 in
theorem plC_5 (cI cZ cII : ClassId) (qc qc_who qc_pull qb qb_pull qb_strength qb_back qb_moods qb_tides qb_carts : Nat) (c_last : Int32) (c_who : Nat → Int32) (c_pull : Nat → Int32) (b_law : Int32) (b_places : Int32) (b_broad : Int32) (b_horses : Int32) (b_blinds : Int32) (b_besides : Int32) (b_tideCount : Int32) (b_cartCount : Int32) (b_due : Int32) (b_pairs : Int64) (b_pull : Nat → Int32) (b_strength : Nat → Int32) (b_back : Nat → Int32) (b_moods : Nat → Int32) (b_tides : Nat → Int32) (b_carts : Nat → Int32) : ([0, 1, 2, 3, 4, 5, 6, 7, 8, 9] : List Nat).map (fun i => (W_X2c_X0b cI cZ cII qc qc_who qc_pull qb qb_pull qb_strength qb_back qb_moods qb_tides qb_carts c_last c_who c_pull b_law b_places b_broad b_horses b_blinds b_besides b_tideCount b_cartCount b_due b_pairs b_pull b_strength b_back b_moods b_tides b_carts)[i]?) = (W_X2c_X0b cI cZ cII qc qc_who qc_pull qb qb_pull qb_strength qb_back qb_moods qb_tides qb_carts c_last c_who c_pull b_law b_places b_broad b_horses b_blinds b_besides b_tideCount b_cartCount b_due b_pairs b_pull b_strength b_back b_moods b_tides b_carts).map some := rfl
set_option maxRecDepth 100000 in
theorem plF_5 (cI cZ cII : ClassId) (qc qc_who qc_pull qb qb_pull qb_strength qb_back qb_moods qb_tides qb_carts : Nat) (c_last : Int32) (c_who : Nat → Int32) (c_pull : Nat → Int32) (b_law : Int32) (b_places : Int32) (b_broad : Int32) (b_horses : Int32) (b_blinds : Int32) (b_besides : Int32) (b_tideCount : Int32) (b_cartCount : Int32) (b_due : Int32) (b_pairs : Int64) (b_pull : Nat → Int32) (b_strength : Nat → Int32) (b_back : Nat → Int32) (b_moods : Nat → Int32) (b_tides : Nat → Int32) (b_carts : Nat → Int32) (b9c_last : Int32) (b9c_who : Nat → Int32) (b9c_pull : Nat → Int32) (b9b_law : Int32) (b9b_places : Int32) (b9b_broad : Int32) (b9b_horses : Int32) (b9b_blinds : Int32) (b9b_besides : Int32) (b9b_tideCount : Int32) (b9b_cartCount : Int32) (b9b_due : Int32) (b9b_pairs : Int64) (b9b_pull : Nat → Int32) (b9b_strength : Nat → Int32) (b9b_back : Nat → Int32) (b9b_moods : Nat → Int32) (b9b_tides : Nat → Int32) (b9b_carts : Nat → Int32) : ([0, 1, 2, 3, 4, 5, 6, 7, 8, 9] : List Nat).map (fun i => (pickW (W_X2c_X0b cI cZ cII qc qc_who qc_pull qb qb_pull qb_strength qb_back qb_moods qb_tides qb_carts c_last c_who c_pull b_law b_places b_broad b_horses b_blinds b_besides b_tideCount b_cartCount b_due b_pairs b_pull b_strength b_back b_moods b_tides b_carts) ([] : List Nat) ++ (W_X2c_X0b cI cZ cII qc qc_who qc_pull qb qb_pull qb_strength qb_back qb_moods qb_tides qb_carts b9c_last b9c_who b9c_pull b9b_law b9b_places b9b_broad b9b_horses b9b_blinds b9b_besides b9b_tideCount b9b_cartCount b9b_due b9b_pairs b9b_pull b9b_strength b9b_back b9b_moods b9b_tides b9b_carts))[i]?) = (W_X2c_X0b cI cZ cII qc qc_who qc_pull qb qb_pull qb_strength qb_back qb_moods qb_tides qb_carts b9c_last b9c_who b9c_pull b9b_law b9b_places b9b_broad b9b_horses b9b_blinds b9b_besides b9b_tideCount b9b_cartCount b9b_due b9b_pairs b9b_pull b9b_strength b9b_back b9b_moods b9b_tides b9b_carts).map some := rfl
abbrev rm_X2_fill : Room := { frames := 3, cells := 0, slots := 0, locals := 90 }
theorem dk_X2_fill : yX2_fill.cls = RX2 ∧ yX2_fill.cls ≠ "java/lang/invoke/MethodHandle" ∧ yX2_fill.cls ≠ "java/lang/invoke/VarHandle" ∧ (parseMethodDescriptor yX2_fill.desc).map (fun d => d.parameters.length) = some 0 := by decide +kernel
set_option maxHeartbeats 4000000 in
set_option maxRecDepth 100000 in
theorem c_X2_fill (l : Launch) (dC : Nat → ClassId) (dI : Nat → Nat → Nat) (cI cZ cII : ClassId) (qc qc_who qc_pull qb qb_pull qb_strength qb_back qb_moods qb_tides qb_carts : Nat) (sz : Nat) (c_last : Int32) (c_who : Nat → Int32) (c_pull : Nat → Int32) (b_law : Int32) (b_places : Int32) (b_broad : Int32) (b_horses : Int32) (b_blinds : Int32) (b_besides : Int32) (b_tideCount : Int32) (b_cartCount : Int32) (b_due : Int32) (b_pairs : Int64) (b_pull : Nat → Int32) (b_strength : Nat → Int32) (b_back : Nat → Int32) (b_moods : Nat → Int32) (b_tides : Nat → Int32) (b_carts : Nat → Int32) (c_last' : Int32) (c_who' : Nat → Int32) (c_pull' : Nat → Int32) (hf : f_X2_fill c_last c_who c_pull b_places b_horses b_blinds b_pull b_moods = some (c_last', c_who', c_pull')) : Met l yX2_fill (wM yX2_fill cX2_fill 5 none) rm_X2_fill (PreW (dC, dI) (tyA cI cZ cII) (W_X2c_X0b cI cZ cII qc qc_who qc_pull qb qb_pull qb_strength qb_back qb_moods qb_tides qb_carts c_last c_who c_pull b_law b_places b_broad b_horses b_blinds b_besides b_tideCount b_cartCount b_due b_pairs b_pull b_strength b_back b_moods b_tides b_carts) sz [.ref qc]) (PostV (dC, dI) (tyA cI cZ cII) (W_X2c_X0b cI cZ cII qc qc_who qc_pull qb qb_pull qb_strength qb_back qb_moods qb_tides qb_carts c_last c_who c_pull b_law b_places b_broad b_horses b_blinds b_besides b_tideCount b_cartCount b_due b_pairs b_pull b_strength b_back b_moods b_tides b_carts) (W_X2c_X0b cI cZ cII qc qc_who qc_pull qb qb_pull qb_strength qb_back qb_moods qb_tides qb_carts c_last' c_who' c_pull' b_law b_places b_broad b_horses b_blinds b_besides b_tideCount b_cartCount b_due b_pairs b_pull b_strength b_back b_moods b_tides b_carts) sz) 0 0 (va_A (W_X2c_X0b cI cZ cII qc qc_who qc_pull qb qb_pull qb_strength qb_back qb_moods qb_tides qb_carts c_last c_who c_pull b_law b_places b_broad b_horses b_blinds b_besides b_tideCount b_cartCount b_due b_pairs b_pull b_strength b_back b_moods b_tides b_carts) sz) := by
  refine Met.ofW (cc := cX2_fill) (maxL := 5) (ret := none) (by decide) rfl ?_
  intro p e s m args below meth c s₁ B hml hv
  obtain ⟨rfl, hsz, hP, hK, hD0⟩ := hv
  have hx := B.exec
  have hb := B.bytes
  have hr := B.returns
  have hts := atoms_spec (ws := wM yX2_fill cX2_fill 5 none) B.pre
  have hown : s.vm.findClass RX2 = some m.cls := findClass_of_methodNamed B.named
  have hlocks := B.notSynchronized
  subst hsz
  have hD := hD0.self (sz := s.heap.size)
  obtain ⟨A, hAe⟩ : ∃ A, A = va_A (W_X2c_X0b cI cZ cII qc qc_who qc_pull qb qb_pull qb_strength qb_back qb_moods qb_tides qb_carts c_last c_who c_pull b_law b_places b_broad b_horses b_blinds b_besides b_tideCount b_cartCount b_due b_pairs b_pull b_strength b_back b_moods b_tides b_carts) s.heap.size := ⟨_, rfl⟩
  rw [← hAe] at hD
  have hA : ∀ q : Nat, s.heap.size ≤ q → A q := fun q h => by rw [hAe]; exact Or.inr h
  have hS : va_S A s.heap s.heap [] := va_S.rf
  have hl := lv_entry ([.ref qc]) (n := 5) (Nat.le_of_ble_eq_true rfl)
  rw [lg_entry_eq]
  generalize (lg_sl ([.ref qc]) ++ List.replicate (5 - (lg_sl ([.ref qc])).length) Slot.unset).toArray = ls at hl ⊢
  have hl : lv_has ls 5 [(0, .ref qc)] := hl
  generalize ([.ref qc] : List Value).toArray = args at hts ⊢
  have hw : ∀ w ∈ wsL_law, w.before args s = true := fun w h => hts w (List.mem_cons_of_mem _ h)
  refine pg_start (fun Q hQ => ?_)
  have RET : ∀ (H : Heap) (locs : List Loc) (ls : Array Slot) (pc : Nat) (x0 : Int32) (x1 : Nat → Int32) (x2 : Nat → Int32) , decode cX2_fill pc = .ok (.return_, 1) → va_P (dC, dI) vwCl (W_X2c_X0b cI cZ cII qc qc_who qc_pull qb qb_pull qb_strength qb_back qb_moods qb_tides qb_carts x0 x1 x2 b_law b_places b_broad b_horses b_blinds b_besides b_tideCount b_cartCount b_due b_pairs b_pull b_strength b_back b_moods b_tides b_carts) H → va_D A (W_X2c_X0b cI cZ cII qc qc_who qc_pull qb qb_pull qb_strength qb_back qb_moods qb_tides qb_carts x0 x1 x2 b_law b_places b_broad b_horses b_blinds b_besides b_tideCount b_cartCount b_due b_pairs b_pull b_strength b_back b_moods b_tides b_carts) → va_S A s.heap H locs → (some (x0, x1, x2) : Option (Int32 × (Nat → Int32) × (Nat → Int32))) = some (c_last', c_who', c_pull') → W p l e rm_X2_fill s m args below meth c H locs 0 0 Q (F0 m pc ls []) := by
    intro H locs ls pc x0 x1 x2 hd hP hD hS he
    subst hAe; subst hQ
    simp only [Option.some.injEq, Prod.mk.injEq] at he
    obtain ⟨rfl, rfl, rfl⟩ := he
    exact pg_vret hx hb hr hlocks hK hP hD hS hd
  unfold f_X2_fill at hf
  refine lv_aload_n hx hb dX2_fill_0 rfl (lv_at hl 0 rfl) ?_
  refine lv_iconst (v := (0 : Int32)) hx hb dX2_fill_1 (by decide) ?_
  refine va_put (D := (dC, dI)) (ci := 2) (v := .int (0 : Int32)) (ty := .int) (C := RX2) (T := TX2) (N := 4) hx hb hw inlX2 tyX2 tyX2_ok nmX2 hown hK hP hD hS 0 rfl rfl 0 (by decide) (hw _ mw_16_23) (fun _ h9 => h9) rfl (by decide +kernel) rfl rfl (Nat.le_of_ble_eq_true rfl) dX2_fill_2 (fun H locs hP hD hS => ?_)
  have hP : va_P (dC, dI) vwCl (W_X2c_X0b cI cZ cII qc qc_who qc_pull qb qb_pull qb_strength qb_back qb_moods qb_tides qb_carts (0 : Int32) c_who c_pull b_law b_places b_broad b_horses b_blinds b_besides b_tideCount b_cartCount b_due b_pairs b_pull b_strength b_back b_moods b_tides b_carts) H := hP
  have hD : va_D A (W_X2c_X0b cI cZ cII qc qc_who qc_pull qb qb_pull qb_strength qb_back qb_moods qb_tides qb_carts (0 : Int32) c_who c_pull b_law b_places b_broad b_horses b_blinds b_besides b_tideCount b_cartCount b_due b_pairs b_pull b_strength b_back b_moods b_tides b_carts) := hD
  refine lv_iconst (v := (-1 : Int32)) hx hb dX2_fill_5 (by decide) ?_
  refine lv_istore_n (lv' := [(1, .int (-1 : Int32)), (0, .ref qc)]) hx hb dX2_fill_6 rfl hl (by decide) rfl (fun ls hl => ?_)
  obtain ⟨K123_1, hK123_1, hf⟩ := jn3_s hf
  have WK123_1 : ∀ (c_last_1 : Int32) (c_who_1 : Nat → Int32) (c_pull_1 : Nat → Int32) (H : Heap) (locs : List Loc) (ls : Array Slot), va_P (dC, dI) vwCl (W_X2c_X0b cI cZ cII qc qc_who qc_pull qb qb_pull qb_strength qb_back qb_moods qb_tides qb_carts c_last_1 c_who_1 c_pull_1 b_law b_places b_broad b_horses b_blinds b_besides b_tideCount b_cartCount b_due b_pairs b_pull b_strength b_back b_moods b_tides b_carts) H → va_D A (W_X2c_X0b cI cZ cII qc qc_who qc_pull qb qb_pull qb_strength qb_back qb_moods qb_tides qb_carts c_last_1 c_who_1 c_pull_1 b_law b_places b_broad b_horses b_blinds b_besides b_tideCount b_cartCount b_due b_pairs b_pull b_strength b_back b_moods b_tides b_carts) → va_S A s.heap H locs → lv_has ls 5 [] → K123_1 c_last_1 c_who_1 c_pull_1 = some (c_last', c_who', c_pull') → W p l e rm_X2_fill s m args below meth c H locs 0 0 Q (F0 m 123 ls []) := by
    intro c_last_1 c_who_1 c_pull_1 H locs ls hP hD hS hl hf
    have hf := hK123_1 _ _ _ hf
    exact RET _ _ _ _ _ _ _ dX2_fill_123 hP hD hS hf
  obtain ⟨B2, hB2, hf⟩ := lq4_n hf
  have WL2 : ∀ (n9 : Nat) (y1_2 : Int32) (c_last_2 : Int32) (c_who_2 : Nat → Int32) (c_pull_2 : Nat → Int32) (H : Heap) (locs : List Loc) (ls : Array Slot), va_P (dC, dI) vwCl (W_X2c_X0b cI cZ cII qc qc_who qc_pull qb qb_pull qb_strength qb_back qb_moods qb_tides qb_carts c_last_2 c_who_2 c_pull_2 b_law b_places b_broad b_horses b_blinds b_besides b_tideCount b_cartCount b_due b_pairs b_pull b_strength b_back b_moods b_tides b_carts) H → va_D A (W_X2c_X0b cI cZ cII qc qc_who qc_pull qb qb_pull qb_strength qb_back qb_moods qb_tides qb_carts c_last_2 c_who_2 c_pull_2 b_law b_places b_broad b_horses b_blinds b_besides b_tideCount b_cartCount b_due b_pairs b_pull b_strength b_back b_moods b_tides b_carts) → va_S A s.heap H locs → lv_has ls 5 [(0, .ref qc), (1, .int y1_2)] → lq4 B2 n9 y1_2 c_last_2 c_who_2 c_pull_2 = some (c_last', c_who', c_pull') → W p l e rm_X2_fill s m args below meth c H locs 0 0 Q (F0 m 7 ls []) := by
    intro n9
    induction n9 with
    | zero => intro y1_2 c_last_2 c_who_2 c_pull_2 H locs ls hP hD hS hl hf; cases hf
    | succ n9 ih =>
      intro y1_2 c_last_2 c_who_2 c_pull_2 H locs ls hP hD hS hl hf
      obtain ⟨rec2, hrec2, hf⟩ := lq4_s hf
      have hf := hB2 rec2 _ _ _ _ hf
      refine lv_iload_n hx hb dX2_fill_7 rfl (lv_at hl 1 rfl) ?_
      refine lv_aload_n hx hb dX2_fill_8 rfl (lv_at hl 0 rfl) ?_
      refine lv_iconst (v := (0 : Int32)) hx hb dX2_fill_9 (by decide) ?_
      obtain ⟨r_3, hc, hf⟩ := bn1_s hf
      refine pg_cVi (As := [.int (0 : Int32)]) (rest := [.int y1_2]) (wf := (W_X2c_X0b cI cZ cII qc qc_who qc_pull qb qb_pull qb_strength qb_back qb_moods qb_tides qb_carts c_last_2 c_who_2 c_pull_2 b_law b_places b_broad b_horses b_blinds b_besides b_tideCount b_cartCount b_due b_pairs b_pull b_strength b_back b_moods b_tides b_carts)) ⟨hx, hb, hml, hown, hw⟩ (c_X2_choices l dC dI cI cZ cII qc qc_who qc_pull qb qb_pull qb_strength qb_back qb_moods qb_tides qb_carts H.size c_last_2 c_who_2 c_pull_2 b_law b_places b_broad b_horses b_blinds b_besides b_tideCount b_cartCount b_due b_pairs b_pull b_strength b_back b_moods b_tides b_carts (0 : Int32) r_3 hc) (cwV 1 hts (wM_V mw_17_0 mw_17_1 mw_17_2 mw_2_0 mw_17_3) rfl rfl rfl dk_X2_choices ⟨Nat.le_of_ble_eq_true rfl, Nat.le_of_ble_eq_true rfl⟩) hK hP hD hS hA 2 0 rfl rfl rfl [0, 1, 2, 3, 4, 5, 6, 7, 8, 9] [] [0, 1, 2, 3, 4, 5, 6, 7, 8, 9] (plC_5 cI cZ cII qc qc_who qc_pull qb qb_pull qb_strength qb_back qb_moods qb_tides qb_carts c_last_2 c_who_2 c_pull_2 b_law b_places b_broad b_horses b_blinds b_besides b_tideCount b_cartCount b_due b_pairs b_pull b_strength b_back b_moods b_tides b_carts) rfl (plF_5 cI cZ cII qc qc_who qc_pull qb qb_pull qb_strength qb_back qb_moods qb_tides qb_carts c_last_2 c_who_2 c_pull_2 b_law b_places b_broad b_horses b_blinds b_besides b_tideCount b_cartCount b_due b_pairs b_pull b_strength b_back b_moods b_tides b_carts c_last_2 c_who_2 c_pull_2 b_law b_places b_broad b_horses b_blinds b_besides b_tideCount b_cartCount b_due b_pairs b_pull b_strength b_back b_moods b_tides b_carts) (by decide) rfl hl.1 rfl (Nat.le_of_ble_eq_true rfl) dX2_fill_10 ⟨Nat.zero_le _, Nat.zero_le _⟩ (fun H locs hP hD hS => ?_)
      refine lv_icmp_ge (tgt := 123) hx hb dX2_fill_13 (by decide) (fun h9 => ?_) (fun h9 => ?_)
      · have hf := pg_t h9 hf
        exact WK123_1 _ _ _ _ _ _ hP hD hS (lv_sub hl [] rfl) hf
      · have hf := pg_f h9 hf
        refine lv_iconst (v := (-1 : Int32)) hx hb dX2_fill_16 (by decide) ?_
        refine lv_istore_n (lv' := [(2, .int (-1 : Int32)), (0, .ref qc), (1, .int y1_2)]) hx hb dX2_fill_17 rfl hl (by decide) rfl (fun ls hl => ?_)
        obtain ⟨K117_4, hK117_4, hf⟩ := jn3_s hf
        have WK117_4 : ∀ (c_last_4 : Int32) (c_who_4 : Nat → Int32) (c_pull_4 : Nat → Int32) (H : Heap) (locs : List Loc) (ls : Array Slot), va_P (dC, dI) vwCl (W_X2c_X0b cI cZ cII qc qc_who qc_pull qb qb_pull qb_strength qb_back qb_moods qb_tides qb_carts c_last_4 c_who_4 c_pull_4 b_law b_places b_broad b_horses b_blinds b_besides b_tideCount b_cartCount b_due b_pairs b_pull b_strength b_back b_moods b_tides b_carts) H → va_D A (W_X2c_X0b cI cZ cII qc qc_who qc_pull qb qb_pull qb_strength qb_back qb_moods qb_tides qb_carts c_last_4 c_who_4 c_pull_4 b_law b_places b_broad b_horses b_blinds b_besides b_tideCount b_cartCount b_due b_pairs b_pull b_strength b_back b_moods b_tides b_carts) → va_S A s.heap H locs → lv_has ls 5 [(0, .ref qc), (1, .int y1_2)] → K117_4 c_last_4 c_who_4 c_pull_4 = some (c_last', c_who', c_pull') → W p l e rm_X2_fill s m args below meth c H locs 0 0 Q (F0 m 117 ls []) := by
          intro c_last_4 c_who_4 c_pull_4 H locs ls hP hD hS hl hf
          have hf := hK117_4 _ _ _ hf
          refine lv_iinc (v := (y1_2 + (1 : Int32))) (lv' := [(1, .int (y1_2 + (1 : Int32))), (0, .ref qc)]) hx hb dX2_fill_117 hl (k := 1) rfl rfl (by decide) rfl (fun ls hl => ?_)
          refine lv_goto (tgt := 7) hx hb dX2_fill_120 (by decide) ?_
          exact ih _ _ _ _ _ _ _ hP hD hS (lv_sub hl [1, 0] rfl) (hrec2 _ _ _ _ hf)
        obtain ⟨B5, hB5, hf⟩ := lq4_n hf
        have WL5 : ∀ (n9 : Nat) (y2_5 : Int32) (c_last_5 : Int32) (c_who_5 : Nat → Int32) (c_pull_5 : Nat → Int32) (H : Heap) (locs : List Loc) (ls : Array Slot), va_P (dC, dI) vwCl (W_X2c_X0b cI cZ cII qc qc_who qc_pull qb qb_pull qb_strength qb_back qb_moods qb_tides qb_carts c_last_5 c_who_5 c_pull_5 b_law b_places b_broad b_horses b_blinds b_besides b_tideCount b_cartCount b_due b_pairs b_pull b_strength b_back b_moods b_tides b_carts) H → va_D A (W_X2c_X0b cI cZ cII qc qc_who qc_pull qb qb_pull qb_strength qb_back qb_moods qb_tides qb_carts c_last_5 c_who_5 c_pull_5 b_law b_places b_broad b_horses b_blinds b_besides b_tideCount b_cartCount b_due b_pairs b_pull b_strength b_back b_moods b_tides b_carts) → va_S A s.heap H locs → lv_has ls 5 [(0, .ref qc), (1, .int y1_2), (2, .int y2_5)] → lq4 B5 n9 y2_5 c_last_5 c_who_5 c_pull_5 = some (c_last', c_who', c_pull') → W p l e rm_X2_fill s m args below meth c H locs 0 0 Q (F0 m 18 ls []) := by
          intro n9
          induction n9 with
          | zero => intro y2_5 c_last_5 c_who_5 c_pull_5 H locs ls hP hD hS hl hf; cases hf
          | succ n9 ih =>
            intro y2_5 c_last_5 c_who_5 c_pull_5 H locs ls hP hD hS hl hf
            obtain ⟨rec5, hrec5, hf⟩ := lq4_s hf
            have hf := hB5 rec5 _ _ _ _ hf
            refine lv_iload_n hx hb dX2_fill_18 rfl (lv_at hl 2 rfl) ?_
            refine lv_aload_n hx hb dX2_fill_19 rfl (lv_at hl 0 rfl) ?_
            refine lv_iconst (v := (1 : Int32)) hx hb dX2_fill_20 (by decide) ?_
            obtain ⟨r_6, hc, hf⟩ := bn1_s hf
            refine pg_cVi (As := [.int (1 : Int32)]) (rest := [.int y2_5]) (wf := (W_X2c_X0b cI cZ cII qc qc_who qc_pull qb qb_pull qb_strength qb_back qb_moods qb_tides qb_carts c_last_5 c_who_5 c_pull_5 b_law b_places b_broad b_horses b_blinds b_besides b_tideCount b_cartCount b_due b_pairs b_pull b_strength b_back b_moods b_tides b_carts)) ⟨hx, hb, hml, hown, hw⟩ (c_X2_choices l dC dI cI cZ cII qc qc_who qc_pull qb qb_pull qb_strength qb_back qb_moods qb_tides qb_carts H.size c_last_5 c_who_5 c_pull_5 b_law b_places b_broad b_horses b_blinds b_besides b_tideCount b_cartCount b_due b_pairs b_pull b_strength b_back b_moods b_tides b_carts (1 : Int32) r_6 hc) (cwV 1 hts (wM_V mw_17_0 mw_17_1 mw_17_2 mw_2_0 mw_17_3) rfl rfl rfl dk_X2_choices ⟨Nat.le_of_ble_eq_true rfl, Nat.le_of_ble_eq_true rfl⟩) hK hP hD hS hA 2 0 rfl rfl rfl [0, 1, 2, 3, 4, 5, 6, 7, 8, 9] [] [0, 1, 2, 3, 4, 5, 6, 7, 8, 9] (plC_5 cI cZ cII qc qc_who qc_pull qb qb_pull qb_strength qb_back qb_moods qb_tides qb_carts c_last_5 c_who_5 c_pull_5 b_law b_places b_broad b_horses b_blinds b_besides b_tideCount b_cartCount b_due b_pairs b_pull b_strength b_back b_moods b_tides b_carts) rfl (plF_5 cI cZ cII qc qc_who qc_pull qb qb_pull qb_strength qb_back qb_moods qb_tides qb_carts c_last_5 c_who_5 c_pull_5 b_law b_places b_broad b_horses b_blinds b_besides b_tideCount b_cartCount b_due b_pairs b_pull b_strength b_back b_moods b_tides b_carts c_last_5 c_who_5 c_pull_5 b_law b_places b_broad b_horses b_blinds b_besides b_tideCount b_cartCount b_due b_pairs b_pull b_strength b_back b_moods b_tides b_carts) (by decide) rfl hl.1 rfl (Nat.le_of_ble_eq_true rfl) dX2_fill_21 ⟨Nat.zero_le _, Nat.zero_le _⟩ (fun H locs hP hD hS => ?_)
            refine lv_icmp_ge (tgt := 117) hx hb dX2_fill_24 (by decide) (fun h9 => ?_) (fun h9 => ?_)
            · have hf := pg_t h9 hf
              exact WK117_4 _ _ _ _ _ _ hP hD hS (lv_sub hl [0, 1] rfl) hf
            · have hf := pg_f h9 hf
              refine lv_iconst (v := (-1 : Int32)) hx hb dX2_fill_27 (by decide) ?_
              refine lv_istore_n (lv' := [(3, .int (-1 : Int32)), (0, .ref qc), (1, .int y1_2), (2, .int y2_5)]) hx hb dX2_fill_28 rfl hl (by decide) rfl (fun ls hl => ?_)
              obtain ⟨K111_7, hK111_7, hf⟩ := jn3_s hf
              have WK111_7 : ∀ (c_last_7 : Int32) (c_who_7 : Nat → Int32) (c_pull_7 : Nat → Int32) (H : Heap) (locs : List Loc) (ls : Array Slot), va_P (dC, dI) vwCl (W_X2c_X0b cI cZ cII qc qc_who qc_pull qb qb_pull qb_strength qb_back qb_moods qb_tides qb_carts c_last_7 c_who_7 c_pull_7 b_law b_places b_broad b_horses b_blinds b_besides b_tideCount b_cartCount b_due b_pairs b_pull b_strength b_back b_moods b_tides b_carts) H → va_D A (W_X2c_X0b cI cZ cII qc qc_who qc_pull qb qb_pull qb_strength qb_back qb_moods qb_tides qb_carts c_last_7 c_who_7 c_pull_7 b_law b_places b_broad b_horses b_blinds b_besides b_tideCount b_cartCount b_due b_pairs b_pull b_strength b_back b_moods b_tides b_carts) → va_S A s.heap H locs → lv_has ls 5 [(0, .ref qc), (1, .int y1_2), (2, .int y2_5)] → K111_7 c_last_7 c_who_7 c_pull_7 = some (c_last', c_who', c_pull') → W p l e rm_X2_fill s m args below meth c H locs 0 0 Q (F0 m 111 ls []) := by
                intro c_last_7 c_who_7 c_pull_7 H locs ls hP hD hS hl hf
                have hf := hK111_7 _ _ _ hf
                refine lv_iinc (v := (y2_5 + (1 : Int32))) (lv' := [(2, .int (y2_5 + (1 : Int32))), (0, .ref qc), (1, .int y1_2)]) hx hb dX2_fill_111 hl (k := 2) rfl rfl (by decide) rfl (fun ls hl => ?_)
                refine lv_goto (tgt := 18) hx hb dX2_fill_114 (by decide) ?_
                exact ih _ _ _ _ _ _ _ hP hD hS (lv_sub hl [1, 2, 0] rfl) (hrec5 _ _ _ _ hf)
              obtain ⟨B8, hB8, hf⟩ := lq4_n hf
              have WL8 : ∀ (n9 : Nat) (y3_8 : Int32) (c_last_8 : Int32) (c_who_8 : Nat → Int32) (c_pull_8 : Nat → Int32) (H : Heap) (locs : List Loc) (ls : Array Slot), va_P (dC, dI) vwCl (W_X2c_X0b cI cZ cII qc qc_who qc_pull qb qb_pull qb_strength qb_back qb_moods qb_tides qb_carts c_last_8 c_who_8 c_pull_8 b_law b_places b_broad b_horses b_blinds b_besides b_tideCount b_cartCount b_due b_pairs b_pull b_strength b_back b_moods b_tides b_carts) H → va_D A (W_X2c_X0b cI cZ cII qc qc_who qc_pull qb qb_pull qb_strength qb_back qb_moods qb_tides qb_carts c_last_8 c_who_8 c_pull_8 b_law b_places b_broad b_horses b_blinds b_besides b_tideCount b_cartCount b_due b_pairs b_pull b_strength b_back b_moods b_tides b_carts) → va_S A s.heap H locs → lv_has ls 5 [(0, .ref qc), (1, .int y1_2), (2, .int y2_5), (3, .int y3_8)] → lq4 B8 n9 y3_8 c_last_8 c_who_8 c_pull_8 = some (c_last', c_who', c_pull') → W p l e rm_X2_fill s m args below meth c H locs 0 0 Q (F0 m 29 ls []) := by
                intro n9
                induction n9 with
                | zero => intro y3_8 c_last_8 c_who_8 c_pull_8 H locs ls hP hD hS hl hf; cases hf
                | succ n9 ih =>
                  intro y3_8 c_last_8 c_who_8 c_pull_8 H locs ls hP hD hS hl hf
                  obtain ⟨rec8, hrec8, hf⟩ := lq4_s hf
                  have hf := hB8 rec8 _ _ _ _ hf
                  refine lv_iload_n hx hb dX2_fill_29 rfl (lv_at hl 3 rfl) ?_
                  refine lv_aload_n hx hb dX2_fill_30 rfl (lv_at hl 0 rfl) ?_
                  refine lv_iconst (v := (2 : Int32)) hx hb dX2_fill_31 (by decide) ?_
                  obtain ⟨r_9, hc, hf⟩ := bn1_s hf
                  refine pg_cVi (As := [.int (2 : Int32)]) (rest := [.int y3_8]) (wf := (W_X2c_X0b cI cZ cII qc qc_who qc_pull qb qb_pull qb_strength qb_back qb_moods qb_tides qb_carts c_last_8 c_who_8 c_pull_8 b_law b_places b_broad b_horses b_blinds b_besides b_tideCount b_cartCount b_due b_pairs b_pull b_strength b_back b_moods b_tides b_carts)) ⟨hx, hb, hml, hown, hw⟩ (c_X2_choices l dC dI cI cZ cII qc qc_who qc_pull qb qb_pull qb_strength qb_back qb_moods qb_tides qb_carts H.size c_last_8 c_who_8 c_pull_8 b_law b_places b_broad b_horses b_blinds b_besides b_tideCount b_cartCount b_due b_pairs b_pull b_strength b_back b_moods b_tides b_carts (2 : Int32) r_9 hc) (cwV 1 hts (wM_V mw_17_0 mw_17_1 mw_17_2 mw_2_0 mw_17_3) rfl rfl rfl dk_X2_choices ⟨Nat.le_of_ble_eq_true rfl, Nat.le_of_ble_eq_true rfl⟩) hK hP hD hS hA 2 0 rfl rfl rfl [0, 1, 2, 3, 4, 5, 6, 7, 8, 9] [] [0, 1, 2, 3, 4, 5, 6, 7, 8, 9] (plC_5 cI cZ cII qc qc_who qc_pull qb qb_pull qb_strength qb_back qb_moods qb_tides qb_carts c_last_8 c_who_8 c_pull_8 b_law b_places b_broad b_horses b_blinds b_besides b_tideCount b_cartCount b_due b_pairs b_pull b_strength b_back b_moods b_tides b_carts) rfl (plF_5 cI cZ cII qc qc_who qc_pull qb qb_pull qb_strength qb_back qb_moods qb_tides qb_carts c_last_8 c_who_8 c_pull_8 b_law b_places b_broad b_horses b_blinds b_besides b_tideCount b_cartCount b_due b_pairs b_pull b_strength b_back b_moods b_tides b_carts c_last_8 c_who_8 c_pull_8 b_law b_places b_broad b_horses b_blinds b_besides b_tideCount b_cartCount b_due b_pairs b_pull b_strength b_back b_moods b_tides b_carts) (by decide) rfl hl.1 rfl (Nat.le_of_ble_eq_true rfl) dX2_fill_32 ⟨Nat.zero_le _, Nat.zero_le _⟩ (fun H locs hP hD hS => ?_)
                  refine lv_icmp_ge (tgt := 111) hx hb dX2_fill_35 (by decide) (fun h9 => ?_) (fun h9 => ?_)
                  · have hf := pg_t h9 hf
                    exact WK111_7 _ _ _ _ _ _ hP hD hS (lv_sub hl [0, 1, 2] rfl) hf
                  · have hf := pg_f h9 hf
                    refine lv_iload_n hx hb dX2_fill_38 rfl (lv_at hl 1 rfl) ?_
                    refine lv_iconst (v := (-1 : Int32)) hx hb dX2_fill_39 (by decide) ?_
                    obtain ⟨J58_10, hJ58_10, hf⟩ := jn1_s hf
                    have WJ58_10 : ∀ (z0_10 : Int32) (H : Heap) (locs : List Loc) (ls : Array Slot), va_P (dC, dI) vwCl (W_X2c_X0b cI cZ cII qc qc_who qc_pull qb qb_pull qb_strength qb_back qb_moods qb_tides qb_carts c_last_8 c_who_8 c_pull_8 b_law b_places b_broad b_horses b_blinds b_besides b_tideCount b_cartCount b_due b_pairs b_pull b_strength b_back b_moods b_tides b_carts) H → va_D A (W_X2c_X0b cI cZ cII qc qc_who qc_pull qb qb_pull qb_strength qb_back qb_moods qb_tides qb_carts c_last_8 c_who_8 c_pull_8 b_law b_places b_broad b_horses b_blinds b_besides b_tideCount b_cartCount b_due b_pairs b_pull b_strength b_back b_moods b_tides b_carts) → va_S A s.heap H locs → lv_has ls 5 [(0, .ref qc), (1, .int y1_2), (2, .int y2_5), (3, .int y3_8)] → J58_10 z0_10 = some (c_last', c_who', c_pull') → W p l e rm_X2_fill s m args below meth c H locs 0 0 Q (F0 m 58 ls [.int z0_10]) := by
                      intro z0_10 H locs ls hP hD hS hl hf
                      have hf := hJ58_10 _ hf
                      refine lv_istore (lv' := [(4, .int z0_10), (0, .ref qc), (1, .int y1_2), (2, .int y2_5), (3, .int y3_8)]) hx hb dX2_fill_58 hl (by decide) rfl (fun ls hl => ?_)
                      refine lv_iload hx hb dX2_fill_60 (lv_at hl 0 rfl) ?_
                      obtain ⟨J105_11, hJ105_11, hf⟩ := jn3_s hf
                      have WJ105_11 : ∀ (c_last_11 : Int32) (c_who_11 : Nat → Int32) (c_pull_11 : Nat → Int32) (H : Heap) (locs : List Loc) (ls : Array Slot), va_P (dC, dI) vwCl (W_X2c_X0b cI cZ cII qc qc_who qc_pull qb qb_pull qb_strength qb_back qb_moods qb_tides qb_carts c_last_11 c_who_11 c_pull_11 b_law b_places b_broad b_horses b_blinds b_besides b_tideCount b_cartCount b_due b_pairs b_pull b_strength b_back b_moods b_tides b_carts) H → va_D A (W_X2c_X0b cI cZ cII qc qc_who qc_pull qb qb_pull qb_strength qb_back qb_moods qb_tides qb_carts c_last_11 c_who_11 c_pull_11 b_law b_places b_broad b_horses b_blinds b_besides b_tideCount b_cartCount b_due b_pairs b_pull b_strength b_back b_moods b_tides b_carts) → va_S A s.heap H locs → lv_has ls 5 [(0, .ref qc), (1, .int y1_2), (2, .int y2_5), (3, .int y3_8)] → J105_11 c_last_11 c_who_11 c_pull_11 = some (c_last', c_who', c_pull') → W p l e rm_X2_fill s m args below meth c H locs 0 0 Q (F0 m 105 ls []) := by
                        intro c_last_11 c_who_11 c_pull_11 H locs ls hP hD hS hl hf
                        have hf := hJ105_11 _ _ _ hf
                        refine lv_iinc (v := (y3_8 + (1 : Int32))) (lv' := [(3, .int (y3_8 + (1 : Int32))), (0, .ref qc), (1, .int y1_2), (2, .int y2_5)]) hx hb dX2_fill_105 hl (k := 3) rfl rfl (by decide) rfl (fun ls hl => ?_)
                        refine lv_goto (tgt := 29) hx hb dX2_fill_108 (by decide) ?_
                        exact ih _ _ _ _ _ _ _ hP hD hS (lv_sub hl [1, 2, 3, 0] rfl) (hrec8 _ _ _ _ hf)
                      refine lv_if_ne (tgt := 105) hx hb dX2_fill_62 (by decide) (fun h9 => ?_) (fun h9 => ?_)
                      · have hf := pg_f h9 hf
                        exact WJ105_11 _ _ _ _ _ _ hP hD hS (lv_sub hl [1, 2, 3, 4] rfl) hf
                      · have hf := pg_t h9 hf
                        refine lv_iload_n hx hb dX2_fill_65 rfl (lv_at hl 2 rfl) ?_
                        refine lv_iload_n hx hb dX2_fill_66 rfl (lv_at hl 3 rfl) ?_
                        refine lv_iload_n hx hb dX2_fill_67 rfl (lv_at hl 4 rfl) ?_
                        obtain ⟨r_12, hc, hf⟩ := bn1_s hf
                        refine pg_cSi (As := [.int y1_2, .int y2_5, .int y3_8]) (rest := []) (wf := (W_X2c_X0b cI cZ cII qc qc_who qc_pull qb qb_pull qb_strength qb_back qb_moods qb_tides qb_carts c_last_8 c_who_8 c_pull_8 b_law b_places b_broad b_horses b_blinds b_besides b_tideCount b_cartCount b_due b_pairs b_pull b_strength b_back b_moods b_tides b_carts)) ⟨hx, hb, hml, hown, hw⟩ (c_X2_isOneTwice l dC dI cI cZ cII  H.size  y1_2 y2_5 y3_8 r_12 hc) (va_cwS 3 hts (wM_S mw_17_9 mw_17_10 mw_2_0 mw_17_11) rfl rfl rfl dk_X2_isOneTwice ⟨Nat.le_of_ble_eq_true rfl, Nat.le_of_ble_eq_true rfl⟩) hK hP hD hS hA [] [0, 1, 2, 3, 4, 5, 6, 7, 8, 9] [0, 1, 2, 3, 4, 5, 6, 7, 8, 9] (plC_4 cI cZ cII qc qc_who qc_pull qb qb_pull qb_strength qb_back qb_moods qb_tides qb_carts c_last_8 c_who_8 c_pull_8 b_law b_places b_broad b_horses b_blinds b_besides b_tideCount b_cartCount b_due b_pairs b_pull b_strength b_back b_moods b_tides b_carts) rfl (plF_4 cI cZ cII qc qc_who qc_pull qb qb_pull qb_strength qb_back qb_moods qb_tides qb_carts c_last_8 c_who_8 c_pull_8 b_law b_places b_broad b_horses b_blinds b_besides b_tideCount b_cartCount b_due b_pairs b_pull b_strength b_back b_moods b_tides b_carts ) (by decide) rfl hl.1 rfl (Nat.le_of_ble_eq_true rfl) dX2_fill_68 ⟨Nat.zero_le _, Nat.zero_le _⟩ (fun H locs hP hD hS => ?_)
                        refine lv_if_ne (tgt := 105) hx hb dX2_fill_71 (by decide) (fun h9 => ?_) (fun h9 => ?_)
                        · have hf := pg_f h9 hf
                          exact WJ105_11 _ _ _ _ _ _ hP hD hS (lv_sub hl [1, 2, 3, 4] rfl) hf
                        · have hf := pg_t h9 hf
                          refine lv_aload_n hx hb dX2_fill_74 rfl (lv_at hl 1 rfl) ?_
                          refine va_get (D := (dC, dI)) (ci := 2) (v := .int c_last_8) (C := RX2) (T := TX2) (N := 4) hx hb hw inlX2 hown hK hP 0 rfl rfl 0 (by decide) (hw _ mw_16_23) (fun _ h9 => h9) rfl dX2_fill_75 ?_
                          refine lv_sipush (v := (228 : Int32)) hx hb dX2_fill_78 (by decide) ?_
                          refine lv_icmp_ge (tgt := 105) hx hb dX2_fill_81 (by decide) (fun h9 => ?_) (fun h9 => ?_)
                          · have hf := pg_t h9 hf
                            exact WJ105_11 _ _ _ _ _ _ hP hD hS (lv_sub hl [1, 2, 3, 4] rfl) hf
                          · have hf := pg_f h9 hf
                            refine lv_aload_n hx hb dX2_fill_84 rfl (lv_at hl 1 rfl) ?_
                            refine lv_dup hx hb dX2_fill_85 rfl ?_
                            refine va_get (D := (dC, dI)) (ci := 2) (v := .int c_last_8) (C := RX2) (T := TX2) (N := 4) hx hb hw inlX2 hown hK hP 0 rfl rfl 0 (by decide) (hw _ mw_16_23) (fun _ h9 => h9) rfl dX2_fill_86 ?_
                            refine lv_iconst (v := (1 : Int32)) hx hb dX2_fill_89 (by decide) ?_
                            refine lv_iadd hx hb dX2_fill_90 ?_
                            refine va_put (D := (dC, dI)) (ci := 2) (v := .int (c_last_8 + (1 : Int32))) (ty := .int) (C := RX2) (T := TX2) (N := 4) hx hb hw inlX2 tyX2 tyX2_ok nmX2 hown hK hP hD hS 0 rfl rfl 0 (by decide) (hw _ mw_16_23) (fun _ h9 => h9) rfl (by decide +kernel) rfl rfl (Nat.le_of_ble_eq_true rfl) dX2_fill_91 (fun H locs hP hD hS => ?_)
                            have hP : va_P (dC, dI) vwCl (W_X2c_X0b cI cZ cII qc qc_who qc_pull qb qb_pull qb_strength qb_back qb_moods qb_tides qb_carts (c_last_8 + (1 : Int32)) c_who_8 c_pull_8 b_law b_places b_broad b_horses b_blinds b_besides b_tideCount b_cartCount b_due b_pairs b_pull b_strength b_back b_moods b_tides b_carts) H := hP
                            have hD : va_D A (W_X2c_X0b cI cZ cII qc qc_who qc_pull qb qb_pull qb_strength qb_back qb_moods qb_tides qb_carts (c_last_8 + (1 : Int32)) c_who_8 c_pull_8 b_law b_places b_broad b_horses b_blinds b_besides b_tideCount b_cartCount b_due b_pairs b_pull b_strength b_back b_moods b_tides b_carts) := hD
                            refine lv_aload_n hx hb dX2_fill_94 rfl (lv_at hl 1 rfl) ?_
                            refine lv_aload_n hx hb dX2_fill_95 rfl (lv_at hl 1 rfl) ?_
                            refine va_get (D := (dC, dI)) (ci := 2) (v := .int (c_last_8 + (1 : Int32))) (C := RX2) (T := TX2) (N := 4) hx hb hw inlX2 hown hK hP 0 rfl rfl 0 (by decide) (hw _ mw_16_23) (fun _ h9 => h9) rfl dX2_fill_96 ?_
                            refine lv_iload_n hx hb dX2_fill_99 rfl (lv_at hl 2 rfl) ?_
                            refine lv_iload_n hx hb dX2_fill_100 rfl (lv_at hl 3 rfl) ?_
                            refine lv_iload_n hx hb dX2_fill_101 rfl (lv_at hl 4 rfl) ?_
                            obtain ⟨c_who_13, c_pull_13, hc, hf⟩ := bn2_s hf
                            refine pg_cVv (As := [.int (c_last_8 + (1 : Int32)), .int y1_2, .int y2_5, .int y3_8]) (rest := []) (wf := (W_X2c_X0b cI cZ cII qc qc_who qc_pull qb qb_pull qb_strength qb_back qb_moods qb_tides qb_carts (c_last_8 + (1 : Int32)) c_who_13 c_pull_13 b_law b_places b_broad b_horses b_blinds b_besides b_tideCount b_cartCount b_due b_pairs b_pull b_strength b_back b_moods b_tides b_carts)) ⟨hx, hb, hml, hown, hw⟩ (c_X2_seat l dC dI cI cZ cII qc qc_who qc_pull qb qb_pull qb_strength qb_back qb_moods qb_tides qb_carts H.size (c_last_8 + (1 : Int32)) c_who_8 c_pull_8 b_law b_places b_broad b_horses b_blinds b_besides b_tideCount b_cartCount b_due b_pairs b_pull b_strength b_back b_moods b_tides b_carts (c_last_8 + (1 : Int32)) y1_2 y2_5 y3_8 c_who_13 c_pull_13 hc) (cwV 4 hts (wM_V mw_17_12 mw_17_13 mw_17_14 mw_2_0 mw_17_15) rfl rfl rfl dk_X2_seat ⟨Nat.le_of_ble_eq_true rfl, Nat.le_of_ble_eq_true rfl⟩) hK hP hD hS hA 2 0 rfl rfl rfl [0, 1, 2, 3, 4, 5, 6, 7, 8, 9] [] [0, 1, 2, 3, 4, 5, 6, 7, 8, 9] (plC_5 cI cZ cII qc qc_who qc_pull qb qb_pull qb_strength qb_back qb_moods qb_tides qb_carts (c_last_8 + (1 : Int32)) c_who_8 c_pull_8 b_law b_places b_broad b_horses b_blinds b_besides b_tideCount b_cartCount b_due b_pairs b_pull b_strength b_back b_moods b_tides b_carts) rfl (plF_5 cI cZ cII qc qc_who qc_pull qb qb_pull qb_strength qb_back qb_moods qb_tides qb_carts (c_last_8 + (1 : Int32)) c_who_8 c_pull_8 b_law b_places b_broad b_horses b_blinds b_besides b_tideCount b_cartCount b_due b_pairs b_pull b_strength b_back b_moods b_tides b_carts (c_last_8 + (1 : Int32)) c_who_13 c_pull_13 b_law b_places b_broad b_horses b_blinds b_besides b_tideCount b_cartCount b_due b_pairs b_pull b_strength b_back b_moods b_tides b_carts) (by decide) rfl hl.1 rfl (Nat.le_of_ble_eq_true rfl) dX2_fill_102 ⟨Nat.zero_le _, Nat.zero_le _⟩ (fun H locs hP hD hS => ?_)
                            exact WJ105_11 _ _ _ _ _ _ hP hD hS (lv_sub hl [1, 2, 3, 4] rfl) hf
                    obtain ⟨J57_14, hJ57_14, hf⟩ := jn1_s hf
                    have WJ57_14 : ∀ (u_14 : Unit) (H : Heap) (locs : List Loc) (ls : Array Slot), va_P (dC, dI) vwCl (W_X2c_X0b cI cZ cII qc qc_who qc_pull qb qb_pull qb_strength qb_back qb_moods qb_tides qb_carts c_last_8 c_who_8 c_pull_8 b_law b_places b_broad b_horses b_blinds b_besides b_tideCount b_cartCount b_due b_pairs b_pull b_strength b_back b_moods b_tides b_carts) H → va_D A (W_X2c_X0b cI cZ cII qc qc_who qc_pull qb qb_pull qb_strength qb_back qb_moods qb_tides qb_carts c_last_8 c_who_8 c_pull_8 b_law b_places b_broad b_horses b_blinds b_besides b_tideCount b_cartCount b_due b_pairs b_pull b_strength b_back b_moods b_tides b_carts) → va_S A s.heap H locs → lv_has ls 5 [(0, .ref qc), (1, .int y1_2), (2, .int y2_5), (3, .int y3_8)] → J57_14 u_14 = some (c_last', c_who', c_pull') → W p l e rm_X2_fill s m args below meth c H locs 0 0 Q (F0 m 57 ls []) := by
                      intro u_14 H locs ls hP hD hS hl hf
                      have hf := hJ57_14 _ hf
                      refine lv_iconst (v := (0 : Int32)) hx hb dX2_fill_57 (by decide) ?_
                      exact WJ58_10 _ _ _ _ hP hD hS hl hf
                    refine lv_icmp_ne (tgt := 57) hx hb dX2_fill_40 (by decide) (fun h9 => ?_) (fun h9 => ?_)
                    · have hf := pg_f h9 hf
                      exact WJ57_14 _ _ _ _ hP hD hS hl hf
                    · have hf := pg_t h9 hf
                      refine lv_iload_n hx hb dX2_fill_43 rfl (lv_at hl 2 rfl) ?_
                      refine lv_iconst (v := (-1 : Int32)) hx hb dX2_fill_44 (by decide) ?_
                      refine lv_icmp_ne (tgt := 57) hx hb dX2_fill_45 (by decide) (fun h9 => ?_) (fun h9 => ?_)
                      · have hf := pg_f h9 hf
                        exact WJ57_14 _ _ _ _ hP hD hS hl hf
                      · have hf := pg_t h9 hf
                        refine lv_iload_n hx hb dX2_fill_48 rfl (lv_at hl 3 rfl) ?_
                        refine lv_iconst (v := (-1 : Int32)) hx hb dX2_fill_49 (by decide) ?_
                        refine lv_icmp_ne (tgt := 57) hx hb dX2_fill_50 (by decide) (fun h9 => ?_) (fun h9 => ?_)
                        · have hf := pg_f h9 hf
                          exact WJ57_14 _ _ _ _ hP hD hS hl hf
                        · have hf := pg_t h9 hf
                          refine lv_iconst (v := (1 : Int32)) hx hb dX2_fill_53 (by decide) ?_
                          refine lv_goto (tgt := 58) hx hb dX2_fill_54 (by decide) ?_
                          exact WJ58_10 _ _ _ _ hP hD hS hl hf
              exact WL8 fu _ _ _ _ _ _ _ hP hD hS (lv_sub hl [1, 2, 3, 0] rfl) hf
        exact WL5 fu _ _ _ _ _ _ _ hP hD hS (lv_sub hl [1, 2, 0] rfl) hf
  exact WL2 fu _ _ _ _ _ _ _ hP hD hS (lv_sub hl [1, 0] rfl) hf
def f_X2_placeOf (n1 : Int32) (c_who : Nat → Int32) : Option (Int32) :=
  jn1 (fun (u_1 : Unit) =>
    some ((-1 : Int32))
  ) (fun K30_1 =>
  lq1 (fun rec2 (y2_2 : Int32) =>
    if (3 : Int32) ≤ y2_2 then
      K30_1 ()
    else
      jn1 (fun (u_3 : Unit) =>
        rec2 (y2_2 + (1 : Int32))
      ) (fun J24_3 =>
      if n1 = (-1 : Int32) then
        J24_3 ()
      else
        if y2_2 < 0 ∨ 687 ≤ (y2_2).toNatClampNeg then none else
        if (c_who (y2_2).toNatClampNeg) = n1 then
          some (y2_2)
        else
          J24_3 ()
      )
  ) fu (0 : Int32)
  )
abbrev rm_X2_placeOf : Room := { frames := 0, cells := 0, slots := 0, locals := 0 }
theorem dk_X2_placeOf : yX2_placeOf.cls = RX2 ∧ yX2_placeOf.cls ≠ "java/lang/invoke/MethodHandle" ∧ yX2_placeOf.cls ≠ "java/lang/invoke/VarHandle" ∧ (parseMethodDescriptor yX2_placeOf.desc).map (fun d => d.parameters.length) = some 1 := by decide +kernel
set_option maxHeartbeats 4000000 in
set_option maxRecDepth 100000 in
theorem c_X2_placeOf (l : Launch) (dC : Nat → ClassId) (dI : Nat → Nat → Nat) (cI cZ cII : ClassId) (qc qc_who qc_pull qb qb_pull qb_strength qb_back qb_moods qb_tides qb_carts : Nat) (sz : Nat) (c_last : Int32) (c_who : Nat → Int32) (c_pull : Nat → Int32) (b_law : Int32) (b_places : Int32) (b_broad : Int32) (b_horses : Int32) (b_blinds : Int32) (b_besides : Int32) (b_tideCount : Int32) (b_cartCount : Int32) (b_due : Int32) (b_pairs : Int64) (b_pull : Nat → Int32) (b_strength : Nat → Int32) (b_back : Nat → Int32) (b_moods : Nat → Int32) (b_tides : Nat → Int32) (b_carts : Nat → Int32) (n1 : Int32) (rr : Int32) (hf : f_X2_placeOf n1 c_who = some (rr)) : Met l yX2_placeOf (wM yX2_placeOf cX2_placeOf 3 (some .int)) rm_X2_placeOf (PreW (dC, dI) (tyA cI cZ cII) (W_X2c_X0b cI cZ cII qc qc_who qc_pull qb qb_pull qb_strength qb_back qb_moods qb_tides qb_carts c_last c_who c_pull b_law b_places b_broad b_horses b_blinds b_besides b_tideCount b_cartCount b_due b_pairs b_pull b_strength b_back b_moods b_tides b_carts) sz [.ref qc, .int n1]) (PostI (dC, dI) (tyA cI cZ cII) rr (W_X2c_X0b cI cZ cII qc qc_who qc_pull qb qb_pull qb_strength qb_back qb_moods qb_tides qb_carts c_last c_who c_pull b_law b_places b_broad b_horses b_blinds b_besides b_tideCount b_cartCount b_due b_pairs b_pull b_strength b_back b_moods b_tides b_carts) (W_X2c_X0b cI cZ cII qc qc_who qc_pull qb qb_pull qb_strength qb_back qb_moods qb_tides qb_carts c_last c_who c_pull b_law b_places b_broad b_horses b_blinds b_besides b_tideCount b_cartCount b_due b_pairs b_pull b_strength b_back b_moods b_tides b_carts) sz) 0 0 (va_A (W_X2c_X0b cI cZ cII qc qc_who qc_pull qb qb_pull qb_strength qb_back qb_moods qb_tides qb_carts c_last c_who c_pull b_law b_places b_broad b_horses b_blinds b_besides b_tideCount b_cartCount b_due b_pairs b_pull b_strength b_back b_moods b_tides b_carts) sz) := by
  refine Met.ofW (cc := cX2_placeOf) (maxL := 3) (ret := (some .int)) (by decide) rfl ?_
  intro p e s m args below meth c s₁ B hml hv
  obtain ⟨rfl, hsz, hP, hK, hD0⟩ := hv
  have hx := B.exec
  have hb := B.bytes
  have hr := B.returns
  have hts := atoms_spec (ws := wM yX2_placeOf cX2_placeOf 3 (some .int)) B.pre
  have hown : s.vm.findClass RX2 = some m.cls := findClass_of_methodNamed B.named
  have hlocks := B.notSynchronized
  subst hsz
  have hD := hD0.self (sz := s.heap.size)
  obtain ⟨A, hAe⟩ : ∃ A, A = va_A (W_X2c_X0b cI cZ cII qc qc_who qc_pull qb qb_pull qb_strength qb_back qb_moods qb_tides qb_carts c_last c_who c_pull b_law b_places b_broad b_horses b_blinds b_besides b_tideCount b_cartCount b_due b_pairs b_pull b_strength b_back b_moods b_tides b_carts) s.heap.size := ⟨_, rfl⟩
  rw [← hAe] at hD
  have hA : ∀ q : Nat, s.heap.size ≤ q → A q := fun q h => by rw [hAe]; exact Or.inr h
  have hS : va_S A s.heap s.heap [] := va_S.rf
  have hl := lv_entry ([.ref qc, .int n1]) (n := 3) (Nat.le_of_ble_eq_true rfl)
  rw [lg_entry_eq]
  generalize (lg_sl ([.ref qc, .int n1]) ++ List.replicate (3 - (lg_sl ([.ref qc, .int n1])).length) Slot.unset).toArray = ls at hl ⊢
  have hl : lv_has ls 3 [(0, .ref qc), (1, .int n1)] := hl
  generalize ([.ref qc, .int n1] : List Value).toArray = args at hts ⊢
  have hw : ∀ w ∈ wsL_law, w.before args s = true := fun w h => hts w (List.mem_cons_of_mem _ h)
  refine pg_start (fun Q hQ => ?_)
  have RET : ∀ (H : Heap) (locs : List Loc) (ls : Array Slot) (pc : Nat) (v : Int32) , decode cX2_placeOf pc = .ok (.ireturn, 1) → va_P (dC, dI) vwCl (W_X2c_X0b cI cZ cII qc qc_who qc_pull qb qb_pull qb_strength qb_back qb_moods qb_tides qb_carts c_last c_who c_pull b_law b_places b_broad b_horses b_blinds b_besides b_tideCount b_cartCount b_due b_pairs b_pull b_strength b_back b_moods b_tides b_carts) H → va_D A (W_X2c_X0b cI cZ cII qc qc_who qc_pull qb qb_pull qb_strength qb_back qb_moods qb_tides qb_carts c_last c_who c_pull b_law b_places b_broad b_horses b_blinds b_besides b_tideCount b_cartCount b_due b_pairs b_pull b_strength b_back b_moods b_tides b_carts) → va_S A s.heap H locs → (some (v) : Option (Int32)) = some (rr) → W p l e rm_X2_placeOf s m args below meth c H locs 0 0 Q (F0 m pc ls [.int v]) := by
    intro H locs ls pc v hd hP hD hS he
    subst hAe; subst hQ
    obtain rfl := Option.some.inj he
    exact pg_iret hx hb hr hlocks hK hP hD hS hd
  unfold f_X2_placeOf at hf
  refine lv_iconst (v := (0 : Int32)) hx hb dX2_placeOf_0 (by decide) ?_
  refine lv_istore_n (lv' := [(2, .int (0 : Int32)), (0, .ref qc), (1, .int n1)]) hx hb dX2_placeOf_1 rfl hl (by decide) rfl (fun ls hl => ?_)
  obtain ⟨K30_1, hK30_1, hf⟩ := jn1_s hf
  have WK30_1 : ∀ (u_1 : Unit) (H : Heap) (locs : List Loc) (ls : Array Slot), va_P (dC, dI) vwCl (W_X2c_X0b cI cZ cII qc qc_who qc_pull qb qb_pull qb_strength qb_back qb_moods qb_tides qb_carts c_last c_who c_pull b_law b_places b_broad b_horses b_blinds b_besides b_tideCount b_cartCount b_due b_pairs b_pull b_strength b_back b_moods b_tides b_carts) H → va_D A (W_X2c_X0b cI cZ cII qc qc_who qc_pull qb qb_pull qb_strength qb_back qb_moods qb_tides qb_carts c_last c_who c_pull b_law b_places b_broad b_horses b_blinds b_besides b_tideCount b_cartCount b_due b_pairs b_pull b_strength b_back b_moods b_tides b_carts) → va_S A s.heap H locs → lv_has ls 3 [] → K30_1 u_1 = some (rr) → W p l e rm_X2_placeOf s m args below meth c H locs 0 0 Q (F0 m 30 ls []) := by
    intro u_1 H locs ls hP hD hS hl hf
    have hf := hK30_1 _ hf
    refine lv_iconst (v := (-1 : Int32)) hx hb dX2_placeOf_30 (by decide) ?_
    exact RET _ _ _ _ _ dX2_placeOf_31 hP hD hS hf
  obtain ⟨B2, hB2, hf⟩ := lq1_n hf
  have WL2 : ∀ (n9 : Nat) (y2_2 : Int32) (H : Heap) (locs : List Loc) (ls : Array Slot), va_P (dC, dI) vwCl (W_X2c_X0b cI cZ cII qc qc_who qc_pull qb qb_pull qb_strength qb_back qb_moods qb_tides qb_carts c_last c_who c_pull b_law b_places b_broad b_horses b_blinds b_besides b_tideCount b_cartCount b_due b_pairs b_pull b_strength b_back b_moods b_tides b_carts) H → va_D A (W_X2c_X0b cI cZ cII qc qc_who qc_pull qb qb_pull qb_strength qb_back qb_moods qb_tides qb_carts c_last c_who c_pull b_law b_places b_broad b_horses b_blinds b_besides b_tideCount b_cartCount b_due b_pairs b_pull b_strength b_back b_moods b_tides b_carts) → va_S A s.heap H locs → lv_has ls 3 [(0, .ref qc), (1, .int n1), (2, .int y2_2)] → lq1 B2 n9 y2_2 = some (rr) → W p l e rm_X2_placeOf s m args below meth c H locs 0 0 Q (F0 m 2 ls []) := by
    intro n9
    induction n9 with
    | zero => intro y2_2 H locs ls hP hD hS hl hf; cases hf
    | succ n9 ih =>
      intro y2_2 H locs ls hP hD hS hl hf
      obtain ⟨rec2, hrec2, hf⟩ := lq1_s hf
      have hf := hB2 rec2 _ hf
      refine lv_iload_n hx hb dX2_placeOf_2 rfl (lv_at hl 2 rfl) ?_
      refine lv_iconst (v := (3 : Int32)) hx hb dX2_placeOf_3 (by decide) ?_
      refine lv_icmp_ge (tgt := 30) hx hb dX2_placeOf_4 (by decide) (fun h9 => ?_) (fun h9 => ?_)
      · have hf := pg_t h9 hf
        exact WK30_1 _ _ _ _ hP hD hS (lv_sub hl [] rfl) hf
      · have hf := pg_f h9 hf
        refine lv_iload_n hx hb dX2_placeOf_7 rfl (lv_at hl 1 rfl) ?_
        refine lv_iconst (v := (-1 : Int32)) hx hb dX2_placeOf_8 (by decide) ?_
        obtain ⟨J24_3, hJ24_3, hf⟩ := jn1_s hf
        have WJ24_3 : ∀ (u_3 : Unit) (H : Heap) (locs : List Loc) (ls : Array Slot), va_P (dC, dI) vwCl (W_X2c_X0b cI cZ cII qc qc_who qc_pull qb qb_pull qb_strength qb_back qb_moods qb_tides qb_carts c_last c_who c_pull b_law b_places b_broad b_horses b_blinds b_besides b_tideCount b_cartCount b_due b_pairs b_pull b_strength b_back b_moods b_tides b_carts) H → va_D A (W_X2c_X0b cI cZ cII qc qc_who qc_pull qb qb_pull qb_strength qb_back qb_moods qb_tides qb_carts c_last c_who c_pull b_law b_places b_broad b_horses b_blinds b_besides b_tideCount b_cartCount b_due b_pairs b_pull b_strength b_back b_moods b_tides b_carts) → va_S A s.heap H locs → lv_has ls 3 [(0, .ref qc), (1, .int n1), (2, .int y2_2)] → J24_3 u_3 = some (rr) → W p l e rm_X2_placeOf s m args below meth c H locs 0 0 Q (F0 m 24 ls []) := by
          intro u_3 H locs ls hP hD hS hl hf
          have hf := hJ24_3 _ hf
          refine lv_iinc (v := (y2_2 + (1 : Int32))) (lv' := [(2, .int (y2_2 + (1 : Int32))), (0, .ref qc), (1, .int n1)]) hx hb dX2_placeOf_24 hl (k := 2) rfl rfl (by decide) rfl (fun ls hl => ?_)
          refine lv_goto (tgt := 2) hx hb dX2_placeOf_27 (by decide) ?_
          exact ih _ _ _ _ hP hD hS (lv_sub hl [1, 2, 0] rfl) (hrec2 _ hf)
        refine lv_icmp_eq (tgt := 24) hx hb dX2_placeOf_9 (by decide) (fun h9 => ?_) (fun h9 => ?_)
        · have hf := pg_t h9 hf
          exact WJ24_3 _ _ _ _ hP hD hS hl hf
        · have hf := pg_f h9 hf
          refine lv_aload_n hx hb dX2_placeOf_12 rfl (lv_at hl 0 rfl) ?_
          refine va_get (D := (dC, dI)) (ci := 2) (v := .ref qc_who) (C := RX2) (T := TX2) (N := 4) hx hb hw inlX2 hown hK hP 0 rfl rfl 2 (by decide) (hw _ mw_3_19) (fun _ h9 => h9) rfl dX2_placeOf_13 ?_
          refine lv_iload_n hx hb dX2_placeOf_16 rfl (lv_at hl 2 rfl) ?_
          obtain ⟨hi4, hf⟩ := pg_chk hf
          refine va_iald hx hb hK hP 1 0 rfl rfl hi4 dX2_placeOf_17 ?_
          refine lv_iload_n hx hb dX2_placeOf_18 rfl (lv_at hl 1 rfl) ?_
          refine lv_icmp_ne (tgt := 24) hx hb dX2_placeOf_19 (by decide) (fun h9 => ?_) (fun h9 => ?_)
          · have hf := pg_f h9 hf
            exact WJ24_3 _ _ _ _ hP hD hS hl hf
          · have hf := pg_t h9 hf
            refine lv_iload_n hx hb dX2_placeOf_22 rfl (lv_at hl 2 rfl) ?_
            exact RET _ _ _ _ _ dX2_placeOf_23 hP hD hS hf
  exact WL2 fu _ _ _ _ hP hD hS (lv_sub hl [1, 2, 0] rfl) hf
def f_X2_horseAt (n1 : Int32) (n2 : Int32) (c_who : Nat → Int32) : Option (Int32) :=
  bn1 (f_X2_isCrew n1) (fun (r_1 : Int32) =>
    if r_1 = 0 then
      some ((-1 : Int32))
    else
      if n2 < 0 then
        some ((-1 : Int32))
      else
        if (3 : Int32) ≤ n2 then
          some ((-1 : Int32))
        else
          if ((n1 * (3 : Int32)) + n2) < 0 ∨ 687 ≤ (((n1 * (3 : Int32)) + n2)).toNatClampNeg then none else
          some ((c_who (((n1 * (3 : Int32)) + n2)).toNatClampNeg))
  )
abbrev rm_X2_horseAt : Room := { frames := 1, cells := 0, slots := 0, locals := 20 }
theorem dk_X2_horseAt : yX2_horseAt.cls = RX2 ∧ yX2_horseAt.cls ≠ "java/lang/invoke/MethodHandle" ∧ yX2_horseAt.cls ≠ "java/lang/invoke/VarHandle" ∧ (parseMethodDescriptor yX2_horseAt.desc).map (fun d => d.parameters.length) = some 2 := by decide +kernel
set_option maxHeartbeats 4000000 in
set_option maxRecDepth 100000 in
theorem c_X2_horseAt (l : Launch) (dC : Nat → ClassId) (dI : Nat → Nat → Nat) (cI cZ cII : ClassId) (qc qc_who qc_pull qb qb_pull qb_strength qb_back qb_moods qb_tides qb_carts : Nat) (sz : Nat) (c_last : Int32) (c_who : Nat → Int32) (c_pull : Nat → Int32) (b_law : Int32) (b_places : Int32) (b_broad : Int32) (b_horses : Int32) (b_blinds : Int32) (b_besides : Int32) (b_tideCount : Int32) (b_cartCount : Int32) (b_due : Int32) (b_pairs : Int64) (b_pull : Nat → Int32) (b_strength : Nat → Int32) (b_back : Nat → Int32) (b_moods : Nat → Int32) (b_tides : Nat → Int32) (b_carts : Nat → Int32) (n1 : Int32) (n2 : Int32) (rr : Int32) (hf : f_X2_horseAt n1 n2 c_who = some (rr)) : Met l yX2_horseAt (wM yX2_horseAt cX2_horseAt 3 (some .int)) rm_X2_horseAt (PreW (dC, dI) (tyA cI cZ cII) (W_X2c_X0b cI cZ cII qc qc_who qc_pull qb qb_pull qb_strength qb_back qb_moods qb_tides qb_carts c_last c_who c_pull b_law b_places b_broad b_horses b_blinds b_besides b_tideCount b_cartCount b_due b_pairs b_pull b_strength b_back b_moods b_tides b_carts) sz [.ref qc, .int n1, .int n2]) (PostI (dC, dI) (tyA cI cZ cII) rr (W_X2c_X0b cI cZ cII qc qc_who qc_pull qb qb_pull qb_strength qb_back qb_moods qb_tides qb_carts c_last c_who c_pull b_law b_places b_broad b_horses b_blinds b_besides b_tideCount b_cartCount b_due b_pairs b_pull b_strength b_back b_moods b_tides b_carts) (W_X2c_X0b cI cZ cII qc qc_who qc_pull qb qb_pull qb_strength qb_back qb_moods qb_tides qb_carts c_last c_who c_pull b_law b_places b_broad b_horses b_blinds b_besides b_tideCount b_cartCount b_due b_pairs b_pull b_strength b_back b_moods b_tides b_carts) sz) 0 0 (va_A (W_X2c_X0b cI cZ cII qc qc_who qc_pull qb qb_pull qb_strength qb_back qb_moods qb_tides qb_carts c_last c_who c_pull b_law b_places b_broad b_horses b_blinds b_besides b_tideCount b_cartCount b_due b_pairs b_pull b_strength b_back b_moods b_tides b_carts) sz) := by
  refine Met.ofW (cc := cX2_horseAt) (maxL := 3) (ret := (some .int)) (by decide) rfl ?_
  intro p e s m args below meth c s₁ B hml hv
  obtain ⟨rfl, hsz, hP, hK, hD0⟩ := hv
  have hx := B.exec
  have hb := B.bytes
  have hr := B.returns
  have hts := atoms_spec (ws := wM yX2_horseAt cX2_horseAt 3 (some .int)) B.pre
  have hown : s.vm.findClass RX2 = some m.cls := findClass_of_methodNamed B.named
  have hlocks := B.notSynchronized
  subst hsz
  have hD := hD0.self (sz := s.heap.size)
  obtain ⟨A, hAe⟩ : ∃ A, A = va_A (W_X2c_X0b cI cZ cII qc qc_who qc_pull qb qb_pull qb_strength qb_back qb_moods qb_tides qb_carts c_last c_who c_pull b_law b_places b_broad b_horses b_blinds b_besides b_tideCount b_cartCount b_due b_pairs b_pull b_strength b_back b_moods b_tides b_carts) s.heap.size := ⟨_, rfl⟩
  rw [← hAe] at hD
  have hA : ∀ q : Nat, s.heap.size ≤ q → A q := fun q h => by rw [hAe]; exact Or.inr h
  have hS : va_S A s.heap s.heap [] := va_S.rf
  have hl := lv_entry ([.ref qc, .int n1, .int n2]) (n := 3) (Nat.le_of_ble_eq_true rfl)
  rw [lg_entry_eq]
  generalize (lg_sl ([.ref qc, .int n1, .int n2]) ++ List.replicate (3 - (lg_sl ([.ref qc, .int n1, .int n2])).length) Slot.unset).toArray = ls at hl ⊢
  have hl : lv_has ls 3 [(0, .ref qc), (1, .int n1), (2, .int n2)] := hl
  generalize ([.ref qc, .int n1, .int n2] : List Value).toArray = args at hts ⊢
  have hw : ∀ w ∈ wsL_law, w.before args s = true := fun w h => hts w (List.mem_cons_of_mem _ h)
  refine pg_start (fun Q hQ => ?_)
  have RET : ∀ (H : Heap) (locs : List Loc) (ls : Array Slot) (pc : Nat) (v : Int32) , decode cX2_horseAt pc = .ok (.ireturn, 1) → va_P (dC, dI) vwCl (W_X2c_X0b cI cZ cII qc qc_who qc_pull qb qb_pull qb_strength qb_back qb_moods qb_tides qb_carts c_last c_who c_pull b_law b_places b_broad b_horses b_blinds b_besides b_tideCount b_cartCount b_due b_pairs b_pull b_strength b_back b_moods b_tides b_carts) H → va_D A (W_X2c_X0b cI cZ cII qc qc_who qc_pull qb qb_pull qb_strength qb_back qb_moods qb_tides qb_carts c_last c_who c_pull b_law b_places b_broad b_horses b_blinds b_besides b_tideCount b_cartCount b_due b_pairs b_pull b_strength b_back b_moods b_tides b_carts) → va_S A s.heap H locs → (some (v) : Option (Int32)) = some (rr) → W p l e rm_X2_horseAt s m args below meth c H locs 0 0 Q (F0 m pc ls [.int v]) := by
    intro H locs ls pc v hd hP hD hS he
    subst hAe; subst hQ
    obtain rfl := Option.some.inj he
    exact pg_iret hx hb hr hlocks hK hP hD hS hd
  unfold f_X2_horseAt at hf
  refine lv_iload_n hx hb dX2_horseAt_0 rfl (lv_at hl 1 rfl) ?_
  obtain ⟨r_1, hc, hf⟩ := bn1_s hf
  refine pg_cSi (As := [.int n1]) (rest := []) (wf := (W_X2c_X0b cI cZ cII qc qc_who qc_pull qb qb_pull qb_strength qb_back qb_moods qb_tides qb_carts c_last c_who c_pull b_law b_places b_broad b_horses b_blinds b_besides b_tideCount b_cartCount b_due b_pairs b_pull b_strength b_back b_moods b_tides b_carts)) ⟨hx, hb, hml, hown, hw⟩ (c_X2_isCrew l dC dI cI cZ cII  s.heap.size  n1 r_1 hc) (va_cwS 1 hts (wM_S mw_17_16 mw_17_17 mw_2_0 mw_17_18) rfl rfl rfl dk_X2_isCrew ⟨Nat.le_of_ble_eq_true rfl, Nat.le_of_ble_eq_true rfl⟩) hK hP hD hS hA [] [0, 1, 2, 3, 4, 5, 6, 7, 8, 9] [0, 1, 2, 3, 4, 5, 6, 7, 8, 9] (plC_4 cI cZ cII qc qc_who qc_pull qb qb_pull qb_strength qb_back qb_moods qb_tides qb_carts c_last c_who c_pull b_law b_places b_broad b_horses b_blinds b_besides b_tideCount b_cartCount b_due b_pairs b_pull b_strength b_back b_moods b_tides b_carts) rfl (plF_4 cI cZ cII qc qc_who qc_pull qb qb_pull qb_strength qb_back qb_moods qb_tides qb_carts c_last c_who c_pull b_law b_places b_broad b_horses b_blinds b_besides b_tideCount b_cartCount b_due b_pairs b_pull b_strength b_back b_moods b_tides b_carts ) (by decide) rfl hl.1 rfl (Nat.le_of_ble_eq_true rfl) dX2_horseAt_1 ⟨Nat.zero_le _, Nat.zero_le _⟩ (fun H locs hP hD hS => ?_)
  refine lv_if_eq (tgt := 29) hx hb dX2_horseAt_4 (by decide) (fun h9 => ?_) (fun h9 => ?_)
  · have hf := pg_t h9 hf
    refine lv_iconst (v := (-1 : Int32)) hx hb dX2_horseAt_29 (by decide) ?_
    exact RET _ _ _ _ _ dX2_horseAt_30 hP hD hS hf
  · have hf := pg_f h9 hf
    refine lv_iload_n hx hb dX2_horseAt_7 rfl (lv_at hl 2 rfl) ?_
    refine lv_if_lt (tgt := 29) hx hb dX2_horseAt_8 (by decide) (fun h9 => ?_) (fun h9 => ?_)
    · have hf := pg_t h9 hf
      refine lv_iconst (v := (-1 : Int32)) hx hb dX2_horseAt_29 (by decide) ?_
      exact RET _ _ _ _ _ dX2_horseAt_30 hP hD hS hf
    · have hf := pg_f h9 hf
      refine lv_iload_n hx hb dX2_horseAt_11 rfl (lv_at hl 2 rfl) ?_
      refine lv_iconst (v := (3 : Int32)) hx hb dX2_horseAt_12 (by decide) ?_
      refine lv_icmp_ge (tgt := 29) hx hb dX2_horseAt_13 (by decide) (fun h9 => ?_) (fun h9 => ?_)
      · have hf := pg_t h9 hf
        refine lv_iconst (v := (-1 : Int32)) hx hb dX2_horseAt_29 (by decide) ?_
        exact RET _ _ _ _ _ dX2_horseAt_30 hP hD hS hf
      · have hf := pg_f h9 hf
        refine lv_aload_n hx hb dX2_horseAt_16 rfl (lv_at hl 0 rfl) ?_
        refine va_get (D := (dC, dI)) (ci := 2) (v := .ref qc_who) (C := RX2) (T := TX2) (N := 4) hx hb hw inlX2 hown hK hP 0 rfl rfl 2 (by decide) (hw _ mw_3_19) (fun _ h9 => h9) rfl dX2_horseAt_17 ?_
        refine lv_iload_n hx hb dX2_horseAt_20 rfl (lv_at hl 1 rfl) ?_
        refine lv_iconst (v := (3 : Int32)) hx hb dX2_horseAt_21 (by decide) ?_
        refine lv_imul hx hb dX2_horseAt_22 ?_
        refine lv_iload_n hx hb dX2_horseAt_23 rfl (lv_at hl 2 rfl) ?_
        refine lv_iadd hx hb dX2_horseAt_24 ?_
        obtain ⟨hi2, hf⟩ := pg_chk hf
        refine va_iald hx hb hK hP 1 0 rfl rfl hi2 dX2_horseAt_25 ?_
        refine lv_goto (tgt := 30) hx hb dX2_horseAt_26 (by decide) ?_
        exact RET _ _ _ _ _ dX2_horseAt_30 hP hD hS hf
def f_X2_pullOtherwise (n1 : Int32) (n2 : Int32) (c_who : Nat → Int32) (c_pull : Nat → Int32) (b_horses : Int32) (b_blinds : Int32) (b_pull : Nat → Int32) (b_moods : Nat → Int32) : Option ((Nat → Int32)) :=
  bn1 (f_X2_placeOf n1 c_who) (fun (r_1 : Int32) =>
    if r_1 = (-1 : Int32) then
      some (c_pull)
    else
      bn1 (f_X2_horseAt (0 : Int32) (r_1 - (1 : Int32)) c_who) (fun (r_2 : Int32) =>
        bn1 (f_X2_horseAt (0 : Int32) (r_1 + (1 : Int32)) c_who) (fun (r_3 : Int32) =>
          bn1 (f_X0_pullBetween n1 n2 r_2 r_3 b_horses b_blinds b_pull b_moods) (fun (r_4 : Int32) =>
            if r_1 < 0 ∨ 687 ≤ (r_1).toNatClampNeg then none else
            some ((upd c_pull (r_1).toNatClampNeg r_4))
          )
        )
      )
  )
abbrev rm_X2_pullOtherwise : Room := { frames := 2, cells := 0, slots := 0, locals := 65 }
theorem dk_X2_pullOtherwise : yX2_pullOtherwise.cls = RX2 ∧ yX2_pullOtherwise.cls ≠ "java/lang/invoke/MethodHandle" ∧ yX2_pullOtherwise.cls ≠ "java/lang/invoke/VarHandle" ∧ (parseMethodDescriptor yX2_pullOtherwise.desc).map (fun d => d.parameters.length) = some 2 := by decide +kernel
set_option maxHeartbeats 4000000 in
set_option maxRecDepth 100000 in
theorem c_X2_pullOtherwise (l : Launch) (dC : Nat → ClassId) (dI : Nat → Nat → Nat) (cI cZ cII : ClassId) (qc qc_who qc_pull qb qb_pull qb_strength qb_back qb_moods qb_tides qb_carts : Nat) (sz : Nat) (c_last : Int32) (c_who : Nat → Int32) (c_pull : Nat → Int32) (b_law : Int32) (b_places : Int32) (b_broad : Int32) (b_horses : Int32) (b_blinds : Int32) (b_besides : Int32) (b_tideCount : Int32) (b_cartCount : Int32) (b_due : Int32) (b_pairs : Int64) (b_pull : Nat → Int32) (b_strength : Nat → Int32) (b_back : Nat → Int32) (b_moods : Nat → Int32) (b_tides : Nat → Int32) (b_carts : Nat → Int32) (n1 : Int32) (n2 : Int32) (c_pull' : Nat → Int32) (hf : f_X2_pullOtherwise n1 n2 c_who c_pull b_horses b_blinds b_pull b_moods = some (c_pull')) : Met l yX2_pullOtherwise (wM yX2_pullOtherwise cX2_pullOtherwise 4 none) rm_X2_pullOtherwise (PreW (dC, dI) (tyA cI cZ cII) (W_X2c_X0b cI cZ cII qc qc_who qc_pull qb qb_pull qb_strength qb_back qb_moods qb_tides qb_carts c_last c_who c_pull b_law b_places b_broad b_horses b_blinds b_besides b_tideCount b_cartCount b_due b_pairs b_pull b_strength b_back b_moods b_tides b_carts) sz [.ref qc, .int n1, .int n2]) (PostV (dC, dI) (tyA cI cZ cII) (W_X2c_X0b cI cZ cII qc qc_who qc_pull qb qb_pull qb_strength qb_back qb_moods qb_tides qb_carts c_last c_who c_pull b_law b_places b_broad b_horses b_blinds b_besides b_tideCount b_cartCount b_due b_pairs b_pull b_strength b_back b_moods b_tides b_carts) (W_X2c_X0b cI cZ cII qc qc_who qc_pull qb qb_pull qb_strength qb_back qb_moods qb_tides qb_carts c_last c_who c_pull' b_law b_places b_broad b_horses b_blinds b_besides b_tideCount b_cartCount b_due b_pairs b_pull b_strength b_back b_moods b_tides b_carts) sz) 0 0 (va_A (W_X2c_X0b cI cZ cII qc qc_who qc_pull qb qb_pull qb_strength qb_back qb_moods qb_tides qb_carts c_last c_who c_pull b_law b_places b_broad b_horses b_blinds b_besides b_tideCount b_cartCount b_due b_pairs b_pull b_strength b_back b_moods b_tides b_carts) sz) := by
  refine Met.ofW (cc := cX2_pullOtherwise) (maxL := 4) (ret := none) (by decide) rfl ?_
  intro p e s m args below meth c s₁ B hml hv
  obtain ⟨rfl, hsz, hP, hK, hD0⟩ := hv
  have hx := B.exec
  have hb := B.bytes
  have hr := B.returns
  have hts := atoms_spec (ws := wM yX2_pullOtherwise cX2_pullOtherwise 4 none) B.pre
  have hown : s.vm.findClass RX2 = some m.cls := findClass_of_methodNamed B.named
  have hlocks := B.notSynchronized
  subst hsz
  have hD := hD0.self (sz := s.heap.size)
  obtain ⟨A, hAe⟩ : ∃ A, A = va_A (W_X2c_X0b cI cZ cII qc qc_who qc_pull qb qb_pull qb_strength qb_back qb_moods qb_tides qb_carts c_last c_who c_pull b_law b_places b_broad b_horses b_blinds b_besides b_tideCount b_cartCount b_due b_pairs b_pull b_strength b_back b_moods b_tides b_carts) s.heap.size := ⟨_, rfl⟩
  rw [← hAe] at hD
  have hA : ∀ q : Nat, s.heap.size ≤ q → A q := fun q h => by rw [hAe]; exact Or.inr h
  have hS : va_S A s.heap s.heap [] := va_S.rf
  have hl := lv_entry ([.ref qc, .int n1, .int n2]) (n := 4) (Nat.le_of_ble_eq_true rfl)
  rw [lg_entry_eq]
  generalize (lg_sl ([.ref qc, .int n1, .int n2]) ++ List.replicate (4 - (lg_sl ([.ref qc, .int n1, .int n2])).length) Slot.unset).toArray = ls at hl ⊢
  have hl : lv_has ls 4 [(0, .ref qc), (1, .int n1), (2, .int n2)] := hl
  generalize ([.ref qc, .int n1, .int n2] : List Value).toArray = args at hts ⊢
  have hw : ∀ w ∈ wsL_law, w.before args s = true := fun w h => hts w (List.mem_cons_of_mem _ h)
  refine pg_start (fun Q hQ => ?_)
  have RET : ∀ (H : Heap) (locs : List Loc) (ls : Array Slot) (pc : Nat) (x0 : Nat → Int32) , decode cX2_pullOtherwise pc = .ok (.return_, 1) → va_P (dC, dI) vwCl (W_X2c_X0b cI cZ cII qc qc_who qc_pull qb qb_pull qb_strength qb_back qb_moods qb_tides qb_carts c_last c_who x0 b_law b_places b_broad b_horses b_blinds b_besides b_tideCount b_cartCount b_due b_pairs b_pull b_strength b_back b_moods b_tides b_carts) H → va_D A (W_X2c_X0b cI cZ cII qc qc_who qc_pull qb qb_pull qb_strength qb_back qb_moods qb_tides qb_carts c_last c_who x0 b_law b_places b_broad b_horses b_blinds b_besides b_tideCount b_cartCount b_due b_pairs b_pull b_strength b_back b_moods b_tides b_carts) → va_S A s.heap H locs → (some (x0) : Option ((Nat → Int32))) = some (c_pull') → W p l e rm_X2_pullOtherwise s m args below meth c H locs 0 0 Q (F0 m pc ls []) := by
    intro H locs ls pc x0 hd hP hD hS he
    subst hAe; subst hQ
    obtain rfl := Option.some.inj he
    exact pg_vret hx hb hr hlocks hK hP hD hS hd
  unfold f_X2_pullOtherwise at hf
  refine lv_aload_n hx hb dX2_pullOtherwise_0 rfl (lv_at hl 0 rfl) ?_
  refine lv_iload_n hx hb dX2_pullOtherwise_1 rfl (lv_at hl 1 rfl) ?_
  obtain ⟨r_1, hc, hf⟩ := bn1_s hf
  refine pg_cVi (As := [.int n1]) (rest := []) (wf := (W_X2c_X0b cI cZ cII qc qc_who qc_pull qb qb_pull qb_strength qb_back qb_moods qb_tides qb_carts c_last c_who c_pull b_law b_places b_broad b_horses b_blinds b_besides b_tideCount b_cartCount b_due b_pairs b_pull b_strength b_back b_moods b_tides b_carts)) ⟨hx, hb, hml, hown, hw⟩ (c_X2_placeOf l dC dI cI cZ cII qc qc_who qc_pull qb qb_pull qb_strength qb_back qb_moods qb_tides qb_carts s.heap.size c_last c_who c_pull b_law b_places b_broad b_horses b_blinds b_besides b_tideCount b_cartCount b_due b_pairs b_pull b_strength b_back b_moods b_tides b_carts n1 r_1 hc) (cwV 1 hts (wM_V mw_44_2 mw_44_3 mw_44_4 mw_2_0 mw_44_5) rfl rfl rfl dk_X2_placeOf ⟨Nat.le_of_ble_eq_true rfl, Nat.le_of_ble_eq_true rfl⟩) hK hP hD hS hA 2 0 rfl rfl rfl [0, 1, 2, 3, 4, 5, 6, 7, 8, 9] [] [0, 1, 2, 3, 4, 5, 6, 7, 8, 9] (plC_5 cI cZ cII qc qc_who qc_pull qb qb_pull qb_strength qb_back qb_moods qb_tides qb_carts c_last c_who c_pull b_law b_places b_broad b_horses b_blinds b_besides b_tideCount b_cartCount b_due b_pairs b_pull b_strength b_back b_moods b_tides b_carts) rfl (plF_5 cI cZ cII qc qc_who qc_pull qb qb_pull qb_strength qb_back qb_moods qb_tides qb_carts c_last c_who c_pull b_law b_places b_broad b_horses b_blinds b_besides b_tideCount b_cartCount b_due b_pairs b_pull b_strength b_back b_moods b_tides b_carts c_last c_who c_pull b_law b_places b_broad b_horses b_blinds b_besides b_tideCount b_cartCount b_due b_pairs b_pull b_strength b_back b_moods b_tides b_carts) (by decide) rfl hl.1 rfl (Nat.le_of_ble_eq_true rfl) dX2_pullOtherwise_2 ⟨Nat.zero_le _, Nat.zero_le _⟩ (fun H locs hP hD hS => ?_)
  refine lv_istore_n (lv' := [(3, .int r_1), (0, .ref qc), (1, .int n1), (2, .int n2)]) hx hb dX2_pullOtherwise_5 rfl hl (by decide) rfl (fun ls hl => ?_)
  refine lv_iload_n hx hb dX2_pullOtherwise_6 rfl (lv_at hl 0 rfl) ?_
  refine lv_iconst (v := (-1 : Int32)) hx hb dX2_pullOtherwise_7 (by decide) ?_
  refine lv_icmp_eq (tgt := 42) hx hb dX2_pullOtherwise_8 (by decide) (fun h9 => ?_) (fun h9 => ?_)
  · have hf := pg_t h9 hf
    exact RET _ _ _ _ _ dX2_pullOtherwise_42 hP hD hS hf
  · have hf := pg_f h9 hf
    refine lv_aload_n hx hb dX2_pullOtherwise_11 rfl (lv_at hl 1 rfl) ?_
    refine va_get (D := (dC, dI)) (ci := 2) (v := .ref qc_pull) (C := RX2) (T := TX2) (N := 4) hx hb hw inlX2 hown hK hP 0 rfl rfl 3 (by decide) (hw _ mw_3_20) (fun _ h9 => h9) rfl dX2_pullOtherwise_12 ?_
    refine lv_iload_n hx hb dX2_pullOtherwise_15 rfl (lv_at hl 0 rfl) ?_
    refine lv_aload_n hx hb dX2_pullOtherwise_16 rfl (lv_at hl 1 rfl) ?_
    refine va_get (D := (dC, dI)) (ci := 2) (v := .ref qb) (C := RX2) (T := TX2) (N := 4) hx hb hw inlX2 hown hK hP 0 rfl rfl 1 (by decide) (hw _ mw_3_21) (fun _ h9 => h9) rfl dX2_pullOtherwise_17 ?_
    refine lv_iload_n hx hb dX2_pullOtherwise_20 rfl (lv_at hl 2 rfl) ?_
    refine lv_iload_n hx hb dX2_pullOtherwise_21 rfl (lv_at hl 3 rfl) ?_
    refine lv_aload_n hx hb dX2_pullOtherwise_22 rfl (lv_at hl 1 rfl) ?_
    refine lv_iconst (v := (0 : Int32)) hx hb dX2_pullOtherwise_23 (by decide) ?_
    refine lv_iload_n hx hb dX2_pullOtherwise_24 rfl (lv_at hl 0 rfl) ?_
    refine lv_iconst (v := (1 : Int32)) hx hb dX2_pullOtherwise_25 (by decide) ?_
    refine lv_isub hx hb dX2_pullOtherwise_26 ?_
    obtain ⟨r_2, hc, hf⟩ := bn1_s hf
    refine pg_cVi (As := [.int (0 : Int32), .int (r_1 - (1 : Int32))]) (rest := [.int n2, .int n1, .ref qb, .int r_1, .ref qc_pull]) (wf := (W_X2c_X0b cI cZ cII qc qc_who qc_pull qb qb_pull qb_strength qb_back qb_moods qb_tides qb_carts c_last c_who c_pull b_law b_places b_broad b_horses b_blinds b_besides b_tideCount b_cartCount b_due b_pairs b_pull b_strength b_back b_moods b_tides b_carts)) ⟨hx, hb, hml, hown, hw⟩ (c_X2_horseAt l dC dI cI cZ cII qc qc_who qc_pull qb qb_pull qb_strength qb_back qb_moods qb_tides qb_carts H.size c_last c_who c_pull b_law b_places b_broad b_horses b_blinds b_besides b_tideCount b_cartCount b_due b_pairs b_pull b_strength b_back b_moods b_tides b_carts (0 : Int32) (r_1 - (1 : Int32)) r_2 hc) (cwV 2 hts (wM_V mw_30_7 mw_30_8 mw_30_9 mw_2_0 mw_30_10) rfl rfl rfl dk_X2_horseAt ⟨Nat.le_of_ble_eq_true rfl, Nat.le_of_ble_eq_true rfl⟩) hK hP hD hS hA 2 0 rfl rfl rfl [0, 1, 2, 3, 4, 5, 6, 7, 8, 9] [] [0, 1, 2, 3, 4, 5, 6, 7, 8, 9] (plC_5 cI cZ cII qc qc_who qc_pull qb qb_pull qb_strength qb_back qb_moods qb_tides qb_carts c_last c_who c_pull b_law b_places b_broad b_horses b_blinds b_besides b_tideCount b_cartCount b_due b_pairs b_pull b_strength b_back b_moods b_tides b_carts) rfl (plF_5 cI cZ cII qc qc_who qc_pull qb qb_pull qb_strength qb_back qb_moods qb_tides qb_carts c_last c_who c_pull b_law b_places b_broad b_horses b_blinds b_besides b_tideCount b_cartCount b_due b_pairs b_pull b_strength b_back b_moods b_tides b_carts c_last c_who c_pull b_law b_places b_broad b_horses b_blinds b_besides b_tideCount b_cartCount b_due b_pairs b_pull b_strength b_back b_moods b_tides b_carts) (by decide) rfl hl.1 rfl (Nat.le_of_ble_eq_true rfl) dX2_pullOtherwise_27 ⟨Nat.zero_le _, Nat.zero_le _⟩ (fun H locs hP hD hS => ?_)
    refine lv_aload_n hx hb dX2_pullOtherwise_30 rfl (lv_at hl 1 rfl) ?_
    refine lv_iconst (v := (0 : Int32)) hx hb dX2_pullOtherwise_31 (by decide) ?_
    refine lv_iload_n hx hb dX2_pullOtherwise_32 rfl (lv_at hl 0 rfl) ?_
    refine lv_iconst (v := (1 : Int32)) hx hb dX2_pullOtherwise_33 (by decide) ?_
    refine lv_iadd hx hb dX2_pullOtherwise_34 ?_
    obtain ⟨r_3, hc, hf⟩ := bn1_s hf
    refine pg_cVi (As := [.int (0 : Int32), .int (r_1 + (1 : Int32))]) (rest := [.int r_2, .int n2, .int n1, .ref qb, .int r_1, .ref qc_pull]) (wf := (W_X2c_X0b cI cZ cII qc qc_who qc_pull qb qb_pull qb_strength qb_back qb_moods qb_tides qb_carts c_last c_who c_pull b_law b_places b_broad b_horses b_blinds b_besides b_tideCount b_cartCount b_due b_pairs b_pull b_strength b_back b_moods b_tides b_carts)) ⟨hx, hb, hml, hown, hw⟩ (c_X2_horseAt l dC dI cI cZ cII qc qc_who qc_pull qb qb_pull qb_strength qb_back qb_moods qb_tides qb_carts H.size c_last c_who c_pull b_law b_places b_broad b_horses b_blinds b_besides b_tideCount b_cartCount b_due b_pairs b_pull b_strength b_back b_moods b_tides b_carts (0 : Int32) (r_1 + (1 : Int32)) r_3 hc) (cwV 2 hts (wM_V mw_30_7 mw_30_8 mw_30_9 mw_2_0 mw_30_10) rfl rfl rfl dk_X2_horseAt ⟨Nat.le_of_ble_eq_true rfl, Nat.le_of_ble_eq_true rfl⟩) hK hP hD hS hA 2 0 rfl rfl rfl [0, 1, 2, 3, 4, 5, 6, 7, 8, 9] [] [0, 1, 2, 3, 4, 5, 6, 7, 8, 9] (plC_5 cI cZ cII qc qc_who qc_pull qb qb_pull qb_strength qb_back qb_moods qb_tides qb_carts c_last c_who c_pull b_law b_places b_broad b_horses b_blinds b_besides b_tideCount b_cartCount b_due b_pairs b_pull b_strength b_back b_moods b_tides b_carts) rfl (plF_5 cI cZ cII qc qc_who qc_pull qb qb_pull qb_strength qb_back qb_moods qb_tides qb_carts c_last c_who c_pull b_law b_places b_broad b_horses b_blinds b_besides b_tideCount b_cartCount b_due b_pairs b_pull b_strength b_back b_moods b_tides b_carts c_last c_who c_pull b_law b_places b_broad b_horses b_blinds b_besides b_tideCount b_cartCount b_due b_pairs b_pull b_strength b_back b_moods b_tides b_carts) (by decide) rfl hl.1 rfl (Nat.le_of_ble_eq_true rfl) dX2_pullOtherwise_35 ⟨Nat.zero_le _, Nat.zero_le _⟩ (fun H locs hP hD hS => ?_)
    obtain ⟨r_4, hc, hf⟩ := bn1_s hf
    refine pg_cVi (As := [.int n1, .int n2, .int r_2, .int r_3]) (rest := [.int r_1, .ref qc_pull]) (wf := (W_X2c_X0b cI cZ cII qc qc_who qc_pull qb qb_pull qb_strength qb_back qb_moods qb_tides qb_carts c_last c_who c_pull b_law b_places b_broad b_horses b_blinds b_besides b_tideCount b_cartCount b_due b_pairs b_pull b_strength b_back b_moods b_tides b_carts)) ⟨hx, hb, hml, hown, hw⟩ (c_X0_pullBetween l dC dI cI cZ cII qb qb_pull qb_strength qb_back qb_moods qb_tides qb_carts H.size b_law b_places b_broad b_horses b_blinds b_besides b_tideCount b_cartCount b_due b_pairs b_pull b_strength b_back b_moods b_tides b_carts n1 n2 r_2 r_3 r_4 hc) (cwV 4 hts (wM_V mw_17_19 mw_17_20 mw_17_21 mw_1_15 mw_17_22) rfl rfl rfl dk_X0_pullBetween ⟨Nat.le_of_ble_eq_true rfl, Nat.le_of_ble_eq_true rfl⟩) hK hP hD hS hA 0 0 rfl rfl rfl [3, 4, 5, 6, 7, 8, 9] [0, 1, 2] [0, 1, 2, 3, 4, 5, 6, 7, 8, 9] (plC_3 cI cZ cII qc qc_who qc_pull qb qb_pull qb_strength qb_back qb_moods qb_tides qb_carts c_last c_who c_pull b_law b_places b_broad b_horses b_blinds b_besides b_tideCount b_cartCount b_due b_pairs b_pull b_strength b_back b_moods b_tides b_carts) rfl (plF_3 cI cZ cII qc qc_who qc_pull qb qb_pull qb_strength qb_back qb_moods qb_tides qb_carts c_last c_who c_pull b_law b_places b_broad b_horses b_blinds b_besides b_tideCount b_cartCount b_due b_pairs b_pull b_strength b_back b_moods b_tides b_carts b_law b_places b_broad b_horses b_blinds b_besides b_tideCount b_cartCount b_due b_pairs b_pull b_strength b_back b_moods b_tides b_carts) (by decide) rfl hl.1 rfl (Nat.le_of_ble_eq_true rfl) dX2_pullOtherwise_38 ⟨Nat.zero_le _, Nat.zero_le _⟩ (fun H locs hP hD hS => ?_)
    obtain ⟨hi5, hf⟩ := pg_chk hf
    refine va_iast hx hb hK hP hD hS 2 0 rfl rfl hi5 dX2_pullOtherwise_41 (fun H locs hP hD hS => ?_)
    have hP : va_P (dC, dI) vwCl (W_X2c_X0b cI cZ cII qc qc_who qc_pull qb qb_pull qb_strength qb_back qb_moods qb_tides qb_carts c_last c_who (upd c_pull (r_1).toNatClampNeg r_4) b_law b_places b_broad b_horses b_blinds b_besides b_tideCount b_cartCount b_due b_pairs b_pull b_strength b_back b_moods b_tides b_carts) H := hP
    have hD : va_D A (W_X2c_X0b cI cZ cII qc qc_who qc_pull qb qb_pull qb_strength qb_back qb_moods qb_tides qb_carts c_last c_who (upd c_pull (r_1).toNatClampNeg r_4) b_law b_places b_broad b_horses b_blinds b_besides b_tideCount b_cartCount b_due b_pairs b_pull b_strength b_back b_moods b_tides b_carts) := hD
    exact RET _ _ _ _ _ dX2_pullOtherwise_42 hP hD hS hf
def f_X2_pullHalf (n1 : Int32) (c_who : Nat → Int32) (c_pull : Nat → Int32) : Option ((Nat → Int32)) :=
  bn1 (f_X2_placeOf n1 c_who) (fun (r_1 : Int32) =>
    if r_1 = (-1 : Int32) then
      some (c_pull)
    else
      if r_1 < 0 ∨ 687 ≤ (r_1).toNatClampNeg then none else
      some ((upd c_pull (r_1).toNatClampNeg ((c_pull (r_1).toNatClampNeg) / (2 : Int32))))
  )
abbrev rm_X2_pullHalf : Room := { frames := 1, cells := 0, slots := 0, locals := 22 }
theorem dk_X2_pullHalf : yX2_pullHalf.cls = RX2 ∧ yX2_pullHalf.cls ≠ "java/lang/invoke/MethodHandle" ∧ yX2_pullHalf.cls ≠ "java/lang/invoke/VarHandle" ∧ (parseMethodDescriptor yX2_pullHalf.desc).map (fun d => d.parameters.length) = some 1 := by decide +kernel
set_option maxHeartbeats 4000000 in
set_option maxRecDepth 100000 in
theorem c_X2_pullHalf (l : Launch) (dC : Nat → ClassId) (dI : Nat → Nat → Nat) (cI cZ cII : ClassId) (qc qc_who qc_pull qb qb_pull qb_strength qb_back qb_moods qb_tides qb_carts : Nat) (sz : Nat) (c_last : Int32) (c_who : Nat → Int32) (c_pull : Nat → Int32) (b_law : Int32) (b_places : Int32) (b_broad : Int32) (b_horses : Int32) (b_blinds : Int32) (b_besides : Int32) (b_tideCount : Int32) (b_cartCount : Int32) (b_due : Int32) (b_pairs : Int64) (b_pull : Nat → Int32) (b_strength : Nat → Int32) (b_back : Nat → Int32) (b_moods : Nat → Int32) (b_tides : Nat → Int32) (b_carts : Nat → Int32) (n1 : Int32) (c_pull' : Nat → Int32) (hf : f_X2_pullHalf n1 c_who c_pull = some (c_pull')) : Met l yX2_pullHalf (wM yX2_pullHalf cX2_pullHalf 3 none) rm_X2_pullHalf (PreW (dC, dI) (tyA cI cZ cII) (W_X2c_X0b cI cZ cII qc qc_who qc_pull qb qb_pull qb_strength qb_back qb_moods qb_tides qb_carts c_last c_who c_pull b_law b_places b_broad b_horses b_blinds b_besides b_tideCount b_cartCount b_due b_pairs b_pull b_strength b_back b_moods b_tides b_carts) sz [.ref qc, .int n1]) (PostV (dC, dI) (tyA cI cZ cII) (W_X2c_X0b cI cZ cII qc qc_who qc_pull qb qb_pull qb_strength qb_back qb_moods qb_tides qb_carts c_last c_who c_pull b_law b_places b_broad b_horses b_blinds b_besides b_tideCount b_cartCount b_due b_pairs b_pull b_strength b_back b_moods b_tides b_carts) (W_X2c_X0b cI cZ cII qc qc_who qc_pull qb qb_pull qb_strength qb_back qb_moods qb_tides qb_carts c_last c_who c_pull' b_law b_places b_broad b_horses b_blinds b_besides b_tideCount b_cartCount b_due b_pairs b_pull b_strength b_back b_moods b_tides b_carts) sz) 0 0 (va_A (W_X2c_X0b cI cZ cII qc qc_who qc_pull qb qb_pull qb_strength qb_back qb_moods qb_tides qb_carts c_last c_who c_pull b_law b_places b_broad b_horses b_blinds b_besides b_tideCount b_cartCount b_due b_pairs b_pull b_strength b_back b_moods b_tides b_carts) sz) := by
  refine Met.ofW (cc := cX2_pullHalf) (maxL := 3) (ret := none) (by decide) rfl ?_
  intro p e s m args below meth c s₁ B hml hv
  obtain ⟨rfl, hsz, hP, hK, hD0⟩ := hv
  have hx := B.exec
  have hb := B.bytes
  have hr := B.returns
  have hts := atoms_spec (ws := wM yX2_pullHalf cX2_pullHalf 3 none) B.pre
  have hown : s.vm.findClass RX2 = some m.cls := findClass_of_methodNamed B.named
  have hlocks := B.notSynchronized
  subst hsz
  have hD := hD0.self (sz := s.heap.size)
  obtain ⟨A, hAe⟩ : ∃ A, A = va_A (W_X2c_X0b cI cZ cII qc qc_who qc_pull qb qb_pull qb_strength qb_back qb_moods qb_tides qb_carts c_last c_who c_pull b_law b_places b_broad b_horses b_blinds b_besides b_tideCount b_cartCount b_due b_pairs b_pull b_strength b_back b_moods b_tides b_carts) s.heap.size := ⟨_, rfl⟩
  rw [← hAe] at hD
  have hA : ∀ q : Nat, s.heap.size ≤ q → A q := fun q h => by rw [hAe]; exact Or.inr h
  have hS : va_S A s.heap s.heap [] := va_S.rf
  have hl := lv_entry ([.ref qc, .int n1]) (n := 3) (Nat.le_of_ble_eq_true rfl)
  rw [lg_entry_eq]
  generalize (lg_sl ([.ref qc, .int n1]) ++ List.replicate (3 - (lg_sl ([.ref qc, .int n1])).length) Slot.unset).toArray = ls at hl ⊢
  have hl : lv_has ls 3 [(0, .ref qc), (1, .int n1)] := hl
  generalize ([.ref qc, .int n1] : List Value).toArray = args at hts ⊢
  have hw : ∀ w ∈ wsL_law, w.before args s = true := fun w h => hts w (List.mem_cons_of_mem _ h)
  refine pg_start (fun Q hQ => ?_)
  have RET : ∀ (H : Heap) (locs : List Loc) (ls : Array Slot) (pc : Nat) (x0 : Nat → Int32) , decode cX2_pullHalf pc = .ok (.return_, 1) → va_P (dC, dI) vwCl (W_X2c_X0b cI cZ cII qc qc_who qc_pull qb qb_pull qb_strength qb_back qb_moods qb_tides qb_carts c_last c_who x0 b_law b_places b_broad b_horses b_blinds b_besides b_tideCount b_cartCount b_due b_pairs b_pull b_strength b_back b_moods b_tides b_carts) H → va_D A (W_X2c_X0b cI cZ cII qc qc_who qc_pull qb qb_pull qb_strength qb_back qb_moods qb_tides qb_carts c_last c_who x0 b_law b_places b_broad b_horses b_blinds b_besides b_tideCount b_cartCount b_due b_pairs b_pull b_strength b_back b_moods b_tides b_carts) → va_S A s.heap H locs → (some (x0) : Option ((Nat → Int32))) = some (c_pull') → W p l e rm_X2_pullHalf s m args below meth c H locs 0 0 Q (F0 m pc ls []) := by
    intro H locs ls pc x0 hd hP hD hS he
    subst hAe; subst hQ
    obtain rfl := Option.some.inj he
    exact pg_vret hx hb hr hlocks hK hP hD hS hd
  unfold f_X2_pullHalf at hf
  refine lv_aload_n hx hb dX2_pullHalf_0 rfl (lv_at hl 0 rfl) ?_
  refine lv_iload_n hx hb dX2_pullHalf_1 rfl (lv_at hl 1 rfl) ?_
  obtain ⟨r_1, hc, hf⟩ := bn1_s hf
  refine pg_cVi (As := [.int n1]) (rest := []) (wf := (W_X2c_X0b cI cZ cII qc qc_who qc_pull qb qb_pull qb_strength qb_back qb_moods qb_tides qb_carts c_last c_who c_pull b_law b_places b_broad b_horses b_blinds b_besides b_tideCount b_cartCount b_due b_pairs b_pull b_strength b_back b_moods b_tides b_carts)) ⟨hx, hb, hml, hown, hw⟩ (c_X2_placeOf l dC dI cI cZ cII qc qc_who qc_pull qb qb_pull qb_strength qb_back qb_moods qb_tides qb_carts s.heap.size c_last c_who c_pull b_law b_places b_broad b_horses b_blinds b_besides b_tideCount b_cartCount b_due b_pairs b_pull b_strength b_back b_moods b_tides b_carts n1 r_1 hc) (cwV 1 hts (wM_V mw_44_2 mw_44_3 mw_44_4 mw_2_0 mw_44_5) rfl rfl rfl dk_X2_placeOf ⟨Nat.le_of_ble_eq_true rfl, Nat.le_of_ble_eq_true rfl⟩) hK hP hD hS hA 2 0 rfl rfl rfl [0, 1, 2, 3, 4, 5, 6, 7, 8, 9] [] [0, 1, 2, 3, 4, 5, 6, 7, 8, 9] (plC_5 cI cZ cII qc qc_who qc_pull qb qb_pull qb_strength qb_back qb_moods qb_tides qb_carts c_last c_who c_pull b_law b_places b_broad b_horses b_blinds b_besides b_tideCount b_cartCount b_due b_pairs b_pull b_strength b_back b_moods b_tides b_carts) rfl (plF_5 cI cZ cII qc qc_who qc_pull qb qb_pull qb_strength qb_back qb_moods qb_tides qb_carts c_last c_who c_pull b_law b_places b_broad b_horses b_blinds b_besides b_tideCount b_cartCount b_due b_pairs b_pull b_strength b_back b_moods b_tides b_carts c_last c_who c_pull b_law b_places b_broad b_horses b_blinds b_besides b_tideCount b_cartCount b_due b_pairs b_pull b_strength b_back b_moods b_tides b_carts) (by decide) rfl hl.1 rfl (Nat.le_of_ble_eq_true rfl) dX2_pullHalf_2 ⟨Nat.zero_le _, Nat.zero_le _⟩ (fun H locs hP hD hS => ?_)
  refine lv_istore_n (lv' := [(2, .int r_1), (0, .ref qc), (1, .int n1)]) hx hb dX2_pullHalf_5 rfl hl (by decide) rfl (fun ls hl => ?_)
  refine lv_iload_n hx hb dX2_pullHalf_6 rfl (lv_at hl 0 rfl) ?_
  refine lv_iconst (v := (-1 : Int32)) hx hb dX2_pullHalf_7 (by decide) ?_
  refine lv_icmp_eq (tgt := 21) hx hb dX2_pullHalf_8 (by decide) (fun h9 => ?_) (fun h9 => ?_)
  · have hf := pg_t h9 hf
    exact RET _ _ _ _ _ dX2_pullHalf_21 hP hD hS hf
  · have hf := pg_f h9 hf
    refine lv_aload_n hx hb dX2_pullHalf_11 rfl (lv_at hl 1 rfl) ?_
    refine va_get (D := (dC, dI)) (ci := 2) (v := .ref qc_pull) (C := RX2) (T := TX2) (N := 4) hx hb hw inlX2 hown hK hP 0 rfl rfl 3 (by decide) (hw _ mw_3_20) (fun _ h9 => h9) rfl dX2_pullHalf_12 ?_
    refine lv_iload_n hx hb dX2_pullHalf_15 rfl (lv_at hl 0 rfl) ?_
    refine lv_dup2_11 hx hb dX2_pullHalf_16 rfl rfl ?_
    obtain ⟨hi2, hf⟩ := pg_chk hf
    refine va_iald hx hb hK hP 2 0 rfl rfl hi2 dX2_pullHalf_17 ?_
    refine lv_iconst (v := (2 : Int32)) hx hb dX2_pullHalf_18 (by decide) ?_
    refine lv_idiv hx hb dX2_pullHalf_19 (by decide) ?_
    refine va_iast hx hb hK hP hD hS 2 0 rfl rfl hi2 dX2_pullHalf_20 (fun H locs hP hD hS => ?_)
    have hP : va_P (dC, dI) vwCl (W_X2c_X0b cI cZ cII qc qc_who qc_pull qb qb_pull qb_strength qb_back qb_moods qb_tides qb_carts c_last c_who (upd c_pull (r_1).toNatClampNeg ((c_pull (r_1).toNatClampNeg) / (2 : Int32))) b_law b_places b_broad b_horses b_blinds b_besides b_tideCount b_cartCount b_due b_pairs b_pull b_strength b_back b_moods b_tides b_carts) H := hP
    have hD : va_D A (W_X2c_X0b cI cZ cII qc qc_who qc_pull qb qb_pull qb_strength qb_back qb_moods qb_tides qb_carts c_last c_who (upd c_pull (r_1).toNatClampNeg ((c_pull (r_1).toNatClampNeg) / (2 : Int32))) b_law b_places b_broad b_horses b_blinds b_besides b_tideCount b_cartCount b_due b_pairs b_pull b_strength b_back b_moods b_tides b_carts) := hD
    exact RET _ _ _ _ _ dX2_pullHalf_21 hP hD hS hf
def f_X2_pullAt (n1 : Int32) (n2 : Int32) (c_pull : Nat → Int32) : Option (Int32) :=
  bn1 (f_X2_isCrew n1) (fun (r_1 : Int32) =>
    if r_1 = 0 then
      some ((0 : Int32))
    else
      if n2 < 0 then
        some ((0 : Int32))
      else
        if (3 : Int32) ≤ n2 then
          some ((0 : Int32))
        else
          if ((n1 * (3 : Int32)) + n2) < 0 ∨ 687 ≤ (((n1 * (3 : Int32)) + n2)).toNatClampNeg then none else
          some ((c_pull (((n1 * (3 : Int32)) + n2)).toNatClampNeg))
  )
abbrev rm_X2_pullAt : Room := { frames := 1, cells := 0, slots := 0, locals := 20 }
theorem dk_X2_pullAt : yX2_pullAt.cls = RX2 ∧ yX2_pullAt.cls ≠ "java/lang/invoke/MethodHandle" ∧ yX2_pullAt.cls ≠ "java/lang/invoke/VarHandle" ∧ (parseMethodDescriptor yX2_pullAt.desc).map (fun d => d.parameters.length) = some 2 := by decide +kernel
set_option maxHeartbeats 4000000 in
set_option maxRecDepth 100000 in
theorem c_X2_pullAt (l : Launch) (dC : Nat → ClassId) (dI : Nat → Nat → Nat) (cI cZ cII : ClassId) (qc qc_who qc_pull qb qb_pull qb_strength qb_back qb_moods qb_tides qb_carts : Nat) (sz : Nat) (c_last : Int32) (c_who : Nat → Int32) (c_pull : Nat → Int32) (b_law : Int32) (b_places : Int32) (b_broad : Int32) (b_horses : Int32) (b_blinds : Int32) (b_besides : Int32) (b_tideCount : Int32) (b_cartCount : Int32) (b_due : Int32) (b_pairs : Int64) (b_pull : Nat → Int32) (b_strength : Nat → Int32) (b_back : Nat → Int32) (b_moods : Nat → Int32) (b_tides : Nat → Int32) (b_carts : Nat → Int32) (n1 : Int32) (n2 : Int32) (rr : Int32) (hf : f_X2_pullAt n1 n2 c_pull = some (rr)) : Met l yX2_pullAt (wM yX2_pullAt cX2_pullAt 3 (some .int)) rm_X2_pullAt (PreW (dC, dI) (tyA cI cZ cII) (W_X2c_X0b cI cZ cII qc qc_who qc_pull qb qb_pull qb_strength qb_back qb_moods qb_tides qb_carts c_last c_who c_pull b_law b_places b_broad b_horses b_blinds b_besides b_tideCount b_cartCount b_due b_pairs b_pull b_strength b_back b_moods b_tides b_carts) sz [.ref qc, .int n1, .int n2]) (PostI (dC, dI) (tyA cI cZ cII) rr (W_X2c_X0b cI cZ cII qc qc_who qc_pull qb qb_pull qb_strength qb_back qb_moods qb_tides qb_carts c_last c_who c_pull b_law b_places b_broad b_horses b_blinds b_besides b_tideCount b_cartCount b_due b_pairs b_pull b_strength b_back b_moods b_tides b_carts) (W_X2c_X0b cI cZ cII qc qc_who qc_pull qb qb_pull qb_strength qb_back qb_moods qb_tides qb_carts c_last c_who c_pull b_law b_places b_broad b_horses b_blinds b_besides b_tideCount b_cartCount b_due b_pairs b_pull b_strength b_back b_moods b_tides b_carts) sz) 0 0 (va_A (W_X2c_X0b cI cZ cII qc qc_who qc_pull qb qb_pull qb_strength qb_back qb_moods qb_tides qb_carts c_last c_who c_pull b_law b_places b_broad b_horses b_blinds b_besides b_tideCount b_cartCount b_due b_pairs b_pull b_strength b_back b_moods b_tides b_carts) sz) := by
  refine Met.ofW (cc := cX2_pullAt) (maxL := 3) (ret := (some .int)) (by decide) rfl ?_
  intro p e s m args below meth c s₁ B hml hv
  obtain ⟨rfl, hsz, hP, hK, hD0⟩ := hv
  have hx := B.exec
  have hb := B.bytes
  have hr := B.returns
  have hts := atoms_spec (ws := wM yX2_pullAt cX2_pullAt 3 (some .int)) B.pre
  have hown : s.vm.findClass RX2 = some m.cls := findClass_of_methodNamed B.named
  have hlocks := B.notSynchronized
  subst hsz
  have hD := hD0.self (sz := s.heap.size)
  obtain ⟨A, hAe⟩ : ∃ A, A = va_A (W_X2c_X0b cI cZ cII qc qc_who qc_pull qb qb_pull qb_strength qb_back qb_moods qb_tides qb_carts c_last c_who c_pull b_law b_places b_broad b_horses b_blinds b_besides b_tideCount b_cartCount b_due b_pairs b_pull b_strength b_back b_moods b_tides b_carts) s.heap.size := ⟨_, rfl⟩
  rw [← hAe] at hD
  have hA : ∀ q : Nat, s.heap.size ≤ q → A q := fun q h => by rw [hAe]; exact Or.inr h
  have hS : va_S A s.heap s.heap [] := va_S.rf
  have hl := lv_entry ([.ref qc, .int n1, .int n2]) (n := 3) (Nat.le_of_ble_eq_true rfl)
  rw [lg_entry_eq]
  generalize (lg_sl ([.ref qc, .int n1, .int n2]) ++ List.replicate (3 - (lg_sl ([.ref qc, .int n1, .int n2])).length) Slot.unset).toArray = ls at hl ⊢
  have hl : lv_has ls 3 [(0, .ref qc), (1, .int n1), (2, .int n2)] := hl
  generalize ([.ref qc, .int n1, .int n2] : List Value).toArray = args at hts ⊢
  have hw : ∀ w ∈ wsL_law, w.before args s = true := fun w h => hts w (List.mem_cons_of_mem _ h)
  refine pg_start (fun Q hQ => ?_)
  have RET : ∀ (H : Heap) (locs : List Loc) (ls : Array Slot) (pc : Nat) (v : Int32) , decode cX2_pullAt pc = .ok (.ireturn, 1) → va_P (dC, dI) vwCl (W_X2c_X0b cI cZ cII qc qc_who qc_pull qb qb_pull qb_strength qb_back qb_moods qb_tides qb_carts c_last c_who c_pull b_law b_places b_broad b_horses b_blinds b_besides b_tideCount b_cartCount b_due b_pairs b_pull b_strength b_back b_moods b_tides b_carts) H → va_D A (W_X2c_X0b cI cZ cII qc qc_who qc_pull qb qb_pull qb_strength qb_back qb_moods qb_tides qb_carts c_last c_who c_pull b_law b_places b_broad b_horses b_blinds b_besides b_tideCount b_cartCount b_due b_pairs b_pull b_strength b_back b_moods b_tides b_carts) → va_S A s.heap H locs → (some (v) : Option (Int32)) = some (rr) → W p l e rm_X2_pullAt s m args below meth c H locs 0 0 Q (F0 m pc ls [.int v]) := by
    intro H locs ls pc v hd hP hD hS he
    subst hAe; subst hQ
    obtain rfl := Option.some.inj he
    exact pg_iret hx hb hr hlocks hK hP hD hS hd
  unfold f_X2_pullAt at hf
  refine lv_iload_n hx hb dX2_pullAt_0 rfl (lv_at hl 1 rfl) ?_
  obtain ⟨r_1, hc, hf⟩ := bn1_s hf
  refine pg_cSi (As := [.int n1]) (rest := []) (wf := (W_X2c_X0b cI cZ cII qc qc_who qc_pull qb qb_pull qb_strength qb_back qb_moods qb_tides qb_carts c_last c_who c_pull b_law b_places b_broad b_horses b_blinds b_besides b_tideCount b_cartCount b_due b_pairs b_pull b_strength b_back b_moods b_tides b_carts)) ⟨hx, hb, hml, hown, hw⟩ (c_X2_isCrew l dC dI cI cZ cII  s.heap.size  n1 r_1 hc) (va_cwS 1 hts (wM_S mw_17_16 mw_17_17 mw_2_0 mw_17_18) rfl rfl rfl dk_X2_isCrew ⟨Nat.le_of_ble_eq_true rfl, Nat.le_of_ble_eq_true rfl⟩) hK hP hD hS hA [] [0, 1, 2, 3, 4, 5, 6, 7, 8, 9] [0, 1, 2, 3, 4, 5, 6, 7, 8, 9] (plC_4 cI cZ cII qc qc_who qc_pull qb qb_pull qb_strength qb_back qb_moods qb_tides qb_carts c_last c_who c_pull b_law b_places b_broad b_horses b_blinds b_besides b_tideCount b_cartCount b_due b_pairs b_pull b_strength b_back b_moods b_tides b_carts) rfl (plF_4 cI cZ cII qc qc_who qc_pull qb qb_pull qb_strength qb_back qb_moods qb_tides qb_carts c_last c_who c_pull b_law b_places b_broad b_horses b_blinds b_besides b_tideCount b_cartCount b_due b_pairs b_pull b_strength b_back b_moods b_tides b_carts ) (by decide) rfl hl.1 rfl (Nat.le_of_ble_eq_true rfl) dX2_pullAt_1 ⟨Nat.zero_le _, Nat.zero_le _⟩ (fun H locs hP hD hS => ?_)
  refine lv_if_eq (tgt := 29) hx hb dX2_pullAt_4 (by decide) (fun h9 => ?_) (fun h9 => ?_)
  · have hf := pg_t h9 hf
    refine lv_iconst (v := (0 : Int32)) hx hb dX2_pullAt_29 (by decide) ?_
    exact RET _ _ _ _ _ dX2_pullAt_30 hP hD hS hf
  · have hf := pg_f h9 hf
    refine lv_iload_n hx hb dX2_pullAt_7 rfl (lv_at hl 2 rfl) ?_
    refine lv_if_lt (tgt := 29) hx hb dX2_pullAt_8 (by decide) (fun h9 => ?_) (fun h9 => ?_)
    · have hf := pg_t h9 hf
      refine lv_iconst (v := (0 : Int32)) hx hb dX2_pullAt_29 (by decide) ?_
      exact RET _ _ _ _ _ dX2_pullAt_30 hP hD hS hf
    · have hf := pg_f h9 hf
      refine lv_iload_n hx hb dX2_pullAt_11 rfl (lv_at hl 2 rfl) ?_
      refine lv_iconst (v := (3 : Int32)) hx hb dX2_pullAt_12 (by decide) ?_
      refine lv_icmp_ge (tgt := 29) hx hb dX2_pullAt_13 (by decide) (fun h9 => ?_) (fun h9 => ?_)
      · have hf := pg_t h9 hf
        refine lv_iconst (v := (0 : Int32)) hx hb dX2_pullAt_29 (by decide) ?_
        exact RET _ _ _ _ _ dX2_pullAt_30 hP hD hS hf
      · have hf := pg_f h9 hf
        refine lv_aload_n hx hb dX2_pullAt_16 rfl (lv_at hl 0 rfl) ?_
        refine va_get (D := (dC, dI)) (ci := 2) (v := .ref qc_pull) (C := RX2) (T := TX2) (N := 4) hx hb hw inlX2 hown hK hP 0 rfl rfl 3 (by decide) (hw _ mw_3_20) (fun _ h9 => h9) rfl dX2_pullAt_17 ?_
        refine lv_iload_n hx hb dX2_pullAt_20 rfl (lv_at hl 1 rfl) ?_
        refine lv_iconst (v := (3 : Int32)) hx hb dX2_pullAt_21 (by decide) ?_
        refine lv_imul hx hb dX2_pullAt_22 ?_
        refine lv_iload_n hx hb dX2_pullAt_23 rfl (lv_at hl 2 rfl) ?_
        refine lv_iadd hx hb dX2_pullAt_24 ?_
        obtain ⟨hi2, hf⟩ := pg_chk hf
        refine va_iald hx hb hK hP 2 0 rfl rfl hi2 dX2_pullAt_25 ?_
        refine lv_goto (tgt := 30) hx hb dX2_pullAt_26 (by decide) ?_
        exact RET _ _ _ _ _ dX2_pullAt_30 hP hD hS hf
def f_X2_takes (n1 : Int32) (n2 : Int32) (c_who : Nat → Int32) : Option (Int32) :=
  if n2 = (-1 : Int32) then
    some ((0 : Int32))
  else
    bn1 (f_X2_horseAt n1 (0 : Int32) c_who) (fun (r_1 : Int32) =>
      if r_1 = n2 then
        some ((1 : Int32))
      else
        bn1 (f_X2_horseAt n1 (1 : Int32) c_who) (fun (r_2 : Int32) =>
          if r_2 = n2 then
            some ((1 : Int32))
          else
            bn1 (f_X2_horseAt n1 (2 : Int32) c_who) (fun (r_3 : Int32) =>
              if r_3 = n2 then
                some ((1 : Int32))
              else
                some ((0 : Int32))
            )
        )
    )
abbrev rm_X2_takes : Room := { frames := 2, cells := 0, slots := 0, locals := 42 }
theorem dk_X2_takes : yX2_takes.cls = RX2 ∧ yX2_takes.cls ≠ "java/lang/invoke/MethodHandle" ∧ yX2_takes.cls ≠ "java/lang/invoke/VarHandle" ∧ (parseMethodDescriptor yX2_takes.desc).map (fun d => d.parameters.length) = some 2 := by decide +kernel
set_option maxHeartbeats 4000000 in
set_option maxRecDepth 100000 in
theorem c_X2_takes (l : Launch) (dC : Nat → ClassId) (dI : Nat → Nat → Nat) (cI cZ cII : ClassId) (qc qc_who qc_pull qb qb_pull qb_strength qb_back qb_moods qb_tides qb_carts : Nat) (sz : Nat) (c_last : Int32) (c_who : Nat → Int32) (c_pull : Nat → Int32) (b_law : Int32) (b_places : Int32) (b_broad : Int32) (b_horses : Int32) (b_blinds : Int32) (b_besides : Int32) (b_tideCount : Int32) (b_cartCount : Int32) (b_due : Int32) (b_pairs : Int64) (b_pull : Nat → Int32) (b_strength : Nat → Int32) (b_back : Nat → Int32) (b_moods : Nat → Int32) (b_tides : Nat → Int32) (b_carts : Nat → Int32) (n1 : Int32) (n2 : Int32) (rr : Int32) (hf : f_X2_takes n1 n2 c_who = some (rr)) : Met l yX2_takes (wM yX2_takes cX2_takes 3 (some .boolean)) rm_X2_takes (PreW (dC, dI) (tyA cI cZ cII) (W_X2c_X0b cI cZ cII qc qc_who qc_pull qb qb_pull qb_strength qb_back qb_moods qb_tides qb_carts c_last c_who c_pull b_law b_places b_broad b_horses b_blinds b_besides b_tideCount b_cartCount b_due b_pairs b_pull b_strength b_back b_moods b_tides b_carts) sz [.ref qc, .int n1, .int n2]) (PostI (dC, dI) (tyA cI cZ cII) rr (W_X2c_X0b cI cZ cII qc qc_who qc_pull qb qb_pull qb_strength qb_back qb_moods qb_tides qb_carts c_last c_who c_pull b_law b_places b_broad b_horses b_blinds b_besides b_tideCount b_cartCount b_due b_pairs b_pull b_strength b_back b_moods b_tides b_carts) (W_X2c_X0b cI cZ cII qc qc_who qc_pull qb qb_pull qb_strength qb_back qb_moods qb_tides qb_carts c_last c_who c_pull b_law b_places b_broad b_horses b_blinds b_besides b_tideCount b_cartCount b_due b_pairs b_pull b_strength b_back b_moods b_tides b_carts) sz) 0 0 (va_A (W_X2c_X0b cI cZ cII qc qc_who qc_pull qb qb_pull qb_strength qb_back qb_moods qb_tides qb_carts c_last c_who c_pull b_law b_places b_broad b_horses b_blinds b_besides b_tideCount b_cartCount b_due b_pairs b_pull b_strength b_back b_moods b_tides b_carts) sz) := by
  refine Met.ofW (cc := cX2_takes) (maxL := 3) (ret := (some .boolean)) (by decide) rfl ?_
  intro p e s m args below meth c s₁ B hml hv
  obtain ⟨rfl, hsz, hP, hK, hD0⟩ := hv
  have hx := B.exec
  have hb := B.bytes
  have hr := B.returns
  have hts := atoms_spec (ws := wM yX2_takes cX2_takes 3 (some .boolean)) B.pre
  have hown : s.vm.findClass RX2 = some m.cls := findClass_of_methodNamed B.named
  have hlocks := B.notSynchronized
  subst hsz
  have hD := hD0.self (sz := s.heap.size)
  obtain ⟨A, hAe⟩ : ∃ A, A = va_A (W_X2c_X0b cI cZ cII qc qc_who qc_pull qb qb_pull qb_strength qb_back qb_moods qb_tides qb_carts c_last c_who c_pull b_law b_places b_broad b_horses b_blinds b_besides b_tideCount b_cartCount b_due b_pairs b_pull b_strength b_back b_moods b_tides b_carts) s.heap.size := ⟨_, rfl⟩
  rw [← hAe] at hD
  have hA : ∀ q : Nat, s.heap.size ≤ q → A q := fun q h => by rw [hAe]; exact Or.inr h
  have hS : va_S A s.heap s.heap [] := va_S.rf
  have hl := lv_entry ([.ref qc, .int n1, .int n2]) (n := 3) (Nat.le_of_ble_eq_true rfl)
  rw [lg_entry_eq]
  generalize (lg_sl ([.ref qc, .int n1, .int n2]) ++ List.replicate (3 - (lg_sl ([.ref qc, .int n1, .int n2])).length) Slot.unset).toArray = ls at hl ⊢
  have hl : lv_has ls 3 [(0, .ref qc), (1, .int n1), (2, .int n2)] := hl
  generalize ([.ref qc, .int n1, .int n2] : List Value).toArray = args at hts ⊢
  have hw : ∀ w ∈ wsL_law, w.before args s = true := fun w h => hts w (List.mem_cons_of_mem _ h)
  refine pg_start (fun Q hQ => ?_)
  have RET : ∀ (H : Heap) (locs : List Loc) (ls : Array Slot) (pc : Nat) (v : Int32) , decode cX2_takes pc = .ok (.ireturn, 1) → (v = 0 ∨ v = 1) → va_P (dC, dI) vwCl (W_X2c_X0b cI cZ cII qc qc_who qc_pull qb qb_pull qb_strength qb_back qb_moods qb_tides qb_carts c_last c_who c_pull b_law b_places b_broad b_horses b_blinds b_besides b_tideCount b_cartCount b_due b_pairs b_pull b_strength b_back b_moods b_tides b_carts) H → va_D A (W_X2c_X0b cI cZ cII qc qc_who qc_pull qb qb_pull qb_strength qb_back qb_moods qb_tides qb_carts c_last c_who c_pull b_law b_places b_broad b_horses b_blinds b_besides b_tideCount b_cartCount b_due b_pairs b_pull b_strength b_back b_moods b_tides b_carts) → va_S A s.heap H locs → (some (v) : Option (Int32)) = some (rr) → W p l e rm_X2_takes s m args below meth c H locs 0 0 Q (F0 m pc ls [.int v]) := by
    intro H locs ls pc v hd hz hP hD hS he
    subst hAe; subst hQ
    obtain rfl := Option.some.inj he
    exact pg_zret hx hb hr hlocks hz hK hP hD hS hd
  unfold f_X2_takes at hf
  refine lv_iload_n hx hb dX2_takes_0 rfl (lv_at hl 2 rfl) ?_
  refine lv_iconst (v := (-1 : Int32)) hx hb dX2_takes_1 (by decide) ?_
  refine lv_icmp_eq (tgt := 39) hx hb dX2_takes_2 (by decide) (fun h9 => ?_) (fun h9 => ?_)
  · have hf := pg_t h9 hf
    refine lv_iconst (v := (0 : Int32)) hx hb dX2_takes_39 (by decide) ?_
    exact RET _ _ _ _ _ dX2_takes_40 (by decide) hP hD hS hf
  · have hf := pg_f h9 hf
    refine lv_aload_n hx hb dX2_takes_5 rfl (lv_at hl 0 rfl) ?_
    refine lv_iload_n hx hb dX2_takes_6 rfl (lv_at hl 1 rfl) ?_
    refine lv_iconst (v := (0 : Int32)) hx hb dX2_takes_7 (by decide) ?_
    obtain ⟨r_1, hc, hf⟩ := bn1_s hf
    refine pg_cVi (As := [.int n1, .int (0 : Int32)]) (rest := []) (wf := (W_X2c_X0b cI cZ cII qc qc_who qc_pull qb qb_pull qb_strength qb_back qb_moods qb_tides qb_carts c_last c_who c_pull b_law b_places b_broad b_horses b_blinds b_besides b_tideCount b_cartCount b_due b_pairs b_pull b_strength b_back b_moods b_tides b_carts)) ⟨hx, hb, hml, hown, hw⟩ (c_X2_horseAt l dC dI cI cZ cII qc qc_who qc_pull qb qb_pull qb_strength qb_back qb_moods qb_tides qb_carts s.heap.size c_last c_who c_pull b_law b_places b_broad b_horses b_blinds b_besides b_tideCount b_cartCount b_due b_pairs b_pull b_strength b_back b_moods b_tides b_carts n1 (0 : Int32) r_1 hc) (cwV 2 hts (wM_V mw_30_7 mw_30_8 mw_30_9 mw_2_0 mw_30_10) rfl rfl rfl dk_X2_horseAt ⟨Nat.le_of_ble_eq_true rfl, Nat.le_of_ble_eq_true rfl⟩) hK hP hD hS hA 2 0 rfl rfl rfl [0, 1, 2, 3, 4, 5, 6, 7, 8, 9] [] [0, 1, 2, 3, 4, 5, 6, 7, 8, 9] (plC_5 cI cZ cII qc qc_who qc_pull qb qb_pull qb_strength qb_back qb_moods qb_tides qb_carts c_last c_who c_pull b_law b_places b_broad b_horses b_blinds b_besides b_tideCount b_cartCount b_due b_pairs b_pull b_strength b_back b_moods b_tides b_carts) rfl (plF_5 cI cZ cII qc qc_who qc_pull qb qb_pull qb_strength qb_back qb_moods qb_tides qb_carts c_last c_who c_pull b_law b_places b_broad b_horses b_blinds b_besides b_tideCount b_cartCount b_due b_pairs b_pull b_strength b_back b_moods b_tides b_carts c_last c_who c_pull b_law b_places b_broad b_horses b_blinds b_besides b_tideCount b_cartCount b_due b_pairs b_pull b_strength b_back b_moods b_tides b_carts) (by decide) rfl hl.1 rfl (Nat.le_of_ble_eq_true rfl) dX2_takes_8 ⟨Nat.zero_le _, Nat.zero_le _⟩ (fun H locs hP hD hS => ?_)
    refine lv_iload_n hx hb dX2_takes_11 rfl (lv_at hl 2 rfl) ?_
    refine lv_icmp_eq (tgt := 35) hx hb dX2_takes_12 (by decide) (fun h9 => ?_) (fun h9 => ?_)
    · have hf := pg_t h9 hf
      refine lv_iconst (v := (1 : Int32)) hx hb dX2_takes_35 (by decide) ?_
      refine lv_goto (tgt := 40) hx hb dX2_takes_36 (by decide) ?_
      exact RET _ _ _ _ _ dX2_takes_40 (by decide) hP hD hS hf
    · have hf := pg_f h9 hf
      refine lv_aload_n hx hb dX2_takes_15 rfl (lv_at hl 0 rfl) ?_
      refine lv_iload_n hx hb dX2_takes_16 rfl (lv_at hl 1 rfl) ?_
      refine lv_iconst (v := (1 : Int32)) hx hb dX2_takes_17 (by decide) ?_
      obtain ⟨r_2, hc, hf⟩ := bn1_s hf
      refine pg_cVi (As := [.int n1, .int (1 : Int32)]) (rest := []) (wf := (W_X2c_X0b cI cZ cII qc qc_who qc_pull qb qb_pull qb_strength qb_back qb_moods qb_tides qb_carts c_last c_who c_pull b_law b_places b_broad b_horses b_blinds b_besides b_tideCount b_cartCount b_due b_pairs b_pull b_strength b_back b_moods b_tides b_carts)) ⟨hx, hb, hml, hown, hw⟩ (c_X2_horseAt l dC dI cI cZ cII qc qc_who qc_pull qb qb_pull qb_strength qb_back qb_moods qb_tides qb_carts H.size c_last c_who c_pull b_law b_places b_broad b_horses b_blinds b_besides b_tideCount b_cartCount b_due b_pairs b_pull b_strength b_back b_moods b_tides b_carts n1 (1 : Int32) r_2 hc) (cwV 2 hts (wM_V mw_30_7 mw_30_8 mw_30_9 mw_2_0 mw_30_10) rfl rfl rfl dk_X2_horseAt ⟨Nat.le_of_ble_eq_true rfl, Nat.le_of_ble_eq_true rfl⟩) hK hP hD hS hA 2 0 rfl rfl rfl [0, 1, 2, 3, 4, 5, 6, 7, 8, 9] [] [0, 1, 2, 3, 4, 5, 6, 7, 8, 9] (plC_5 cI cZ cII qc qc_who qc_pull qb qb_pull qb_strength qb_back qb_moods qb_tides qb_carts c_last c_who c_pull b_law b_places b_broad b_horses b_blinds b_besides b_tideCount b_cartCount b_due b_pairs b_pull b_strength b_back b_moods b_tides b_carts) rfl (plF_5 cI cZ cII qc qc_who qc_pull qb qb_pull qb_strength qb_back qb_moods qb_tides qb_carts c_last c_who c_pull b_law b_places b_broad b_horses b_blinds b_besides b_tideCount b_cartCount b_due b_pairs b_pull b_strength b_back b_moods b_tides b_carts c_last c_who c_pull b_law b_places b_broad b_horses b_blinds b_besides b_tideCount b_cartCount b_due b_pairs b_pull b_strength b_back b_moods b_tides b_carts) (by decide) rfl hl.1 rfl (Nat.le_of_ble_eq_true rfl) dX2_takes_18 ⟨Nat.zero_le _, Nat.zero_le _⟩ (fun H locs hP hD hS => ?_)
      refine lv_iload_n hx hb dX2_takes_21 rfl (lv_at hl 2 rfl) ?_
      refine lv_icmp_eq (tgt := 35) hx hb dX2_takes_22 (by decide) (fun h9 => ?_) (fun h9 => ?_)
      · have hf := pg_t h9 hf
        refine lv_iconst (v := (1 : Int32)) hx hb dX2_takes_35 (by decide) ?_
        refine lv_goto (tgt := 40) hx hb dX2_takes_36 (by decide) ?_
        exact RET _ _ _ _ _ dX2_takes_40 (by decide) hP hD hS hf
      · have hf := pg_f h9 hf
        refine lv_aload_n hx hb dX2_takes_25 rfl (lv_at hl 0 rfl) ?_
        refine lv_iload_n hx hb dX2_takes_26 rfl (lv_at hl 1 rfl) ?_
        refine lv_iconst (v := (2 : Int32)) hx hb dX2_takes_27 (by decide) ?_
        obtain ⟨r_3, hc, hf⟩ := bn1_s hf
        refine pg_cVi (As := [.int n1, .int (2 : Int32)]) (rest := []) (wf := (W_X2c_X0b cI cZ cII qc qc_who qc_pull qb qb_pull qb_strength qb_back qb_moods qb_tides qb_carts c_last c_who c_pull b_law b_places b_broad b_horses b_blinds b_besides b_tideCount b_cartCount b_due b_pairs b_pull b_strength b_back b_moods b_tides b_carts)) ⟨hx, hb, hml, hown, hw⟩ (c_X2_horseAt l dC dI cI cZ cII qc qc_who qc_pull qb qb_pull qb_strength qb_back qb_moods qb_tides qb_carts H.size c_last c_who c_pull b_law b_places b_broad b_horses b_blinds b_besides b_tideCount b_cartCount b_due b_pairs b_pull b_strength b_back b_moods b_tides b_carts n1 (2 : Int32) r_3 hc) (cwV 2 hts (wM_V mw_30_7 mw_30_8 mw_30_9 mw_2_0 mw_30_10) rfl rfl rfl dk_X2_horseAt ⟨Nat.le_of_ble_eq_true rfl, Nat.le_of_ble_eq_true rfl⟩) hK hP hD hS hA 2 0 rfl rfl rfl [0, 1, 2, 3, 4, 5, 6, 7, 8, 9] [] [0, 1, 2, 3, 4, 5, 6, 7, 8, 9] (plC_5 cI cZ cII qc qc_who qc_pull qb qb_pull qb_strength qb_back qb_moods qb_tides qb_carts c_last c_who c_pull b_law b_places b_broad b_horses b_blinds b_besides b_tideCount b_cartCount b_due b_pairs b_pull b_strength b_back b_moods b_tides b_carts) rfl (plF_5 cI cZ cII qc qc_who qc_pull qb qb_pull qb_strength qb_back qb_moods qb_tides qb_carts c_last c_who c_pull b_law b_places b_broad b_horses b_blinds b_besides b_tideCount b_cartCount b_due b_pairs b_pull b_strength b_back b_moods b_tides b_carts c_last c_who c_pull b_law b_places b_broad b_horses b_blinds b_besides b_tideCount b_cartCount b_due b_pairs b_pull b_strength b_back b_moods b_tides b_carts) (by decide) rfl hl.1 rfl (Nat.le_of_ble_eq_true rfl) dX2_takes_28 ⟨Nat.zero_le _, Nat.zero_le _⟩ (fun H locs hP hD hS => ?_)
        refine lv_iload_n hx hb dX2_takes_31 rfl (lv_at hl 2 rfl) ?_
        refine lv_icmp_ne (tgt := 39) hx hb dX2_takes_32 (by decide) (fun h9 => ?_) (fun h9 => ?_)
        · have hf := pg_f h9 hf
          refine lv_iconst (v := (0 : Int32)) hx hb dX2_takes_39 (by decide) ?_
          exact RET _ _ _ _ _ dX2_takes_40 (by decide) hP hD hS hf
        · have hf := pg_t h9 hf
          refine lv_iconst (v := (1 : Int32)) hx hb dX2_takes_35 (by decide) ?_
          refine lv_goto (tgt := 40) hx hb dX2_takes_36 (by decide) ?_
          exact RET _ _ _ _ _ dX2_takes_40 (by decide) hP hD hS hf
def f_X2_pace (n1 : Int32) (n3 : Int32) (c_who : Nat → Int32) (c_pull : Nat → Int32) (b_law : Int32) (u : Nat → Int32) : Option (Int32) :=
  jn3 (fun (y4_1 : Int32) (y5_1 : Int32) (y6_1 : Int32) =>
    if b_law = (1 : Int32) then
      some ((y6_1 * y4_1))
    else
      some (y5_1)
  ) (fun K97_1 =>
  lq4 (fun rec2 (y4_2 : Int32) (y5_2 : Int32) (y6_2 : Int32) (y7_2 : Int32) =>
    if (n1 + (3 : Int32)) ≤ y7_2 then
      K97_1 y4_2 y5_2 y6_2
    else
      if y7_2 < 0 ∨ 687 ≤ (y7_2).toNatClampNeg then none else
      jn3 (fun (y4_4 : Int32) (y5_4 : Int32) (y6_4 : Int32) =>
        rec2 y4_4 y5_4 y6_4 (y7_2 + (1 : Int32))
      ) (fun J91_4 =>
      if (c_who (y7_2).toNatClampNeg) < 0 then
        J91_4 y4_2 y5_2 y6_2
      else
        if (6 : Int32) ≤ (c_who (y7_2).toNatClampNeg) then
          J91_4 y4_2 y5_2 y6_2
        else
          if (c_who (y7_2).toNatClampNeg) < 0 ∨ 6 ≤ ((c_who (y7_2).toNatClampNeg)).toNatClampNeg then none else
          jn1 (fun (z0_6 : Int32) =>
            jn1 (fun (z0_7 : Int32) =>
              J91_4 (y4_2 + (1 : Int32)) (y5_2 + z0_6) z0_7
            ) (fun J86_7 =>
            if y4_2 = 0 then
              J86_7 z0_6
            else
              J86_7 (if z0_6 < y6_2 then z0_6 else y6_2)
            )
          ) (fun J60_6 =>
          if (u ((c_who (y7_2).toNatClampNeg)).toNatClampNeg) ≤ n3 then
            J60_6 (0 : Int32)
          else
            J60_6 (c_pull (y7_2).toNatClampNeg)
          )
      )
  ) fu (0 : Int32) (0 : Int32) (0 : Int32) n1
  )
abbrev rm_X2_pace : Room := { frames := 1, cells := 0, slots := 0, locals := 40 }
theorem dk_X2_pace : yX2_pace.cls = RX2 ∧ yX2_pace.cls ≠ "java/lang/invoke/MethodHandle" ∧ yX2_pace.cls ≠ "java/lang/invoke/VarHandle" ∧ (parseMethodDescriptor yX2_pace.desc).map (fun d => d.parameters.length) = some 3 := by decide +kernel
set_option maxHeartbeats 4000000 in
set_option maxRecDepth 100000 in
theorem c_X2_pace (l : Launch) (dC : Nat → ClassId) (dI : Nat → Nat → Nat) (cI cZ cII : ClassId) (qc qc_who qc_pull qb qb_pull qb_strength qb_back qb_moods qb_tides qb_carts qu : Nat) (sz : Nat) (c_last : Int32) (c_who : Nat → Int32) (c_pull : Nat → Int32) (b_law : Int32) (b_places : Int32) (b_broad : Int32) (b_horses : Int32) (b_blinds : Int32) (b_besides : Int32) (b_tideCount : Int32) (b_cartCount : Int32) (b_due : Int32) (b_pairs : Int64) (b_pull : Nat → Int32) (b_strength : Nat → Int32) (b_back : Nat → Int32) (b_moods : Nat → Int32) (b_tides : Nat → Int32) (b_carts : Nat → Int32) (u : Nat → Int32) (n1 : Int32) (n3 : Int32) (rr : Int32) (hf : f_X2_pace n1 n3 c_who c_pull b_law u = some (rr)) : Met l yX2_pace (wM yX2_pace cX2_pace 10 (some .int)) rm_X2_pace (PreW (dC, dI) (tyA cI cZ cII) (W_X2c_X0b_au6 cI cZ cII qc qc_who qc_pull qb qb_pull qb_strength qb_back qb_moods qb_tides qb_carts qu c_last c_who c_pull b_law b_places b_broad b_horses b_blinds b_besides b_tideCount b_cartCount b_due b_pairs b_pull b_strength b_back b_moods b_tides b_carts u) sz [.ref qc, .int n1, .ref qu, .int n3]) (PostI (dC, dI) (tyA cI cZ cII) rr (W_X2c_X0b_au6 cI cZ cII qc qc_who qc_pull qb qb_pull qb_strength qb_back qb_moods qb_tides qb_carts qu c_last c_who c_pull b_law b_places b_broad b_horses b_blinds b_besides b_tideCount b_cartCount b_due b_pairs b_pull b_strength b_back b_moods b_tides b_carts u) (W_X2c_X0b_au6 cI cZ cII qc qc_who qc_pull qb qb_pull qb_strength qb_back qb_moods qb_tides qb_carts qu c_last c_who c_pull b_law b_places b_broad b_horses b_blinds b_besides b_tideCount b_cartCount b_due b_pairs b_pull b_strength b_back b_moods b_tides b_carts u) sz) 0 0 (va_A (W_X2c_X0b_au6 cI cZ cII qc qc_who qc_pull qb qb_pull qb_strength qb_back qb_moods qb_tides qb_carts qu c_last c_who c_pull b_law b_places b_broad b_horses b_blinds b_besides b_tideCount b_cartCount b_due b_pairs b_pull b_strength b_back b_moods b_tides b_carts u) sz) := by
  refine Met.ofW (cc := cX2_pace) (maxL := 10) (ret := (some .int)) (by decide) rfl ?_
  intro p e s m args below meth c s₁ B hml hv
  obtain ⟨rfl, hsz, hP, hK, hD0⟩ := hv
  have hx := B.exec
  have hb := B.bytes
  have hr := B.returns
  have hts := atoms_spec (ws := wM yX2_pace cX2_pace 10 (some .int)) B.pre
  have hown : s.vm.findClass RX2 = some m.cls := findClass_of_methodNamed B.named
  have hlocks := B.notSynchronized
  subst hsz
  have hD := hD0.self (sz := s.heap.size)
  obtain ⟨A, hAe⟩ : ∃ A, A = va_A (W_X2c_X0b_au6 cI cZ cII qc qc_who qc_pull qb qb_pull qb_strength qb_back qb_moods qb_tides qb_carts qu c_last c_who c_pull b_law b_places b_broad b_horses b_blinds b_besides b_tideCount b_cartCount b_due b_pairs b_pull b_strength b_back b_moods b_tides b_carts u) s.heap.size := ⟨_, rfl⟩
  rw [← hAe] at hD
  have hA : ∀ q : Nat, s.heap.size ≤ q → A q := fun q h => by rw [hAe]; exact Or.inr h
  have hS : va_S A s.heap s.heap [] := va_S.rf
  have hl := lv_entry ([.ref qc, .int n1, .ref qu, .int n3]) (n := 10) (Nat.le_of_ble_eq_true rfl)
  rw [lg_entry_eq]
  generalize (lg_sl ([.ref qc, .int n1, .ref qu, .int n3]) ++ List.replicate (10 - (lg_sl ([.ref qc, .int n1, .ref qu, .int n3])).length) Slot.unset).toArray = ls at hl ⊢
  have hl : lv_has ls 10 [(0, .ref qc), (1, .int n1), (2, .ref qu), (3, .int n3)] := hl
  generalize ([.ref qc, .int n1, .ref qu, .int n3] : List Value).toArray = args at hts ⊢
  have hw : ∀ w ∈ wsL_law, w.before args s = true := fun w h => hts w (List.mem_cons_of_mem _ h)
  refine pg_start (fun Q hQ => ?_)
  have RET : ∀ (H : Heap) (locs : List Loc) (ls : Array Slot) (pc : Nat) (v : Int32) , decode cX2_pace pc = .ok (.ireturn, 1) → va_P (dC, dI) vwCl (W_X2c_X0b_au6 cI cZ cII qc qc_who qc_pull qb qb_pull qb_strength qb_back qb_moods qb_tides qb_carts qu c_last c_who c_pull b_law b_places b_broad b_horses b_blinds b_besides b_tideCount b_cartCount b_due b_pairs b_pull b_strength b_back b_moods b_tides b_carts u) H → va_D A (W_X2c_X0b_au6 cI cZ cII qc qc_who qc_pull qb qb_pull qb_strength qb_back qb_moods qb_tides qb_carts qu c_last c_who c_pull b_law b_places b_broad b_horses b_blinds b_besides b_tideCount b_cartCount b_due b_pairs b_pull b_strength b_back b_moods b_tides b_carts u) → va_S A s.heap H locs → (some (v) : Option (Int32)) = some (rr) → W p l e rm_X2_pace s m args below meth c H locs 0 0 Q (F0 m pc ls [.int v]) := by
    intro H locs ls pc v hd hP hD hS he
    subst hAe; subst hQ
    obtain rfl := Option.some.inj he
    exact pg_iret hx hb hr hlocks hK hP hD hS hd
  unfold f_X2_pace at hf
  refine lv_iconst (v := (0 : Int32)) hx hb dX2_pace_0 (by decide) ?_
  refine lv_istore (lv' := [(4, .int (0 : Int32)), (0, .ref qc), (1, .int n1), (2, .ref qu), (3, .int n3)]) hx hb dX2_pace_1 hl (by decide) rfl (fun ls hl => ?_)
  refine lv_iconst (v := (0 : Int32)) hx hb dX2_pace_3 (by decide) ?_
  refine lv_istore (lv' := [(5, .int (0 : Int32)), (4, .int (0 : Int32)), (0, .ref qc), (1, .int n1), (2, .ref qu), (3, .int n3)]) hx hb dX2_pace_4 hl (by decide) rfl (fun ls hl => ?_)
  refine lv_iconst (v := (0 : Int32)) hx hb dX2_pace_6 (by decide) ?_
  refine lv_istore (lv' := [(6, .int (0 : Int32)), (5, .int (0 : Int32)), (4, .int (0 : Int32)), (0, .ref qc), (1, .int n1), (2, .ref qu), (3, .int n3)]) hx hb dX2_pace_7 hl (by decide) rfl (fun ls hl => ?_)
  refine lv_iload_n hx hb dX2_pace_9 rfl (lv_at hl 4 rfl) ?_
  refine lv_istore (lv' := [(7, .int n1), (6, .int (0 : Int32)), (5, .int (0 : Int32)), (4, .int (0 : Int32)), (0, .ref qc), (1, .int n1), (2, .ref qu), (3, .int n3)]) hx hb dX2_pace_10 hl (by decide) rfl (fun ls hl => ?_)
  obtain ⟨K97_1, hK97_1, hf⟩ := jn3_s hf
  have WK97_1 : ∀ (y4_1 : Int32) (y5_1 : Int32) (y6_1 : Int32) (H : Heap) (locs : List Loc) (ls : Array Slot), va_P (dC, dI) vwCl (W_X2c_X0b_au6 cI cZ cII qc qc_who qc_pull qb qb_pull qb_strength qb_back qb_moods qb_tides qb_carts qu c_last c_who c_pull b_law b_places b_broad b_horses b_blinds b_besides b_tideCount b_cartCount b_due b_pairs b_pull b_strength b_back b_moods b_tides b_carts u) H → va_D A (W_X2c_X0b_au6 cI cZ cII qc qc_who qc_pull qb qb_pull qb_strength qb_back qb_moods qb_tides qb_carts qu c_last c_who c_pull b_law b_places b_broad b_horses b_blinds b_besides b_tideCount b_cartCount b_due b_pairs b_pull b_strength b_back b_moods b_tides b_carts u) → va_S A s.heap H locs → lv_has ls 10 [(0, .ref qc), (4, .int y4_1), (5, .int y5_1), (6, .int y6_1)] → K97_1 y4_1 y5_1 y6_1 = some (rr) → W p l e rm_X2_pace s m args below meth c H locs 0 0 Q (F0 m 97 ls []) := by
    intro y4_1 y5_1 y6_1 H locs ls hP hD hS hl hf
    have hf := hK97_1 _ _ _ hf
    refine lv_aload_n hx hb dX2_pace_97 rfl (lv_at hl 0 rfl) ?_
    refine va_get (D := (dC, dI)) (ci := 2) (v := .ref qb) (C := RX2) (T := TX2) (N := 4) hx hb hw inlX2 hown hK hP 0 rfl rfl 1 (by decide) (hw _ mw_3_21) (fun _ h9 => h9) rfl dX2_pace_98 ?_
    refine va_get (D := (dC, dI)) (ci := 0) (v := .int b_law) (C := RX0) (T := TX0) (N := 16) hx hb hw inlX0 hown hK hP 3 rfl rfl 0 (by decide) (hw _ mw_29_11) (fun _ h9 => h9) rfl dX2_pace_101 ?_
    refine lv_iconst (v := (1 : Int32)) hx hb dX2_pace_104 (by decide) ?_
    refine lv_icmp_ne (tgt := 116) hx hb dX2_pace_105 (by decide) (fun h9 => ?_) (fun h9 => ?_)
    · have hf := pg_f h9 hf
      refine lv_iload hx hb dX2_pace_116 (lv_at hl 2 rfl) ?_
      exact RET _ _ _ _ _ dX2_pace_118 hP hD hS hf
    · have hf := pg_t h9 hf
      refine lv_iload hx hb dX2_pace_108 (lv_at hl 3 rfl) ?_
      refine lv_iload hx hb dX2_pace_110 (lv_at hl 1 rfl) ?_
      refine lv_imul hx hb dX2_pace_112 ?_
      refine lv_goto (tgt := 118) hx hb dX2_pace_113 (by decide) ?_
      exact RET _ _ _ _ _ dX2_pace_118 hP hD hS hf
  obtain ⟨B2, hB2, hf⟩ := lq4_n hf
  have WL2 : ∀ (n9 : Nat) (y4_2 : Int32) (y5_2 : Int32) (y6_2 : Int32) (y7_2 : Int32) (H : Heap) (locs : List Loc) (ls : Array Slot), va_P (dC, dI) vwCl (W_X2c_X0b_au6 cI cZ cII qc qc_who qc_pull qb qb_pull qb_strength qb_back qb_moods qb_tides qb_carts qu c_last c_who c_pull b_law b_places b_broad b_horses b_blinds b_besides b_tideCount b_cartCount b_due b_pairs b_pull b_strength b_back b_moods b_tides b_carts u) H → va_D A (W_X2c_X0b_au6 cI cZ cII qc qc_who qc_pull qb qb_pull qb_strength qb_back qb_moods qb_tides qb_carts qu c_last c_who c_pull b_law b_places b_broad b_horses b_blinds b_besides b_tideCount b_cartCount b_due b_pairs b_pull b_strength b_back b_moods b_tides b_carts u) → va_S A s.heap H locs → lv_has ls 10 [(0, .ref qc), (1, .int n1), (2, .ref qu), (3, .int n3), (4, .int y4_2), (5, .int y5_2), (6, .int y6_2), (7, .int y7_2)] → lq4 B2 n9 y4_2 y5_2 y6_2 y7_2 = some (rr) → W p l e rm_X2_pace s m args below meth c H locs 0 0 Q (F0 m 12 ls []) := by
    intro n9
    induction n9 with
    | zero => intro y4_2 y5_2 y6_2 y7_2 H locs ls hP hD hS hl hf; cases hf
    | succ n9 ih =>
      intro y4_2 y5_2 y6_2 y7_2 H locs ls hP hD hS hl hf
      obtain ⟨rec2, hrec2, hf⟩ := lq4_s hf
      have hf := hB2 rec2 _ _ _ _ hf
      refine lv_iload hx hb dX2_pace_12 (lv_at hl 7 rfl) ?_
      refine lv_iload_n hx hb dX2_pace_14 rfl (lv_at hl 1 rfl) ?_
      refine lv_iconst (v := (3 : Int32)) hx hb dX2_pace_15 (by decide) ?_
      refine lv_iadd hx hb dX2_pace_16 ?_
      refine lv_icmp_ge (tgt := 97) hx hb dX2_pace_17 (by decide) (fun h9 => ?_) (fun h9 => ?_)
      · have hf := pg_t h9 hf
        exact WK97_1 _ _ _ _ _ _ hP hD hS (lv_sub hl [0, 4, 5, 6] rfl) hf
      · have hf := pg_f h9 hf
        refine lv_aload_n hx hb dX2_pace_20 rfl (lv_at hl 0 rfl) ?_
        refine va_get (D := (dC, dI)) (ci := 2) (v := .ref qc_who) (C := RX2) (T := TX2) (N := 4) hx hb hw inlX2 hown hK hP 0 rfl rfl 2 (by decide) (hw _ mw_3_19) (fun _ h9 => h9) rfl dX2_pace_21 ?_
        refine lv_iload hx hb dX2_pace_24 (lv_at hl 7 rfl) ?_
        obtain ⟨hi3, hf⟩ := pg_chk hf
        refine va_iald hx hb hK hP 1 0 rfl rfl hi3 dX2_pace_26 ?_
        refine lv_istore (lv' := [(8, .int (c_who (y7_2).toNatClampNeg)), (0, .ref qc), (1, .int n1), (2, .ref qu), (3, .int n3), (4, .int y4_2), (5, .int y5_2), (6, .int y6_2), (7, .int y7_2)]) hx hb dX2_pace_27 hl (by decide) rfl (fun ls hl => ?_)
        refine lv_iload hx hb dX2_pace_29 (lv_at hl 0 rfl) ?_
        obtain ⟨J91_4, hJ91_4, hf⟩ := jn3_s hf
        have WJ91_4 : ∀ (y4_4 : Int32) (y5_4 : Int32) (y6_4 : Int32) (H : Heap) (locs : List Loc) (ls : Array Slot), va_P (dC, dI) vwCl (W_X2c_X0b_au6 cI cZ cII qc qc_who qc_pull qb qb_pull qb_strength qb_back qb_moods qb_tides qb_carts qu c_last c_who c_pull b_law b_places b_broad b_horses b_blinds b_besides b_tideCount b_cartCount b_due b_pairs b_pull b_strength b_back b_moods b_tides b_carts u) H → va_D A (W_X2c_X0b_au6 cI cZ cII qc qc_who qc_pull qb qb_pull qb_strength qb_back qb_moods qb_tides qb_carts qu c_last c_who c_pull b_law b_places b_broad b_horses b_blinds b_besides b_tideCount b_cartCount b_due b_pairs b_pull b_strength b_back b_moods b_tides b_carts u) → va_S A s.heap H locs → lv_has ls 10 [(0, .ref qc), (1, .int n1), (2, .ref qu), (3, .int n3), (4, .int y4_4), (5, .int y5_4), (6, .int y6_4), (7, .int y7_2)] → J91_4 y4_4 y5_4 y6_4 = some (rr) → W p l e rm_X2_pace s m args below meth c H locs 0 0 Q (F0 m 91 ls []) := by
          intro y4_4 y5_4 y6_4 H locs ls hP hD hS hl hf
          have hf := hJ91_4 _ _ _ hf
          refine lv_iinc (v := (y7_2 + (1 : Int32))) (lv' := [(7, .int (y7_2 + (1 : Int32))), (0, .ref qc), (1, .int n1), (2, .ref qu), (3, .int n3), (4, .int y4_4), (5, .int y5_4), (6, .int y6_4)]) hx hb dX2_pace_91 hl (k := 7) rfl rfl (by decide) rfl (fun ls hl => ?_)
          refine lv_goto (tgt := 12) hx hb dX2_pace_94 (by decide) ?_
          exact ih _ _ _ _ _ _ _ hP hD hS (lv_sub hl [1, 2, 3, 4, 5, 6, 7, 0] rfl) (hrec2 _ _ _ _ hf)
        refine lv_if_lt (tgt := 91) hx hb dX2_pace_31 (by decide) (fun h9 => ?_) (fun h9 => ?_)
        · have hf := pg_t h9 hf
          exact WJ91_4 _ _ _ _ _ _ hP hD hS (lv_sub hl [1, 2, 3, 4, 5, 6, 7, 8] rfl) hf
        · have hf := pg_f h9 hf
          refine lv_iload hx hb dX2_pace_34 (lv_at hl 0 rfl) ?_
          refine lv_bipush (v := (6 : Int32)) hx hb dX2_pace_36 (by decide) ?_
          refine lv_icmp_ge (tgt := 91) hx hb dX2_pace_38 (by decide) (fun h9 => ?_) (fun h9 => ?_)
          · have hf := pg_t h9 hf
            exact WJ91_4 _ _ _ _ _ _ hP hD hS (lv_sub hl [1, 2, 3, 4, 5, 6, 7, 8] rfl) hf
          · have hf := pg_f h9 hf
            refine lv_aload_n hx hb dX2_pace_41 rfl (lv_at hl 3 rfl) ?_
            refine lv_iload hx hb dX2_pace_42 (lv_at hl 0 rfl) ?_
            obtain ⟨hi5, hf⟩ := pg_chk hf
            refine va_iald hx hb hK hP 10 0 rfl rfl hi5 dX2_pace_44 ?_
            refine lv_iload_n hx hb dX2_pace_45 rfl (lv_at hl 4 rfl) ?_
            obtain ⟨J60_6, hJ60_6, hf⟩ := jn1_s hf
            have WJ60_6 : ∀ (z0_6 : Int32) (H : Heap) (locs : List Loc) (ls : Array Slot), va_P (dC, dI) vwCl (W_X2c_X0b_au6 cI cZ cII qc qc_who qc_pull qb qb_pull qb_strength qb_back qb_moods qb_tides qb_carts qu c_last c_who c_pull b_law b_places b_broad b_horses b_blinds b_besides b_tideCount b_cartCount b_due b_pairs b_pull b_strength b_back b_moods b_tides b_carts u) H → va_D A (W_X2c_X0b_au6 cI cZ cII qc qc_who qc_pull qb qb_pull qb_strength qb_back qb_moods qb_tides qb_carts qu c_last c_who c_pull b_law b_places b_broad b_horses b_blinds b_besides b_tideCount b_cartCount b_due b_pairs b_pull b_strength b_back b_moods b_tides b_carts u) → va_S A s.heap H locs → lv_has ls 10 [(0, .ref qc), (1, .int n1), (2, .ref qu), (3, .int n3), (4, .int y4_2), (5, .int y5_2), (6, .int y6_2), (7, .int y7_2)] → J60_6 z0_6 = some (rr) → W p l e rm_X2_pace s m args below meth c H locs 0 0 Q (F0 m 60 ls [.int z0_6]) := by
              intro z0_6 H locs ls hP hD hS hl hf
              have hf := hJ60_6 _ hf
              refine lv_istore (lv' := [(9, .int z0_6), (0, .ref qc), (1, .int n1), (2, .ref qu), (3, .int n3), (4, .int y4_2), (5, .int y5_2), (6, .int y6_2), (7, .int y7_2)]) hx hb dX2_pace_60 hl (by decide) rfl (fun ls hl => ?_)
              refine lv_iload hx hb dX2_pace_62 (lv_at hl 6 rfl) ?_
              refine lv_iload hx hb dX2_pace_64 (lv_at hl 0 rfl) ?_
              refine lv_iadd hx hb dX2_pace_66 ?_
              refine lv_istore (lv' := [(5, .int (y5_2 + z0_6)), (9, .int z0_6), (0, .ref qc), (1, .int n1), (2, .ref qu), (3, .int n3), (4, .int y4_2), (6, .int y6_2), (7, .int y7_2)]) hx hb dX2_pace_67 hl (by decide) rfl (fun ls hl => ?_)
              refine lv_iload hx hb dX2_pace_69 (lv_at hl 6 rfl) ?_
              obtain ⟨J86_7, hJ86_7, hf⟩ := jn1_s hf
              have WJ86_7 : ∀ (z0_7 : Int32) (H : Heap) (locs : List Loc) (ls : Array Slot), va_P (dC, dI) vwCl (W_X2c_X0b_au6 cI cZ cII qc qc_who qc_pull qb qb_pull qb_strength qb_back qb_moods qb_tides qb_carts qu c_last c_who c_pull b_law b_places b_broad b_horses b_blinds b_besides b_tideCount b_cartCount b_due b_pairs b_pull b_strength b_back b_moods b_tides b_carts u) H → va_D A (W_X2c_X0b_au6 cI cZ cII qc qc_who qc_pull qb qb_pull qb_strength qb_back qb_moods qb_tides qb_carts qu c_last c_who c_pull b_law b_places b_broad b_horses b_blinds b_besides b_tideCount b_cartCount b_due b_pairs b_pull b_strength b_back b_moods b_tides b_carts u) → va_S A s.heap H locs → lv_has ls 10 [(0, .ref qc), (1, .int n1), (2, .ref qu), (3, .int n3), (4, .int y4_2), (5, .int (y5_2 + z0_6)), (7, .int y7_2)] → J86_7 z0_7 = some (rr) → W p l e rm_X2_pace s m args below meth c H locs 0 0 Q (F0 m 86 ls [.int z0_7]) := by
                intro z0_7 H locs ls hP hD hS hl hf
                have hf := hJ86_7 _ hf
                refine lv_istore (lv' := [(6, .int z0_7), (0, .ref qc), (1, .int n1), (2, .ref qu), (3, .int n3), (4, .int y4_2), (5, .int (y5_2 + z0_6)), (7, .int y7_2)]) hx hb dX2_pace_86 hl (by decide) rfl (fun ls hl => ?_)
                refine lv_iinc (v := (y4_2 + (1 : Int32))) (lv' := [(4, .int (y4_2 + (1 : Int32))), (6, .int z0_7), (0, .ref qc), (1, .int n1), (2, .ref qu), (3, .int n3), (5, .int (y5_2 + z0_6)), (7, .int y7_2)]) hx hb dX2_pace_88 hl (k := 5) rfl rfl (by decide) rfl (fun ls hl => ?_)
                exact WJ91_4 _ _ _ _ _ _ hP hD hS (lv_sub hl [2, 3, 4, 5, 0, 6, 1, 7] rfl) hf
              refine lv_if_ne (tgt := 79) hx hb dX2_pace_71 (by decide) (fun h9 => ?_) (fun h9 => ?_)
              · have hf := pg_f h9 hf
                refine lv_iload hx hb dX2_pace_79 (lv_at hl 7 rfl) ?_
                refine lv_iload hx hb dX2_pace_81 (lv_at hl 1 rfl) ?_
                refine va_mmin hx hb (hml.trans hl.1.symm) hown (hw _ mw_29_10) (hw _ mw_28_19) (hw _ mw_18_1) (hw _ mw_28_20) (Nat.le_of_ble_eq_true rfl) (Nat.le_of_ble_eq_true rfl) (Nat.zero_le _) (Nat.zero_le _) dX2_pace_83 ?_
                exact WJ86_7 _ _ _ _ hP hD hS (lv_sub hl [2, 3, 4, 5, 6, 0, 8] rfl) hf
              · have hf := pg_t h9 hf
                refine lv_iload hx hb dX2_pace_74 (lv_at hl 1 rfl) ?_
                refine lv_goto (tgt := 86) hx hb dX2_pace_76 (by decide) ?_
                exact WJ86_7 _ _ _ _ hP hD hS (lv_sub hl [2, 3, 4, 5, 6, 0, 8] rfl) hf
            refine lv_icmp_le (tgt := 59) hx hb dX2_pace_46 (by decide) (fun h9 => ?_) (fun h9 => ?_)
            · have hf := pg_t h9 hf
              refine lv_iconst (v := (0 : Int32)) hx hb dX2_pace_59 (by decide) ?_
              exact WJ60_6 _ _ _ _ hP hD hS (lv_sub hl [1, 2, 3, 4, 5, 6, 7, 8] rfl) hf
            · have hf := pg_f h9 hf
              refine lv_aload_n hx hb dX2_pace_49 rfl (lv_at hl 1 rfl) ?_
              refine va_get (D := (dC, dI)) (ci := 2) (v := .ref qc_pull) (C := RX2) (T := TX2) (N := 4) hx hb hw inlX2 hown hK hP 0 rfl rfl 3 (by decide) (hw _ mw_3_20) (fun _ h9 => h9) rfl dX2_pace_50 ?_
              refine lv_iload hx hb dX2_pace_53 (lv_at hl 8 rfl) ?_
              refine va_iald hx hb hK hP 2 0 rfl rfl hi3 dX2_pace_55 ?_
              refine lv_goto (tgt := 60) hx hb dX2_pace_56 (by decide) ?_
              exact WJ60_6 _ _ _ _ hP hD hS (lv_sub hl [1, 2, 3, 4, 5, 6, 7, 8] rfl) hf
  exact WL2 fu _ _ _ _ _ _ _ hP hD hS (lv_sub hl [4, 5, 6, 7, 3, 2, 1, 0] rfl) hf
def f_X2_nextLame (n1 : Int32) (n3 : Int32) (c_who : Nat → Int32) (u : Nat → Int32) : Option (Int32) :=
  jn1 (fun (y4_1 : Int32) =>
    some (y4_1)
  ) (fun K61_1 =>
  lq2 (fun rec2 (y4_2 : Int32) (y5_2 : Int32) =>
    if (n1 + (3 : Int32)) ≤ y5_2 then
      K61_1 y4_2
    else
      if y5_2 < 0 ∨ 687 ≤ (y5_2).toNatClampNeg then none else
      jn1 (fun (y4_4 : Int32) =>
        rec2 y4_4 (y5_2 + (1 : Int32))
      ) (fun J55_4 =>
      if (c_who (y5_2).toNatClampNeg) < 0 then
        J55_4 y4_2
      else
        if (6 : Int32) ≤ (c_who (y5_2).toNatClampNeg) then
          J55_4 y4_2
        else
          if (c_who (y5_2).toNatClampNeg) < 0 ∨ 6 ≤ ((c_who (y5_2).toNatClampNeg)).toNatClampNeg then none else
          if (u ((c_who (y5_2).toNatClampNeg)).toNatClampNeg) ≤ n3 then
            J55_4 y4_2
          else
            J55_4 (if (u ((c_who (y5_2).toNatClampNeg)).toNatClampNeg) < y4_2 then (u ((c_who (y5_2).toNatClampNeg)).toNatClampNeg) else y4_2)
      )
  ) fu (120 : Int32) n1
  )
abbrev rm_X2_nextLame : Room := { frames := 1, cells := 0, slots := 0, locals := 40 }
theorem dk_X2_nextLame : yX2_nextLame.cls = RX2 ∧ yX2_nextLame.cls ≠ "java/lang/invoke/MethodHandle" ∧ yX2_nextLame.cls ≠ "java/lang/invoke/VarHandle" ∧ (parseMethodDescriptor yX2_nextLame.desc).map (fun d => d.parameters.length) = some 3 := by decide +kernel
set_option maxHeartbeats 4000000 in
set_option maxRecDepth 100000 in
theorem c_X2_nextLame (l : Launch) (dC : Nat → ClassId) (dI : Nat → Nat → Nat) (cI cZ cII : ClassId) (qc qc_who qc_pull qb qb_pull qb_strength qb_back qb_moods qb_tides qb_carts qu : Nat) (sz : Nat) (c_last : Int32) (c_who : Nat → Int32) (c_pull : Nat → Int32) (b_law : Int32) (b_places : Int32) (b_broad : Int32) (b_horses : Int32) (b_blinds : Int32) (b_besides : Int32) (b_tideCount : Int32) (b_cartCount : Int32) (b_due : Int32) (b_pairs : Int64) (b_pull : Nat → Int32) (b_strength : Nat → Int32) (b_back : Nat → Int32) (b_moods : Nat → Int32) (b_tides : Nat → Int32) (b_carts : Nat → Int32) (u : Nat → Int32) (n1 : Int32) (n3 : Int32) (rr : Int32) (hf : f_X2_nextLame n1 n3 c_who u = some (rr)) : Met l yX2_nextLame (wM yX2_nextLame cX2_nextLame 7 (some .int)) rm_X2_nextLame (PreW (dC, dI) (tyA cI cZ cII) (W_X2c_X0b_au6 cI cZ cII qc qc_who qc_pull qb qb_pull qb_strength qb_back qb_moods qb_tides qb_carts qu c_last c_who c_pull b_law b_places b_broad b_horses b_blinds b_besides b_tideCount b_cartCount b_due b_pairs b_pull b_strength b_back b_moods b_tides b_carts u) sz [.ref qc, .int n1, .ref qu, .int n3]) (PostI (dC, dI) (tyA cI cZ cII) rr (W_X2c_X0b_au6 cI cZ cII qc qc_who qc_pull qb qb_pull qb_strength qb_back qb_moods qb_tides qb_carts qu c_last c_who c_pull b_law b_places b_broad b_horses b_blinds b_besides b_tideCount b_cartCount b_due b_pairs b_pull b_strength b_back b_moods b_tides b_carts u) (W_X2c_X0b_au6 cI cZ cII qc qc_who qc_pull qb qb_pull qb_strength qb_back qb_moods qb_tides qb_carts qu c_last c_who c_pull b_law b_places b_broad b_horses b_blinds b_besides b_tideCount b_cartCount b_due b_pairs b_pull b_strength b_back b_moods b_tides b_carts u) sz) 0 0 (va_A (W_X2c_X0b_au6 cI cZ cII qc qc_who qc_pull qb qb_pull qb_strength qb_back qb_moods qb_tides qb_carts qu c_last c_who c_pull b_law b_places b_broad b_horses b_blinds b_besides b_tideCount b_cartCount b_due b_pairs b_pull b_strength b_back b_moods b_tides b_carts u) sz) := by
  refine Met.ofW (cc := cX2_nextLame) (maxL := 7) (ret := (some .int)) (by decide) rfl ?_
  intro p e s m args below meth c s₁ B hml hv
  obtain ⟨rfl, hsz, hP, hK, hD0⟩ := hv
  have hx := B.exec
  have hb := B.bytes
  have hr := B.returns
  have hts := atoms_spec (ws := wM yX2_nextLame cX2_nextLame 7 (some .int)) B.pre
  have hown : s.vm.findClass RX2 = some m.cls := findClass_of_methodNamed B.named
  have hlocks := B.notSynchronized
  subst hsz
  have hD := hD0.self (sz := s.heap.size)
  obtain ⟨A, hAe⟩ : ∃ A, A = va_A (W_X2c_X0b_au6 cI cZ cII qc qc_who qc_pull qb qb_pull qb_strength qb_back qb_moods qb_tides qb_carts qu c_last c_who c_pull b_law b_places b_broad b_horses b_blinds b_besides b_tideCount b_cartCount b_due b_pairs b_pull b_strength b_back b_moods b_tides b_carts u) s.heap.size := ⟨_, rfl⟩
  rw [← hAe] at hD
  have hA : ∀ q : Nat, s.heap.size ≤ q → A q := fun q h => by rw [hAe]; exact Or.inr h
  have hS : va_S A s.heap s.heap [] := va_S.rf
  have hl := lv_entry ([.ref qc, .int n1, .ref qu, .int n3]) (n := 7) (Nat.le_of_ble_eq_true rfl)
  rw [lg_entry_eq]
  generalize (lg_sl ([.ref qc, .int n1, .ref qu, .int n3]) ++ List.replicate (7 - (lg_sl ([.ref qc, .int n1, .ref qu, .int n3])).length) Slot.unset).toArray = ls at hl ⊢
  have hl : lv_has ls 7 [(0, .ref qc), (1, .int n1), (2, .ref qu), (3, .int n3)] := hl
  generalize ([.ref qc, .int n1, .ref qu, .int n3] : List Value).toArray = args at hts ⊢
  have hw : ∀ w ∈ wsL_law, w.before args s = true := fun w h => hts w (List.mem_cons_of_mem _ h)
  refine pg_start (fun Q hQ => ?_)
  have RET : ∀ (H : Heap) (locs : List Loc) (ls : Array Slot) (pc : Nat) (v : Int32) , decode cX2_nextLame pc = .ok (.ireturn, 1) → va_P (dC, dI) vwCl (W_X2c_X0b_au6 cI cZ cII qc qc_who qc_pull qb qb_pull qb_strength qb_back qb_moods qb_tides qb_carts qu c_last c_who c_pull b_law b_places b_broad b_horses b_blinds b_besides b_tideCount b_cartCount b_due b_pairs b_pull b_strength b_back b_moods b_tides b_carts u) H → va_D A (W_X2c_X0b_au6 cI cZ cII qc qc_who qc_pull qb qb_pull qb_strength qb_back qb_moods qb_tides qb_carts qu c_last c_who c_pull b_law b_places b_broad b_horses b_blinds b_besides b_tideCount b_cartCount b_due b_pairs b_pull b_strength b_back b_moods b_tides b_carts u) → va_S A s.heap H locs → (some (v) : Option (Int32)) = some (rr) → W p l e rm_X2_nextLame s m args below meth c H locs 0 0 Q (F0 m pc ls [.int v]) := by
    intro H locs ls pc v hd hP hD hS he
    subst hAe; subst hQ
    obtain rfl := Option.some.inj he
    exact pg_iret hx hb hr hlocks hK hP hD hS hd
  unfold f_X2_nextLame at hf
  refine lv_bipush (v := (120 : Int32)) hx hb dX2_nextLame_0 (by decide) ?_
  refine lv_istore (lv' := [(4, .int (120 : Int32)), (0, .ref qc), (1, .int n1), (2, .ref qu), (3, .int n3)]) hx hb dX2_nextLame_2 hl (by decide) rfl (fun ls hl => ?_)
  refine lv_iload_n hx hb dX2_nextLame_4 rfl (lv_at hl 2 rfl) ?_
  refine lv_istore (lv' := [(5, .int n1), (4, .int (120 : Int32)), (0, .ref qc), (1, .int n1), (2, .ref qu), (3, .int n3)]) hx hb dX2_nextLame_5 hl (by decide) rfl (fun ls hl => ?_)
  obtain ⟨K61_1, hK61_1, hf⟩ := jn1_s hf
  have WK61_1 : ∀ (y4_1 : Int32) (H : Heap) (locs : List Loc) (ls : Array Slot), va_P (dC, dI) vwCl (W_X2c_X0b_au6 cI cZ cII qc qc_who qc_pull qb qb_pull qb_strength qb_back qb_moods qb_tides qb_carts qu c_last c_who c_pull b_law b_places b_broad b_horses b_blinds b_besides b_tideCount b_cartCount b_due b_pairs b_pull b_strength b_back b_moods b_tides b_carts u) H → va_D A (W_X2c_X0b_au6 cI cZ cII qc qc_who qc_pull qb qb_pull qb_strength qb_back qb_moods qb_tides qb_carts qu c_last c_who c_pull b_law b_places b_broad b_horses b_blinds b_besides b_tideCount b_cartCount b_due b_pairs b_pull b_strength b_back b_moods b_tides b_carts u) → va_S A s.heap H locs → lv_has ls 7 [(4, .int y4_1)] → K61_1 y4_1 = some (rr) → W p l e rm_X2_nextLame s m args below meth c H locs 0 0 Q (F0 m 61 ls []) := by
    intro y4_1 H locs ls hP hD hS hl hf
    have hf := hK61_1 _ hf
    refine lv_iload hx hb dX2_nextLame_61 (lv_at hl 0 rfl) ?_
    exact RET _ _ _ _ _ dX2_nextLame_63 hP hD hS hf
  obtain ⟨B2, hB2, hf⟩ := lq2_n hf
  have WL2 : ∀ (n9 : Nat) (y4_2 : Int32) (y5_2 : Int32) (H : Heap) (locs : List Loc) (ls : Array Slot), va_P (dC, dI) vwCl (W_X2c_X0b_au6 cI cZ cII qc qc_who qc_pull qb qb_pull qb_strength qb_back qb_moods qb_tides qb_carts qu c_last c_who c_pull b_law b_places b_broad b_horses b_blinds b_besides b_tideCount b_cartCount b_due b_pairs b_pull b_strength b_back b_moods b_tides b_carts u) H → va_D A (W_X2c_X0b_au6 cI cZ cII qc qc_who qc_pull qb qb_pull qb_strength qb_back qb_moods qb_tides qb_carts qu c_last c_who c_pull b_law b_places b_broad b_horses b_blinds b_besides b_tideCount b_cartCount b_due b_pairs b_pull b_strength b_back b_moods b_tides b_carts u) → va_S A s.heap H locs → lv_has ls 7 [(0, .ref qc), (1, .int n1), (2, .ref qu), (3, .int n3), (4, .int y4_2), (5, .int y5_2)] → lq2 B2 n9 y4_2 y5_2 = some (rr) → W p l e rm_X2_nextLame s m args below meth c H locs 0 0 Q (F0 m 7 ls []) := by
    intro n9
    induction n9 with
    | zero => intro y4_2 y5_2 H locs ls hP hD hS hl hf; cases hf
    | succ n9 ih =>
      intro y4_2 y5_2 H locs ls hP hD hS hl hf
      obtain ⟨rec2, hrec2, hf⟩ := lq2_s hf
      have hf := hB2 rec2 _ _ hf
      refine lv_iload hx hb dX2_nextLame_7 (lv_at hl 5 rfl) ?_
      refine lv_iload_n hx hb dX2_nextLame_9 rfl (lv_at hl 1 rfl) ?_
      refine lv_iconst (v := (3 : Int32)) hx hb dX2_nextLame_10 (by decide) ?_
      refine lv_iadd hx hb dX2_nextLame_11 ?_
      refine lv_icmp_ge (tgt := 61) hx hb dX2_nextLame_12 (by decide) (fun h9 => ?_) (fun h9 => ?_)
      · have hf := pg_t h9 hf
        exact WK61_1 _ _ _ _ hP hD hS (lv_sub hl [4] rfl) hf
      · have hf := pg_f h9 hf
        refine lv_aload_n hx hb dX2_nextLame_15 rfl (lv_at hl 0 rfl) ?_
        refine va_get (D := (dC, dI)) (ci := 2) (v := .ref qc_who) (C := RX2) (T := TX2) (N := 4) hx hb hw inlX2 hown hK hP 0 rfl rfl 2 (by decide) (hw _ mw_3_19) (fun _ h9 => h9) rfl dX2_nextLame_16 ?_
        refine lv_iload hx hb dX2_nextLame_19 (lv_at hl 5 rfl) ?_
        obtain ⟨hi3, hf⟩ := pg_chk hf
        refine va_iald hx hb hK hP 1 0 rfl rfl hi3 dX2_nextLame_21 ?_
        refine lv_istore (lv' := [(6, .int (c_who (y5_2).toNatClampNeg)), (0, .ref qc), (1, .int n1), (2, .ref qu), (3, .int n3), (4, .int y4_2), (5, .int y5_2)]) hx hb dX2_nextLame_22 hl (by decide) rfl (fun ls hl => ?_)
        refine lv_iload hx hb dX2_nextLame_24 (lv_at hl 0 rfl) ?_
        obtain ⟨J55_4, hJ55_4, hf⟩ := jn1_s hf
        have WJ55_4 : ∀ (y4_4 : Int32) (H : Heap) (locs : List Loc) (ls : Array Slot), va_P (dC, dI) vwCl (W_X2c_X0b_au6 cI cZ cII qc qc_who qc_pull qb qb_pull qb_strength qb_back qb_moods qb_tides qb_carts qu c_last c_who c_pull b_law b_places b_broad b_horses b_blinds b_besides b_tideCount b_cartCount b_due b_pairs b_pull b_strength b_back b_moods b_tides b_carts u) H → va_D A (W_X2c_X0b_au6 cI cZ cII qc qc_who qc_pull qb qb_pull qb_strength qb_back qb_moods qb_tides qb_carts qu c_last c_who c_pull b_law b_places b_broad b_horses b_blinds b_besides b_tideCount b_cartCount b_due b_pairs b_pull b_strength b_back b_moods b_tides b_carts u) → va_S A s.heap H locs → lv_has ls 7 [(0, .ref qc), (1, .int n1), (2, .ref qu), (3, .int n3), (4, .int y4_4), (5, .int y5_2)] → J55_4 y4_4 = some (rr) → W p l e rm_X2_nextLame s m args below meth c H locs 0 0 Q (F0 m 55 ls []) := by
          intro y4_4 H locs ls hP hD hS hl hf
          have hf := hJ55_4 _ hf
          refine lv_iinc (v := (y5_2 + (1 : Int32))) (lv' := [(5, .int (y5_2 + (1 : Int32))), (0, .ref qc), (1, .int n1), (2, .ref qu), (3, .int n3), (4, .int y4_4)]) hx hb dX2_nextLame_55 hl (k := 5) rfl rfl (by decide) rfl (fun ls hl => ?_)
          refine lv_goto (tgt := 7) hx hb dX2_nextLame_58 (by decide) ?_
          exact ih _ _ _ _ _ hP hD hS (lv_sub hl [1, 2, 3, 4, 5, 0] rfl) (hrec2 _ _ hf)
        refine lv_if_lt (tgt := 55) hx hb dX2_nextLame_26 (by decide) (fun h9 => ?_) (fun h9 => ?_)
        · have hf := pg_t h9 hf
          exact WJ55_4 _ _ _ _ hP hD hS (lv_sub hl [1, 2, 3, 4, 5, 6] rfl) hf
        · have hf := pg_f h9 hf
          refine lv_iload hx hb dX2_nextLame_29 (lv_at hl 0 rfl) ?_
          refine lv_bipush (v := (6 : Int32)) hx hb dX2_nextLame_31 (by decide) ?_
          refine lv_icmp_ge (tgt := 55) hx hb dX2_nextLame_33 (by decide) (fun h9 => ?_) (fun h9 => ?_)
          · have hf := pg_t h9 hf
            exact WJ55_4 _ _ _ _ hP hD hS (lv_sub hl [1, 2, 3, 4, 5, 6] rfl) hf
          · have hf := pg_f h9 hf
            refine lv_aload_n hx hb dX2_nextLame_36 rfl (lv_at hl 3 rfl) ?_
            refine lv_iload hx hb dX2_nextLame_37 (lv_at hl 0 rfl) ?_
            obtain ⟨hi5, hf⟩ := pg_chk hf
            refine va_iald hx hb hK hP 10 0 rfl rfl hi5 dX2_nextLame_39 ?_
            refine lv_iload_n hx hb dX2_nextLame_40 rfl (lv_at hl 4 rfl) ?_
            refine lv_icmp_le (tgt := 55) hx hb dX2_nextLame_41 (by decide) (fun h9 => ?_) (fun h9 => ?_)
            · have hf := pg_t h9 hf
              exact WJ55_4 _ _ _ _ hP hD hS (lv_sub hl [1, 2, 3, 4, 5, 6] rfl) hf
            · have hf := pg_f h9 hf
              refine lv_iload hx hb dX2_nextLame_44 (lv_at hl 5 rfl) ?_
              refine lv_aload_n hx hb dX2_nextLame_46 rfl (lv_at hl 3 rfl) ?_
              refine lv_iload hx hb dX2_nextLame_47 (lv_at hl 0 rfl) ?_
              refine va_iald hx hb hK hP 10 0 rfl rfl hi5 dX2_nextLame_49 ?_
              refine va_mmin hx hb (hml.trans hl.1.symm) hown (hw _ mw_29_10) (hw _ mw_28_19) (hw _ mw_18_1) (hw _ mw_28_20) (Nat.le_of_ble_eq_true rfl) (Nat.le_of_ble_eq_true rfl) (Nat.zero_le _) (Nat.zero_le _) dX2_nextLame_50 ?_
              refine lv_istore (lv' := [(4, .int (if (u ((c_who (y5_2).toNatClampNeg)).toNatClampNeg) < y4_2 then (u ((c_who (y5_2).toNatClampNeg)).toNatClampNeg) else y4_2)), (6, .int (c_who (y5_2).toNatClampNeg)), (0, .ref qc), (1, .int n1), (2, .ref qu), (3, .int n3), (5, .int y5_2)]) hx hb dX2_nextLame_53 hl (by decide) rfl (fun ls hl => ?_)
              exact WJ55_4 _ _ _ _ hP hD hS (lv_sub hl [2, 3, 4, 5, 0, 6] rfl) hf
  exact WL2 fu _ _ _ _ _ hP hD hS (lv_sub hl [2, 3, 4, 5, 1, 0] rfl) hf
def f_X2_minutes (n1 : Int32) (n3 : Int32) (n4 : Int32) (c_who : Nat → Int32) (c_pull : Nat → Int32) (b_law : Int32) (b_broad : Int32) (u : Nat → Int32) : Option (Int32) :=
  bn1 (f_X2_isCrew n1) (fun (r_1 : Int32) =>
    if r_1 = 0 then
      some ((-1 : Int32))
    else
      jn1 (fun (u_2 : Unit) =>
        some ((-1 : Int32))
      ) (fun K125_2 =>
      lq3 (fun rec3 (y6_3 : Int32) (y7_3 : Int32) (y8_3 : Int32) =>
        if (3 : Int32) < y8_3 then
          K125_2 ()
        else
          bn1 (f_X2_pace (n1 * (3 : Int32)) y6_3 c_who c_pull b_law u) (fun (r_4 : Int32) =>
            if 0 < (r_4 + n3) then
              if (r_4 + n3) = 0 then none else
              if (y6_3 + ((((b_broad - y7_3) + (r_4 + n3)) - (1 : Int32)) / (r_4 + n3))) ≤ n4 then
                bn1 (f_X2_nextLame (n1 * (3 : Int32)) y6_3 c_who u) (fun (r_6 : Int32) =>
                  if r_6 < (y6_3 + ((((b_broad - y7_3) + (r_4 + n3)) - (1 : Int32)) / (r_4 + n3))) then
                    rec3 r_6 (y7_3 + ((r_4 + n3) * (r_6 - y6_3))) (y8_3 + (1 : Int32))
                  else
                    some ((y6_3 + ((((b_broad - y7_3) + (r_4 + n3)) - (1 : Int32)) / (r_4 + n3))))
                )
              else
                some ((-1 : Int32))
            else
              some ((-1 : Int32))
          )
      ) fu (0 : Int32) (0 : Int32) (0 : Int32)
      )
  )
set_option maxRecDepth 100000 in
theorem plC_6 (cI cZ cII : ClassId) (qc qc_who qc_pull qb qb_pull qb_strength qb_back qb_moods qb_tides qb_carts qu : Nat) (c_last : Int32) (c_who : Nat → Int32) (c_pull : Nat → Int32) (b_law : Int32) (b_places : Int32) (b_broad : Int32) (b_horses : Int32) (b_blinds : Int32) (b_besides : Int32) (b_tideCount : Int32) (b_cartCount : Int32) (b_due : Int32) (b_pairs : Int64) (b_pull : Nat → Int32) (b_strength : Nat → Int32) (b_back : Nat → Int32) (b_moods : Nat → Int32) (b_tides : Nat → Int32) (b_carts : Nat → Int32) (u : Nat → Int32) : ([] : List Nat).map (fun i => (W_X2c_X0b_au6 cI cZ cII qc qc_who qc_pull qb qb_pull qb_strength qb_back qb_moods qb_tides qb_carts qu c_last c_who c_pull b_law b_places b_broad b_horses b_blinds b_besides b_tideCount b_cartCount b_due b_pairs b_pull b_strength b_back b_moods b_tides b_carts u)[i]?) = (W_0 cI cZ cII).map some := rfl
set_option maxRecDepth 100000 in
theorem plF_6 (cI cZ cII : ClassId) (qc qc_who qc_pull qb qb_pull qb_strength qb_back qb_moods qb_tides qb_carts qu : Nat) (c_last : Int32) (c_who : Nat → Int32) (c_pull : Nat → Int32) (b_law : Int32) (b_places : Int32) (b_broad : Int32) (b_horses : Int32) (b_blinds : Int32) (b_besides : Int32) (b_tideCount : Int32) (b_cartCount : Int32) (b_due : Int32) (b_pairs : Int64) (b_pull : Nat → Int32) (b_strength : Nat → Int32) (b_back : Nat → Int32) (b_moods : Nat → Int32) (b_tides : Nat → Int32) (b_carts : Nat → Int32) (u : Nat → Int32) : ([0, 1, 2, 3, 4, 5, 6, 7, 8, 9, 10] : List Nat).map (fun i => (pickW (W_X2c_X0b_au6 cI cZ cII qc qc_who qc_pull qb qb_pull qb_strength qb_back qb_moods qb_tides qb_carts qu c_last c_who c_pull b_law b_places b_broad b_horses b_blinds b_besides b_tideCount b_cartCount b_due b_pairs b_pull b_strength b_back b_moods b_tides b_carts u) ([0, 1, 2, 3, 4, 5, 6, 7, 8, 9, 10] : List Nat) ++ (W_0 cI cZ cII))[i]?) = (W_X2c_X0b_au6 cI cZ cII qc qc_who qc_pull qb qb_pull qb_strength qb_back qb_moods qb_tides qb_carts qu c_last c_who c_pull b_law b_places b_broad b_horses b_blinds b_besides b_tideCount b_cartCount b_due b_pairs b_pull b_strength b_back b_moods b_tides b_carts u).map some := rfl
set_option maxRecDepth 100000 in
theorem plC_7 (cI cZ cII : ClassId) (qc qc_who qc_pull qb qb_pull qb_strength qb_back qb_moods qb_tides qb_carts qu : Nat) (c_last : Int32) (c_who : Nat → Int32) (c_pull : Nat → Int32) (b_law : Int32) (b_places : Int32) (b_broad : Int32) (b_horses : Int32) (b_blinds : Int32) (b_besides : Int32) (b_tideCount : Int32) (b_cartCount : Int32) (b_due : Int32) (b_pairs : Int64) (b_pull : Nat → Int32) (b_strength : Nat → Int32) (b_back : Nat → Int32) (b_moods : Nat → Int32) (b_tides : Nat → Int32) (b_carts : Nat → Int32) (u : Nat → Int32) : ([0, 1, 2, 3, 4, 5, 6, 7, 8, 9, 10] : List Nat).map (fun i => (W_X2c_X0b_au6 cI cZ cII qc qc_who qc_pull qb qb_pull qb_strength qb_back qb_moods qb_tides qb_carts qu c_last c_who c_pull b_law b_places b_broad b_horses b_blinds b_besides b_tideCount b_cartCount b_due b_pairs b_pull b_strength b_back b_moods b_tides b_carts u)[i]?) = (W_X2c_X0b_au6 cI cZ cII qc qc_who qc_pull qb qb_pull qb_strength qb_back qb_moods qb_tides qb_carts qu c_last c_who c_pull b_law b_places b_broad b_horses b_blinds b_besides b_tideCount b_cartCount b_due b_pairs b_pull b_strength b_back b_moods b_tides b_carts u).map some := rfl
set_option maxRecDepth 100000 in
theorem plF_7 (cI cZ cII : ClassId) (qc qc_who qc_pull qb qb_pull qb_strength qb_back qb_moods qb_tides qb_carts qu : Nat) (c_last : Int32) (c_who : Nat → Int32) (c_pull : Nat → Int32) (b_law : Int32) (b_places : Int32) (b_broad : Int32) (b_horses : Int32) (b_blinds : Int32) (b_besides : Int32) (b_tideCount : Int32) (b_cartCount : Int32) (b_due : Int32) (b_pairs : Int64) (b_pull : Nat → Int32) (b_strength : Nat → Int32) (b_back : Nat → Int32) (b_moods : Nat → Int32) (b_tides : Nat → Int32) (b_carts : Nat → Int32) (u : Nat → Int32) (b9c_last : Int32) (b9c_who : Nat → Int32) (b9c_pull : Nat → Int32) (b9b_law : Int32) (b9b_places : Int32) (b9b_broad : Int32) (b9b_horses : Int32) (b9b_blinds : Int32) (b9b_besides : Int32) (b9b_tideCount : Int32) (b9b_cartCount : Int32) (b9b_due : Int32) (b9b_pairs : Int64) (b9b_pull : Nat → Int32) (b9b_strength : Nat → Int32) (b9b_back : Nat → Int32) (b9b_moods : Nat → Int32) (b9b_tides : Nat → Int32) (b9b_carts : Nat → Int32) (b9u : Nat → Int32) : ([0, 1, 2, 3, 4, 5, 6, 7, 8, 9, 10] : List Nat).map (fun i => (pickW (W_X2c_X0b_au6 cI cZ cII qc qc_who qc_pull qb qb_pull qb_strength qb_back qb_moods qb_tides qb_carts qu c_last c_who c_pull b_law b_places b_broad b_horses b_blinds b_besides b_tideCount b_cartCount b_due b_pairs b_pull b_strength b_back b_moods b_tides b_carts u) ([] : List Nat) ++ (W_X2c_X0b_au6 cI cZ cII qc qc_who qc_pull qb qb_pull qb_strength qb_back qb_moods qb_tides qb_carts qu b9c_last b9c_who b9c_pull b9b_law b9b_places b9b_broad b9b_horses b9b_blinds b9b_besides b9b_tideCount b9b_cartCount b9b_due b9b_pairs b9b_pull b9b_strength b9b_back b9b_moods b9b_tides b9b_carts b9u))[i]?) = (W_X2c_X0b_au6 cI cZ cII qc qc_who qc_pull qb qb_pull qb_strength qb_back qb_moods qb_tides qb_carts qu b9c_last b9c_who b9c_pull b9b_law b9b_places b9b_broad b9b_horses b9b_blinds b9b_besides b9b_tideCount b9b_cartCount b9b_due b9b_pairs b9b_pull b9b_strength b9b_back b9b_moods b9b_tides b9b_carts b9u).map some := rfl
abbrev rm_X2_minutes : Room := { frames := 2, cells := 0, slots := 0, locals := 69 }
theorem dk_X2_minutes : yX2_minutes.cls = RX2 ∧ yX2_minutes.cls ≠ "java/lang/invoke/MethodHandle" ∧ yX2_minutes.cls ≠ "java/lang/invoke/VarHandle" ∧ (parseMethodDescriptor yX2_minutes.desc).map (fun d => d.parameters.length) = some 4 := by decide +kernel
set_option maxHeartbeats 4000000 in
set_option maxRecDepth 100000 in
theorem c_X2_minutes (l : Launch) (dC : Nat → ClassId) (dI : Nat → Nat → Nat) (cI cZ cII : ClassId) (qc qc_who qc_pull qb qb_pull qb_strength qb_back qb_moods qb_tides qb_carts qu : Nat) (sz : Nat) (c_last : Int32) (c_who : Nat → Int32) (c_pull : Nat → Int32) (b_law : Int32) (b_places : Int32) (b_broad : Int32) (b_horses : Int32) (b_blinds : Int32) (b_besides : Int32) (b_tideCount : Int32) (b_cartCount : Int32) (b_due : Int32) (b_pairs : Int64) (b_pull : Nat → Int32) (b_strength : Nat → Int32) (b_back : Nat → Int32) (b_moods : Nat → Int32) (b_tides : Nat → Int32) (b_carts : Nat → Int32) (u : Nat → Int32) (n1 : Int32) (n3 : Int32) (n4 : Int32) (rr : Int32) (hf : f_X2_minutes n1 n3 n4 c_who c_pull b_law b_broad u = some (rr)) : Met l yX2_minutes (wM yX2_minutes cX2_minutes 12 (some .int)) rm_X2_minutes (PreW (dC, dI) (tyA cI cZ cII) (W_X2c_X0b_au6 cI cZ cII qc qc_who qc_pull qb qb_pull qb_strength qb_back qb_moods qb_tides qb_carts qu c_last c_who c_pull b_law b_places b_broad b_horses b_blinds b_besides b_tideCount b_cartCount b_due b_pairs b_pull b_strength b_back b_moods b_tides b_carts u) sz [.ref qc, .int n1, .ref qu, .int n3, .int n4]) (PostI (dC, dI) (tyA cI cZ cII) rr (W_X2c_X0b_au6 cI cZ cII qc qc_who qc_pull qb qb_pull qb_strength qb_back qb_moods qb_tides qb_carts qu c_last c_who c_pull b_law b_places b_broad b_horses b_blinds b_besides b_tideCount b_cartCount b_due b_pairs b_pull b_strength b_back b_moods b_tides b_carts u) (W_X2c_X0b_au6 cI cZ cII qc qc_who qc_pull qb qb_pull qb_strength qb_back qb_moods qb_tides qb_carts qu c_last c_who c_pull b_law b_places b_broad b_horses b_blinds b_besides b_tideCount b_cartCount b_due b_pairs b_pull b_strength b_back b_moods b_tides b_carts u) sz) 0 0 (va_A (W_X2c_X0b_au6 cI cZ cII qc qc_who qc_pull qb qb_pull qb_strength qb_back qb_moods qb_tides qb_carts qu c_last c_who c_pull b_law b_places b_broad b_horses b_blinds b_besides b_tideCount b_cartCount b_due b_pairs b_pull b_strength b_back b_moods b_tides b_carts u) sz) := by
  refine Met.ofW (cc := cX2_minutes) (maxL := 12) (ret := (some .int)) (by decide) rfl ?_
  intro p e s m args below meth c s₁ B hml hv
  obtain ⟨rfl, hsz, hP, hK, hD0⟩ := hv
  have hx := B.exec
  have hb := B.bytes
  have hr := B.returns
  have hts := atoms_spec (ws := wM yX2_minutes cX2_minutes 12 (some .int)) B.pre
  have hown : s.vm.findClass RX2 = some m.cls := findClass_of_methodNamed B.named
  have hlocks := B.notSynchronized
  subst hsz
  have hD := hD0.self (sz := s.heap.size)
  obtain ⟨A, hAe⟩ : ∃ A, A = va_A (W_X2c_X0b_au6 cI cZ cII qc qc_who qc_pull qb qb_pull qb_strength qb_back qb_moods qb_tides qb_carts qu c_last c_who c_pull b_law b_places b_broad b_horses b_blinds b_besides b_tideCount b_cartCount b_due b_pairs b_pull b_strength b_back b_moods b_tides b_carts u) s.heap.size := ⟨_, rfl⟩
  rw [← hAe] at hD
  have hA : ∀ q : Nat, s.heap.size ≤ q → A q := fun q h => by rw [hAe]; exact Or.inr h
  have hS : va_S A s.heap s.heap [] := va_S.rf
  have hl := lv_entry ([.ref qc, .int n1, .ref qu, .int n3, .int n4]) (n := 12) (Nat.le_of_ble_eq_true rfl)
  rw [lg_entry_eq]
  generalize (lg_sl ([.ref qc, .int n1, .ref qu, .int n3, .int n4]) ++ List.replicate (12 - (lg_sl ([.ref qc, .int n1, .ref qu, .int n3, .int n4])).length) Slot.unset).toArray = ls at hl ⊢
  have hl : lv_has ls 12 [(0, .ref qc), (1, .int n1), (2, .ref qu), (3, .int n3), (4, .int n4)] := hl
  generalize ([.ref qc, .int n1, .ref qu, .int n3, .int n4] : List Value).toArray = args at hts ⊢
  have hw : ∀ w ∈ wsL_law, w.before args s = true := fun w h => hts w (List.mem_cons_of_mem _ h)
  refine pg_start (fun Q hQ => ?_)
  have RET : ∀ (H : Heap) (locs : List Loc) (ls : Array Slot) (pc : Nat) (v : Int32) , decode cX2_minutes pc = .ok (.ireturn, 1) → va_P (dC, dI) vwCl (W_X2c_X0b_au6 cI cZ cII qc qc_who qc_pull qb qb_pull qb_strength qb_back qb_moods qb_tides qb_carts qu c_last c_who c_pull b_law b_places b_broad b_horses b_blinds b_besides b_tideCount b_cartCount b_due b_pairs b_pull b_strength b_back b_moods b_tides b_carts u) H → va_D A (W_X2c_X0b_au6 cI cZ cII qc qc_who qc_pull qb qb_pull qb_strength qb_back qb_moods qb_tides qb_carts qu c_last c_who c_pull b_law b_places b_broad b_horses b_blinds b_besides b_tideCount b_cartCount b_due b_pairs b_pull b_strength b_back b_moods b_tides b_carts u) → va_S A s.heap H locs → (some (v) : Option (Int32)) = some (rr) → W p l e rm_X2_minutes s m args below meth c H locs 0 0 Q (F0 m pc ls [.int v]) := by
    intro H locs ls pc v hd hP hD hS he
    subst hAe; subst hQ
    obtain rfl := Option.some.inj he
    exact pg_iret hx hb hr hlocks hK hP hD hS hd
  unfold f_X2_minutes at hf
  refine lv_iload_n hx hb dX2_minutes_0 rfl (lv_at hl 1 rfl) ?_
  obtain ⟨r_1, hc, hf⟩ := bn1_s hf
  refine pg_cSi (As := [.int n1]) (rest := []) (wf := (W_X2c_X0b_au6 cI cZ cII qc qc_who qc_pull qb qb_pull qb_strength qb_back qb_moods qb_tides qb_carts qu c_last c_who c_pull b_law b_places b_broad b_horses b_blinds b_besides b_tideCount b_cartCount b_due b_pairs b_pull b_strength b_back b_moods b_tides b_carts u)) ⟨hx, hb, hml, hown, hw⟩ (c_X2_isCrew l dC dI cI cZ cII  s.heap.size  n1 r_1 hc) (va_cwS 1 hts (wM_S mw_17_16 mw_17_17 mw_2_0 mw_17_18) rfl rfl rfl dk_X2_isCrew ⟨Nat.le_of_ble_eq_true rfl, Nat.le_of_ble_eq_true rfl⟩) hK hP hD hS hA [] [0, 1, 2, 3, 4, 5, 6, 7, 8, 9, 10] [0, 1, 2, 3, 4, 5, 6, 7, 8, 9, 10] (plC_6 cI cZ cII qc qc_who qc_pull qb qb_pull qb_strength qb_back qb_moods qb_tides qb_carts qu c_last c_who c_pull b_law b_places b_broad b_horses b_blinds b_besides b_tideCount b_cartCount b_due b_pairs b_pull b_strength b_back b_moods b_tides b_carts u) rfl (plF_6 cI cZ cII qc qc_who qc_pull qb qb_pull qb_strength qb_back qb_moods qb_tides qb_carts qu c_last c_who c_pull b_law b_places b_broad b_horses b_blinds b_besides b_tideCount b_cartCount b_due b_pairs b_pull b_strength b_back b_moods b_tides b_carts u ) (by decide) rfl hl.1 rfl (Nat.le_of_ble_eq_true rfl) dX2_minutes_1 ⟨Nat.zero_le _, Nat.zero_le _⟩ (fun H locs hP hD hS => ?_)
  refine lv_if_ne (tgt := 9) hx hb dX2_minutes_4 (by decide) (fun h9 => ?_) (fun h9 => ?_)
  · have hf := pg_f h9 hf
    refine lv_iload_n hx hb dX2_minutes_9 rfl (lv_at hl 1 rfl) ?_
    refine lv_iconst (v := (3 : Int32)) hx hb dX2_minutes_10 (by decide) ?_
    refine lv_imul hx hb dX2_minutes_11 ?_
    refine lv_istore (lv' := [(5, .int (n1 * (3 : Int32))), (0, .ref qc), (1, .int n1), (2, .ref qu), (3, .int n3), (4, .int n4)]) hx hb dX2_minutes_12 hl (by decide) rfl (fun ls hl => ?_)
    refine lv_iconst (v := (0 : Int32)) hx hb dX2_minutes_14 (by decide) ?_
    refine lv_istore (lv' := [(6, .int (0 : Int32)), (5, .int (n1 * (3 : Int32))), (0, .ref qc), (1, .int n1), (2, .ref qu), (3, .int n3), (4, .int n4)]) hx hb dX2_minutes_15 hl (by decide) rfl (fun ls hl => ?_)
    refine lv_iconst (v := (0 : Int32)) hx hb dX2_minutes_17 (by decide) ?_
    refine lv_istore (lv' := [(7, .int (0 : Int32)), (6, .int (0 : Int32)), (5, .int (n1 * (3 : Int32))), (0, .ref qc), (1, .int n1), (2, .ref qu), (3, .int n3), (4, .int n4)]) hx hb dX2_minutes_18 hl (by decide) rfl (fun ls hl => ?_)
    refine lv_iconst (v := (0 : Int32)) hx hb dX2_minutes_20 (by decide) ?_
    refine lv_istore (lv' := [(8, .int (0 : Int32)), (7, .int (0 : Int32)), (6, .int (0 : Int32)), (5, .int (n1 * (3 : Int32))), (0, .ref qc), (1, .int n1), (2, .ref qu), (3, .int n3), (4, .int n4)]) hx hb dX2_minutes_21 hl (by decide) rfl (fun ls hl => ?_)
    obtain ⟨K125_2, hK125_2, hf⟩ := jn1_s hf
    have WK125_2 : ∀ (u_2 : Unit) (H : Heap) (locs : List Loc) (ls : Array Slot), va_P (dC, dI) vwCl (W_X2c_X0b_au6 cI cZ cII qc qc_who qc_pull qb qb_pull qb_strength qb_back qb_moods qb_tides qb_carts qu c_last c_who c_pull b_law b_places b_broad b_horses b_blinds b_besides b_tideCount b_cartCount b_due b_pairs b_pull b_strength b_back b_moods b_tides b_carts u) H → va_D A (W_X2c_X0b_au6 cI cZ cII qc qc_who qc_pull qb qb_pull qb_strength qb_back qb_moods qb_tides qb_carts qu c_last c_who c_pull b_law b_places b_broad b_horses b_blinds b_besides b_tideCount b_cartCount b_due b_pairs b_pull b_strength b_back b_moods b_tides b_carts u) → va_S A s.heap H locs → lv_has ls 12 [] → K125_2 u_2 = some (rr) → W p l e rm_X2_minutes s m args below meth c H locs 0 0 Q (F0 m 125 ls []) := by
      intro u_2 H locs ls hP hD hS hl hf
      have hf := hK125_2 _ hf
      refine lv_iconst (v := (-1 : Int32)) hx hb dX2_minutes_125 (by decide) ?_
      exact RET _ _ _ _ _ dX2_minutes_126 hP hD hS hf
    obtain ⟨B3, hB3, hf⟩ := lq3_n hf
    have WL3 : ∀ (n9 : Nat) (y6_3 : Int32) (y7_3 : Int32) (y8_3 : Int32) (H : Heap) (locs : List Loc) (ls : Array Slot), va_P (dC, dI) vwCl (W_X2c_X0b_au6 cI cZ cII qc qc_who qc_pull qb qb_pull qb_strength qb_back qb_moods qb_tides qb_carts qu c_last c_who c_pull b_law b_places b_broad b_horses b_blinds b_besides b_tideCount b_cartCount b_due b_pairs b_pull b_strength b_back b_moods b_tides b_carts u) H → va_D A (W_X2c_X0b_au6 cI cZ cII qc qc_who qc_pull qb qb_pull qb_strength qb_back qb_moods qb_tides qb_carts qu c_last c_who c_pull b_law b_places b_broad b_horses b_blinds b_besides b_tideCount b_cartCount b_due b_pairs b_pull b_strength b_back b_moods b_tides b_carts u) → va_S A s.heap H locs → lv_has ls 12 [(0, .ref qc), (2, .ref qu), (3, .int n3), (4, .int n4), (5, .int (n1 * (3 : Int32))), (6, .int y6_3), (7, .int y7_3), (8, .int y8_3)] → lq3 B3 n9 y6_3 y7_3 y8_3 = some (rr) → W p l e rm_X2_minutes s m args below meth c H locs 0 0 Q (F0 m 23 ls []) := by
      intro n9
      induction n9 with
      | zero => intro y6_3 y7_3 y8_3 H locs ls hP hD hS hl hf; cases hf
      | succ n9 ih =>
        intro y6_3 y7_3 y8_3 H locs ls hP hD hS hl hf
        obtain ⟨rec3, hrec3, hf⟩ := lq3_s hf
        have hf := hB3 rec3 _ _ _ hf
        refine lv_iload hx hb dX2_minutes_23 (lv_at hl 7 rfl) ?_
        refine lv_iconst (v := (3 : Int32)) hx hb dX2_minutes_25 (by decide) ?_
        refine lv_icmp_gt (tgt := 125) hx hb dX2_minutes_26 (by decide) (fun h9 => ?_) (fun h9 => ?_)
        · have hf := pg_t h9 hf
          exact WK125_2 _ _ _ _ hP hD hS (lv_sub hl [] rfl) hf
        · have hf := pg_f h9 hf
          refine lv_aload_n hx hb dX2_minutes_29 rfl (lv_at hl 0 rfl) ?_
          refine lv_iload hx hb dX2_minutes_30 (lv_at hl 4 rfl) ?_
          refine lv_aload_n hx hb dX2_minutes_32 rfl (lv_at hl 1 rfl) ?_
          refine lv_iload hx hb dX2_minutes_33 (lv_at hl 5 rfl) ?_
          obtain ⟨r_4, hc, hf⟩ := bn1_s hf
          refine pg_cVi (As := [.int (n1 * (3 : Int32)), .ref qu, .int y6_3]) (rest := []) (wf := (W_X2c_X0b_au6 cI cZ cII qc qc_who qc_pull qb qb_pull qb_strength qb_back qb_moods qb_tides qb_carts qu c_last c_who c_pull b_law b_places b_broad b_horses b_blinds b_besides b_tideCount b_cartCount b_due b_pairs b_pull b_strength b_back b_moods b_tides b_carts u)) ⟨hx, hb, hml, hown, hw⟩ (c_X2_pace l dC dI cI cZ cII qc qc_who qc_pull qb qb_pull qb_strength qb_back qb_moods qb_tides qb_carts qu H.size c_last c_who c_pull b_law b_places b_broad b_horses b_blinds b_besides b_tideCount b_cartCount b_due b_pairs b_pull b_strength b_back b_moods b_tides b_carts u (n1 * (3 : Int32)) y6_3 r_4 hc) (cwV 3 hts (wM_V mw_29_6 mw_29_7 mw_29_8 mw_2_0 mw_29_9) rfl rfl rfl dk_X2_pace ⟨Nat.le_of_ble_eq_true rfl, Nat.le_of_ble_eq_true rfl⟩) hK hP hD hS hA 2 0 rfl rfl rfl [0, 1, 2, 3, 4, 5, 6, 7, 8, 9, 10] [] [0, 1, 2, 3, 4, 5, 6, 7, 8, 9, 10] (plC_7 cI cZ cII qc qc_who qc_pull qb qb_pull qb_strength qb_back qb_moods qb_tides qb_carts qu c_last c_who c_pull b_law b_places b_broad b_horses b_blinds b_besides b_tideCount b_cartCount b_due b_pairs b_pull b_strength b_back b_moods b_tides b_carts u) rfl (plF_7 cI cZ cII qc qc_who qc_pull qb qb_pull qb_strength qb_back qb_moods qb_tides qb_carts qu c_last c_who c_pull b_law b_places b_broad b_horses b_blinds b_besides b_tideCount b_cartCount b_due b_pairs b_pull b_strength b_back b_moods b_tides b_carts u c_last c_who c_pull b_law b_places b_broad b_horses b_blinds b_besides b_tideCount b_cartCount b_due b_pairs b_pull b_strength b_back b_moods b_tides b_carts u) (by decide) rfl hl.1 rfl (Nat.le_of_ble_eq_true rfl) dX2_minutes_35 ⟨Nat.zero_le _, Nat.zero_le _⟩ (fun H locs hP hD hS => ?_)
          refine lv_iload_n hx hb dX2_minutes_38 rfl (lv_at hl 2 rfl) ?_
          refine lv_iadd hx hb dX2_minutes_39 ?_
          refine lv_istore (lv' := [(9, .int (r_4 + n3)), (0, .ref qc), (2, .ref qu), (3, .int n3), (4, .int n4), (5, .int (n1 * (3 : Int32))), (6, .int y6_3), (7, .int y7_3), (8, .int y8_3)]) hx hb dX2_minutes_40 hl (by decide) rfl (fun ls hl => ?_)
          refine lv_iload hx hb dX2_minutes_42 (lv_at hl 0 rfl) ?_
          refine lv_if_gt (tgt := 49) hx hb dX2_minutes_44 (by decide) (fun h9 => ?_) (fun h9 => ?_)
          · have hf := pg_t h9 hf
            refine lv_iload hx hb dX2_minutes_49 (lv_at hl 6 rfl) ?_
            refine lv_aload_n hx hb dX2_minutes_51 rfl (lv_at hl 1 rfl) ?_
            refine va_get (D := (dC, dI)) (ci := 2) (v := .ref qb) (C := RX2) (T := TX2) (N := 4) hx hb hw inlX2 hown hK hP 0 rfl rfl 1 (by decide) (hw _ mw_3_21) (fun _ h9 => h9) rfl dX2_minutes_52 ?_
            refine va_get (D := (dC, dI)) (ci := 0) (v := .int b_broad) (C := RX0) (T := TX0) (N := 16) hx hb hw inlX0 hown hK hP 3 rfl rfl 2 (by decide) (hw _ mw_29_5) (fun _ h9 => h9) rfl dX2_minutes_55 ?_
            refine lv_iload hx hb dX2_minutes_58 (lv_at hl 7 rfl) ?_
            refine lv_isub hx hb dX2_minutes_60 ?_
            refine lv_iload hx hb dX2_minutes_61 (lv_at hl 0 rfl) ?_
            refine lv_iadd hx hb dX2_minutes_63 ?_
            refine lv_iconst (v := (1 : Int32)) hx hb dX2_minutes_64 (by decide) ?_
            refine lv_isub hx hb dX2_minutes_65 ?_
            refine lv_iload hx hb dX2_minutes_66 (lv_at hl 0 rfl) ?_
            obtain ⟨hi5, hf⟩ := pg_chk hf
            refine lv_idiv hx hb dX2_minutes_68 hi5 ?_
            refine lv_iadd hx hb dX2_minutes_69 ?_
            refine lv_istore (lv' := [(10, .int (y6_3 + ((((b_broad - y7_3) + (r_4 + n3)) - (1 : Int32)) / (r_4 + n3)))), (9, .int (r_4 + n3)), (0, .ref qc), (2, .ref qu), (3, .int n3), (4, .int n4), (5, .int (n1 * (3 : Int32))), (6, .int y6_3), (7, .int y7_3), (8, .int y8_3)]) hx hb dX2_minutes_70 hl (by decide) rfl (fun ls hl => ?_)
            refine lv_iload hx hb dX2_minutes_72 (lv_at hl 0 rfl) ?_
            refine lv_iload hx hb dX2_minutes_74 (lv_at hl 5 rfl) ?_
            refine lv_icmp_le (tgt := 81) hx hb dX2_minutes_76 (by decide) (fun h9 => ?_) (fun h9 => ?_)
            · have hf := pg_t h9 hf
              refine lv_aload_n hx hb dX2_minutes_81 rfl (lv_at hl 2 rfl) ?_
              refine lv_iload hx hb dX2_minutes_82 (lv_at hl 6 rfl) ?_
              refine lv_aload_n hx hb dX2_minutes_84 rfl (lv_at hl 3 rfl) ?_
              refine lv_iload hx hb dX2_minutes_85 (lv_at hl 7 rfl) ?_
              obtain ⟨r_6, hc, hf⟩ := bn1_s hf
              refine pg_cVi (As := [.int (n1 * (3 : Int32)), .ref qu, .int y6_3]) (rest := []) (wf := (W_X2c_X0b_au6 cI cZ cII qc qc_who qc_pull qb qb_pull qb_strength qb_back qb_moods qb_tides qb_carts qu c_last c_who c_pull b_law b_places b_broad b_horses b_blinds b_besides b_tideCount b_cartCount b_due b_pairs b_pull b_strength b_back b_moods b_tides b_carts u)) ⟨hx, hb, hml, hown, hw⟩ (c_X2_nextLame l dC dI cI cZ cII qc qc_who qc_pull qb qb_pull qb_strength qb_back qb_moods qb_tides qb_carts qu H.size c_last c_who c_pull b_law b_places b_broad b_horses b_blinds b_besides b_tideCount b_cartCount b_due b_pairs b_pull b_strength b_back b_moods b_tides b_carts u (n1 * (3 : Int32)) y6_3 r_6 hc) (cwV 3 hts (wM_V mw_29_12 mw_29_13 mw_29_14 mw_2_0 mw_29_15) rfl rfl rfl dk_X2_nextLame ⟨Nat.le_of_ble_eq_true rfl, Nat.le_of_ble_eq_true rfl⟩) hK hP hD hS hA 2 0 rfl rfl rfl [0, 1, 2, 3, 4, 5, 6, 7, 8, 9, 10] [] [0, 1, 2, 3, 4, 5, 6, 7, 8, 9, 10] (plC_7 cI cZ cII qc qc_who qc_pull qb qb_pull qb_strength qb_back qb_moods qb_tides qb_carts qu c_last c_who c_pull b_law b_places b_broad b_horses b_blinds b_besides b_tideCount b_cartCount b_due b_pairs b_pull b_strength b_back b_moods b_tides b_carts u) rfl (plF_7 cI cZ cII qc qc_who qc_pull qb qb_pull qb_strength qb_back qb_moods qb_tides qb_carts qu c_last c_who c_pull b_law b_places b_broad b_horses b_blinds b_besides b_tideCount b_cartCount b_due b_pairs b_pull b_strength b_back b_moods b_tides b_carts u c_last c_who c_pull b_law b_places b_broad b_horses b_blinds b_besides b_tideCount b_cartCount b_due b_pairs b_pull b_strength b_back b_moods b_tides b_carts u) (by decide) rfl hl.1 rfl (Nat.le_of_ble_eq_true rfl) dX2_minutes_87 ⟨Nat.zero_le _, Nat.zero_le _⟩ (fun H locs hP hD hS => ?_)
              refine lv_istore (lv' := [(11, .int r_6), (10, .int (y6_3 + ((((b_broad - y7_3) + (r_4 + n3)) - (1 : Int32)) / (r_4 + n3)))), (9, .int (r_4 + n3)), (0, .ref qc), (2, .ref qu), (3, .int n3), (4, .int n4), (5, .int (n1 * (3 : Int32))), (6, .int y6_3), (7, .int y7_3), (8, .int y8_3)]) hx hb dX2_minutes_90 hl (by decide) rfl (fun ls hl => ?_)
              refine lv_iload hx hb dX2_minutes_92 (lv_at hl 1 rfl) ?_
              refine lv_iload hx hb dX2_minutes_94 (lv_at hl 0 rfl) ?_
              refine lv_icmp_gt (tgt := 102) hx hb dX2_minutes_96 (by decide) (fun h9 => ?_) (fun h9 => ?_)
              · have hf := pg_t h9 hf
                refine lv_iload hx hb dX2_minutes_102 (lv_at hl 9 rfl) ?_
                refine lv_iload hx hb dX2_minutes_104 (lv_at hl 2 rfl) ?_
                refine lv_iload hx hb dX2_minutes_106 (lv_at hl 0 rfl) ?_
                refine lv_iload hx hb dX2_minutes_108 (lv_at hl 8 rfl) ?_
                refine lv_isub hx hb dX2_minutes_110 ?_
                refine lv_imul hx hb dX2_minutes_111 ?_
                refine lv_iadd hx hb dX2_minutes_112 ?_
                refine lv_istore (lv' := [(7, .int (y7_3 + ((r_4 + n3) * (r_6 - y6_3)))), (11, .int r_6), (10, .int (y6_3 + ((((b_broad - y7_3) + (r_4 + n3)) - (1 : Int32)) / (r_4 + n3)))), (9, .int (r_4 + n3)), (0, .ref qc), (2, .ref qu), (3, .int n3), (4, .int n4), (5, .int (n1 * (3 : Int32))), (6, .int y6_3), (8, .int y8_3)]) hx hb dX2_minutes_113 hl (by decide) rfl (fun ls hl => ?_)
                refine lv_iload hx hb dX2_minutes_115 (lv_at hl 1 rfl) ?_
                refine lv_istore (lv' := [(6, .int r_6), (7, .int (y7_3 + ((r_4 + n3) * (r_6 - y6_3)))), (11, .int r_6), (10, .int (y6_3 + ((((b_broad - y7_3) + (r_4 + n3)) - (1 : Int32)) / (r_4 + n3)))), (9, .int (r_4 + n3)), (0, .ref qc), (2, .ref qu), (3, .int n3), (4, .int n4), (5, .int (n1 * (3 : Int32))), (8, .int y8_3)]) hx hb dX2_minutes_117 hl (by decide) rfl (fun ls hl => ?_)
                refine lv_iinc (v := (y8_3 + (1 : Int32))) (lv' := [(8, .int (y8_3 + (1 : Int32))), (6, .int r_6), (7, .int (y7_3 + ((r_4 + n3) * (r_6 - y6_3)))), (11, .int r_6), (10, .int (y6_3 + ((((b_broad - y7_3) + (r_4 + n3)) - (1 : Int32)) / (r_4 + n3)))), (9, .int (r_4 + n3)), (0, .ref qc), (2, .ref qu), (3, .int n3), (4, .int n4), (5, .int (n1 * (3 : Int32)))]) hx hb dX2_minutes_119 hl (k := 10) rfl rfl (by decide) rfl (fun ls hl => ?_)
                refine lv_goto (tgt := 23) hx hb dX2_minutes_122 (by decide) ?_
                exact ih _ _ _ _ _ _ hP hD hS (lv_sub hl [6, 7, 8, 9, 10, 1, 2, 0] rfl) (hrec3 _ _ _ hf)
              · have hf := pg_f h9 hf
                refine lv_iload hx hb dX2_minutes_99 (lv_at hl 1 rfl) ?_
                exact RET _ _ _ _ _ dX2_minutes_101 hP hD hS hf
            · have hf := pg_f h9 hf
              refine lv_iconst (v := (-1 : Int32)) hx hb dX2_minutes_79 (by decide) ?_
              exact RET _ _ _ _ _ dX2_minutes_80 hP hD hS hf
          · have hf := pg_f h9 hf
            refine lv_iconst (v := (-1 : Int32)) hx hb dX2_minutes_47 (by decide) ?_
            exact RET _ _ _ _ _ dX2_minutes_48 hP hD hS hf
    exact WL3 fu _ _ _ _ _ _ hP hD hS (lv_sub hl [4, 6, 7, 8, 3, 2, 1, 0] rfl) hf
  · have hf := pg_t h9 hf
    refine lv_iconst (v := (-1 : Int32)) hx hb dX2_minutes_7 (by decide) ?_
    exact RET _ _ _ _ _ dX2_minutes_8 hP hD hS hf
def f_X2_oats (n1 : Int32) (n3 : Int32) (c_who : Nat → Int32) (c_pull : Nat → Int32) (u : Nat → Int32) : Option (Int32) :=
  bn1 (f_X2_isCrew n1) (fun (r_1 : Int32) =>
    if r_1 = 0 then
      some ((0 : Int32))
    else
      jn1 (fun (y5_2 : Int32) =>
        some (y5_2)
      ) (fun K78_2 =>
      lq2 (fun rec3 (y5_3 : Int32) (y6_3 : Int32) =>
        if ((n1 * (3 : Int32)) + (3 : Int32)) ≤ y6_3 then
          K78_2 y5_3
        else
          if y6_3 < 0 ∨ 687 ≤ (y6_3).toNatClampNeg then none else
          jn1 (fun (y5_5 : Int32) =>
            rec3 y5_5 (y6_3 + (1 : Int32))
          ) (fun J72_5 =>
          if (c_who (y6_3).toNatClampNeg) < 0 then
            J72_5 y5_3
          else
            if (6 : Int32) ≤ (c_who (y6_3).toNatClampNeg) then
              J72_5 y5_3
            else
              if (c_who (y6_3).toNatClampNeg) < 0 ∨ 6 ≤ ((c_who (y6_3).toNatClampNeg)).toNatClampNeg then none else
              J72_5 (y5_3 + ((c_pull (y6_3).toNatClampNeg) * (if n3 < (u ((c_who (y6_3).toNatClampNeg)).toNatClampNeg) then n3 else (u ((c_who (y6_3).toNatClampNeg)).toNatClampNeg))))
          )
      ) fu (0 : Int32) (n1 * (3 : Int32))
      )
  )
abbrev rm_X2_oats : Room := { frames := 1, cells := 0, slots := 0, locals := 40 }
theorem dk_X2_oats : yX2_oats.cls = RX2 ∧ yX2_oats.cls ≠ "java/lang/invoke/MethodHandle" ∧ yX2_oats.cls ≠ "java/lang/invoke/VarHandle" ∧ (parseMethodDescriptor yX2_oats.desc).map (fun d => d.parameters.length) = some 3 := by decide +kernel
set_option maxHeartbeats 4000000 in
set_option maxRecDepth 100000 in
theorem c_X2_oats (l : Launch) (dC : Nat → ClassId) (dI : Nat → Nat → Nat) (cI cZ cII : ClassId) (qc qc_who qc_pull qb qb_pull qb_strength qb_back qb_moods qb_tides qb_carts qu : Nat) (sz : Nat) (c_last : Int32) (c_who : Nat → Int32) (c_pull : Nat → Int32) (b_law : Int32) (b_places : Int32) (b_broad : Int32) (b_horses : Int32) (b_blinds : Int32) (b_besides : Int32) (b_tideCount : Int32) (b_cartCount : Int32) (b_due : Int32) (b_pairs : Int64) (b_pull : Nat → Int32) (b_strength : Nat → Int32) (b_back : Nat → Int32) (b_moods : Nat → Int32) (b_tides : Nat → Int32) (b_carts : Nat → Int32) (u : Nat → Int32) (n1 : Int32) (n3 : Int32) (rr : Int32) (hf : f_X2_oats n1 n3 c_who c_pull u = some (rr)) : Met l yX2_oats (wM yX2_oats cX2_oats 8 (some .int)) rm_X2_oats (PreW (dC, dI) (tyA cI cZ cII) (W_X2c_X0b_au6 cI cZ cII qc qc_who qc_pull qb qb_pull qb_strength qb_back qb_moods qb_tides qb_carts qu c_last c_who c_pull b_law b_places b_broad b_horses b_blinds b_besides b_tideCount b_cartCount b_due b_pairs b_pull b_strength b_back b_moods b_tides b_carts u) sz [.ref qc, .int n1, .ref qu, .int n3]) (PostI (dC, dI) (tyA cI cZ cII) rr (W_X2c_X0b_au6 cI cZ cII qc qc_who qc_pull qb qb_pull qb_strength qb_back qb_moods qb_tides qb_carts qu c_last c_who c_pull b_law b_places b_broad b_horses b_blinds b_besides b_tideCount b_cartCount b_due b_pairs b_pull b_strength b_back b_moods b_tides b_carts u) (W_X2c_X0b_au6 cI cZ cII qc qc_who qc_pull qb qb_pull qb_strength qb_back qb_moods qb_tides qb_carts qu c_last c_who c_pull b_law b_places b_broad b_horses b_blinds b_besides b_tideCount b_cartCount b_due b_pairs b_pull b_strength b_back b_moods b_tides b_carts u) sz) 0 0 (va_A (W_X2c_X0b_au6 cI cZ cII qc qc_who qc_pull qb qb_pull qb_strength qb_back qb_moods qb_tides qb_carts qu c_last c_who c_pull b_law b_places b_broad b_horses b_blinds b_besides b_tideCount b_cartCount b_due b_pairs b_pull b_strength b_back b_moods b_tides b_carts u) sz) := by
  refine Met.ofW (cc := cX2_oats) (maxL := 8) (ret := (some .int)) (by decide) rfl ?_
  intro p e s m args below meth c s₁ B hml hv
  obtain ⟨rfl, hsz, hP, hK, hD0⟩ := hv
  have hx := B.exec
  have hb := B.bytes
  have hr := B.returns
  have hts := atoms_spec (ws := wM yX2_oats cX2_oats 8 (some .int)) B.pre
  have hown : s.vm.findClass RX2 = some m.cls := findClass_of_methodNamed B.named
  have hlocks := B.notSynchronized
  subst hsz
  have hD := hD0.self (sz := s.heap.size)
  obtain ⟨A, hAe⟩ : ∃ A, A = va_A (W_X2c_X0b_au6 cI cZ cII qc qc_who qc_pull qb qb_pull qb_strength qb_back qb_moods qb_tides qb_carts qu c_last c_who c_pull b_law b_places b_broad b_horses b_blinds b_besides b_tideCount b_cartCount b_due b_pairs b_pull b_strength b_back b_moods b_tides b_carts u) s.heap.size := ⟨_, rfl⟩
  rw [← hAe] at hD
  have hA : ∀ q : Nat, s.heap.size ≤ q → A q := fun q h => by rw [hAe]; exact Or.inr h
  have hS : va_S A s.heap s.heap [] := va_S.rf
  have hl := lv_entry ([.ref qc, .int n1, .ref qu, .int n3]) (n := 8) (Nat.le_of_ble_eq_true rfl)
  rw [lg_entry_eq]
  generalize (lg_sl ([.ref qc, .int n1, .ref qu, .int n3]) ++ List.replicate (8 - (lg_sl ([.ref qc, .int n1, .ref qu, .int n3])).length) Slot.unset).toArray = ls at hl ⊢
  have hl : lv_has ls 8 [(0, .ref qc), (1, .int n1), (2, .ref qu), (3, .int n3)] := hl
  generalize ([.ref qc, .int n1, .ref qu, .int n3] : List Value).toArray = args at hts ⊢
  have hw : ∀ w ∈ wsL_law, w.before args s = true := fun w h => hts w (List.mem_cons_of_mem _ h)
  refine pg_start (fun Q hQ => ?_)
  have RET : ∀ (H : Heap) (locs : List Loc) (ls : Array Slot) (pc : Nat) (v : Int32) , decode cX2_oats pc = .ok (.ireturn, 1) → va_P (dC, dI) vwCl (W_X2c_X0b_au6 cI cZ cII qc qc_who qc_pull qb qb_pull qb_strength qb_back qb_moods qb_tides qb_carts qu c_last c_who c_pull b_law b_places b_broad b_horses b_blinds b_besides b_tideCount b_cartCount b_due b_pairs b_pull b_strength b_back b_moods b_tides b_carts u) H → va_D A (W_X2c_X0b_au6 cI cZ cII qc qc_who qc_pull qb qb_pull qb_strength qb_back qb_moods qb_tides qb_carts qu c_last c_who c_pull b_law b_places b_broad b_horses b_blinds b_besides b_tideCount b_cartCount b_due b_pairs b_pull b_strength b_back b_moods b_tides b_carts u) → va_S A s.heap H locs → (some (v) : Option (Int32)) = some (rr) → W p l e rm_X2_oats s m args below meth c H locs 0 0 Q (F0 m pc ls [.int v]) := by
    intro H locs ls pc v hd hP hD hS he
    subst hAe; subst hQ
    obtain rfl := Option.some.inj he
    exact pg_iret hx hb hr hlocks hK hP hD hS hd
  unfold f_X2_oats at hf
  refine lv_iload_n hx hb dX2_oats_0 rfl (lv_at hl 1 rfl) ?_
  obtain ⟨r_1, hc, hf⟩ := bn1_s hf
  refine pg_cSi (As := [.int n1]) (rest := []) (wf := (W_X2c_X0b_au6 cI cZ cII qc qc_who qc_pull qb qb_pull qb_strength qb_back qb_moods qb_tides qb_carts qu c_last c_who c_pull b_law b_places b_broad b_horses b_blinds b_besides b_tideCount b_cartCount b_due b_pairs b_pull b_strength b_back b_moods b_tides b_carts u)) ⟨hx, hb, hml, hown, hw⟩ (c_X2_isCrew l dC dI cI cZ cII  s.heap.size  n1 r_1 hc) (va_cwS 1 hts (wM_S mw_17_16 mw_17_17 mw_2_0 mw_17_18) rfl rfl rfl dk_X2_isCrew ⟨Nat.le_of_ble_eq_true rfl, Nat.le_of_ble_eq_true rfl⟩) hK hP hD hS hA [] [0, 1, 2, 3, 4, 5, 6, 7, 8, 9, 10] [0, 1, 2, 3, 4, 5, 6, 7, 8, 9, 10] (plC_6 cI cZ cII qc qc_who qc_pull qb qb_pull qb_strength qb_back qb_moods qb_tides qb_carts qu c_last c_who c_pull b_law b_places b_broad b_horses b_blinds b_besides b_tideCount b_cartCount b_due b_pairs b_pull b_strength b_back b_moods b_tides b_carts u) rfl (plF_6 cI cZ cII qc qc_who qc_pull qb qb_pull qb_strength qb_back qb_moods qb_tides qb_carts qu c_last c_who c_pull b_law b_places b_broad b_horses b_blinds b_besides b_tideCount b_cartCount b_due b_pairs b_pull b_strength b_back b_moods b_tides b_carts u ) (by decide) rfl hl.1 rfl (Nat.le_of_ble_eq_true rfl) dX2_oats_1 ⟨Nat.zero_le _, Nat.zero_le _⟩ (fun H locs hP hD hS => ?_)
  refine lv_if_ne (tgt := 9) hx hb dX2_oats_4 (by decide) (fun h9 => ?_) (fun h9 => ?_)
  · have hf := pg_f h9 hf
    refine lv_iload_n hx hb dX2_oats_9 rfl (lv_at hl 1 rfl) ?_
    refine lv_iconst (v := (3 : Int32)) hx hb dX2_oats_10 (by decide) ?_
    refine lv_imul hx hb dX2_oats_11 ?_
    refine lv_istore (lv' := [(4, .int (n1 * (3 : Int32))), (0, .ref qc), (1, .int n1), (2, .ref qu), (3, .int n3)]) hx hb dX2_oats_12 hl (by decide) rfl (fun ls hl => ?_)
    refine lv_iconst (v := (0 : Int32)) hx hb dX2_oats_14 (by decide) ?_
    refine lv_istore (lv' := [(5, .int (0 : Int32)), (4, .int (n1 * (3 : Int32))), (0, .ref qc), (1, .int n1), (2, .ref qu), (3, .int n3)]) hx hb dX2_oats_15 hl (by decide) rfl (fun ls hl => ?_)
    refine lv_iload hx hb dX2_oats_17 (lv_at hl 1 rfl) ?_
    refine lv_istore (lv' := [(6, .int (n1 * (3 : Int32))), (5, .int (0 : Int32)), (4, .int (n1 * (3 : Int32))), (0, .ref qc), (1, .int n1), (2, .ref qu), (3, .int n3)]) hx hb dX2_oats_19 hl (by decide) rfl (fun ls hl => ?_)
    obtain ⟨K78_2, hK78_2, hf⟩ := jn1_s hf
    have WK78_2 : ∀ (y5_2 : Int32) (H : Heap) (locs : List Loc) (ls : Array Slot), va_P (dC, dI) vwCl (W_X2c_X0b_au6 cI cZ cII qc qc_who qc_pull qb qb_pull qb_strength qb_back qb_moods qb_tides qb_carts qu c_last c_who c_pull b_law b_places b_broad b_horses b_blinds b_besides b_tideCount b_cartCount b_due b_pairs b_pull b_strength b_back b_moods b_tides b_carts u) H → va_D A (W_X2c_X0b_au6 cI cZ cII qc qc_who qc_pull qb qb_pull qb_strength qb_back qb_moods qb_tides qb_carts qu c_last c_who c_pull b_law b_places b_broad b_horses b_blinds b_besides b_tideCount b_cartCount b_due b_pairs b_pull b_strength b_back b_moods b_tides b_carts u) → va_S A s.heap H locs → lv_has ls 8 [(5, .int y5_2)] → K78_2 y5_2 = some (rr) → W p l e rm_X2_oats s m args below meth c H locs 0 0 Q (F0 m 78 ls []) := by
      intro y5_2 H locs ls hP hD hS hl hf
      have hf := hK78_2 _ hf
      refine lv_iload hx hb dX2_oats_78 (lv_at hl 0 rfl) ?_
      exact RET _ _ _ _ _ dX2_oats_80 hP hD hS hf
    obtain ⟨B3, hB3, hf⟩ := lq2_n hf
    have WL3 : ∀ (n9 : Nat) (y5_3 : Int32) (y6_3 : Int32) (H : Heap) (locs : List Loc) (ls : Array Slot), va_P (dC, dI) vwCl (W_X2c_X0b_au6 cI cZ cII qc qc_who qc_pull qb qb_pull qb_strength qb_back qb_moods qb_tides qb_carts qu c_last c_who c_pull b_law b_places b_broad b_horses b_blinds b_besides b_tideCount b_cartCount b_due b_pairs b_pull b_strength b_back b_moods b_tides b_carts u) H → va_D A (W_X2c_X0b_au6 cI cZ cII qc qc_who qc_pull qb qb_pull qb_strength qb_back qb_moods qb_tides qb_carts qu c_last c_who c_pull b_law b_places b_broad b_horses b_blinds b_besides b_tideCount b_cartCount b_due b_pairs b_pull b_strength b_back b_moods b_tides b_carts u) → va_S A s.heap H locs → lv_has ls 8 [(0, .ref qc), (2, .ref qu), (3, .int n3), (4, .int (n1 * (3 : Int32))), (5, .int y5_3), (6, .int y6_3)] → lq2 B3 n9 y5_3 y6_3 = some (rr) → W p l e rm_X2_oats s m args below meth c H locs 0 0 Q (F0 m 21 ls []) := by
      intro n9
      induction n9 with
      | zero => intro y5_3 y6_3 H locs ls hP hD hS hl hf; cases hf
      | succ n9 ih =>
        intro y5_3 y6_3 H locs ls hP hD hS hl hf
        obtain ⟨rec3, hrec3, hf⟩ := lq2_s hf
        have hf := hB3 rec3 _ _ hf
        refine lv_iload hx hb dX2_oats_21 (lv_at hl 5 rfl) ?_
        refine lv_iload hx hb dX2_oats_23 (lv_at hl 3 rfl) ?_
        refine lv_iconst (v := (3 : Int32)) hx hb dX2_oats_25 (by decide) ?_
        refine lv_iadd hx hb dX2_oats_26 ?_
        refine lv_icmp_ge (tgt := 78) hx hb dX2_oats_27 (by decide) (fun h9 => ?_) (fun h9 => ?_)
        · have hf := pg_t h9 hf
          exact WK78_2 _ _ _ _ hP hD hS (lv_sub hl [4] rfl) hf
        · have hf := pg_f h9 hf
          refine lv_aload_n hx hb dX2_oats_30 rfl (lv_at hl 0 rfl) ?_
          refine va_get (D := (dC, dI)) (ci := 2) (v := .ref qc_who) (C := RX2) (T := TX2) (N := 4) hx hb hw inlX2 hown hK hP 0 rfl rfl 2 (by decide) (hw _ mw_3_19) (fun _ h9 => h9) rfl dX2_oats_31 ?_
          refine lv_iload hx hb dX2_oats_34 (lv_at hl 5 rfl) ?_
          obtain ⟨hi4, hf⟩ := pg_chk hf
          refine va_iald hx hb hK hP 1 0 rfl rfl hi4 dX2_oats_36 ?_
          refine lv_istore (lv' := [(7, .int (c_who (y6_3).toNatClampNeg)), (0, .ref qc), (2, .ref qu), (3, .int n3), (4, .int (n1 * (3 : Int32))), (5, .int y5_3), (6, .int y6_3)]) hx hb dX2_oats_37 hl (by decide) rfl (fun ls hl => ?_)
          refine lv_iload hx hb dX2_oats_39 (lv_at hl 0 rfl) ?_
          obtain ⟨J72_5, hJ72_5, hf⟩ := jn1_s hf
          have WJ72_5 : ∀ (y5_5 : Int32) (H : Heap) (locs : List Loc) (ls : Array Slot), va_P (dC, dI) vwCl (W_X2c_X0b_au6 cI cZ cII qc qc_who qc_pull qb qb_pull qb_strength qb_back qb_moods qb_tides qb_carts qu c_last c_who c_pull b_law b_places b_broad b_horses b_blinds b_besides b_tideCount b_cartCount b_due b_pairs b_pull b_strength b_back b_moods b_tides b_carts u) H → va_D A (W_X2c_X0b_au6 cI cZ cII qc qc_who qc_pull qb qb_pull qb_strength qb_back qb_moods qb_tides qb_carts qu c_last c_who c_pull b_law b_places b_broad b_horses b_blinds b_besides b_tideCount b_cartCount b_due b_pairs b_pull b_strength b_back b_moods b_tides b_carts u) → va_S A s.heap H locs → lv_has ls 8 [(0, .ref qc), (2, .ref qu), (3, .int n3), (4, .int (n1 * (3 : Int32))), (5, .int y5_5), (6, .int y6_3)] → J72_5 y5_5 = some (rr) → W p l e rm_X2_oats s m args below meth c H locs 0 0 Q (F0 m 72 ls []) := by
            intro y5_5 H locs ls hP hD hS hl hf
            have hf := hJ72_5 _ hf
            refine lv_iinc (v := (y6_3 + (1 : Int32))) (lv' := [(6, .int (y6_3 + (1 : Int32))), (0, .ref qc), (2, .ref qu), (3, .int n3), (4, .int (n1 * (3 : Int32))), (5, .int y5_5)]) hx hb dX2_oats_72 hl (k := 5) rfl rfl (by decide) rfl (fun ls hl => ?_)
            refine lv_goto (tgt := 21) hx hb dX2_oats_75 (by decide) ?_
            exact ih _ _ _ _ _ hP hD hS (lv_sub hl [1, 2, 3, 4, 5, 0] rfl) (hrec3 _ _ hf)
          refine lv_if_lt (tgt := 72) hx hb dX2_oats_41 (by decide) (fun h9 => ?_) (fun h9 => ?_)
          · have hf := pg_t h9 hf
            exact WJ72_5 _ _ _ _ hP hD hS (lv_sub hl [1, 2, 3, 4, 5, 6] rfl) hf
          · have hf := pg_f h9 hf
            refine lv_iload hx hb dX2_oats_44 (lv_at hl 0 rfl) ?_
            refine lv_bipush (v := (6 : Int32)) hx hb dX2_oats_46 (by decide) ?_
            refine lv_icmp_ge (tgt := 72) hx hb dX2_oats_48 (by decide) (fun h9 => ?_) (fun h9 => ?_)
            · have hf := pg_t h9 hf
              exact WJ72_5 _ _ _ _ hP hD hS (lv_sub hl [1, 2, 3, 4, 5, 6] rfl) hf
            · have hf := pg_f h9 hf
              refine lv_iload hx hb dX2_oats_51 (lv_at hl 5 rfl) ?_
              refine lv_aload_n hx hb dX2_oats_53 rfl (lv_at hl 1 rfl) ?_
              refine va_get (D := (dC, dI)) (ci := 2) (v := .ref qc_pull) (C := RX2) (T := TX2) (N := 4) hx hb hw inlX2 hown hK hP 0 rfl rfl 3 (by decide) (hw _ mw_3_20) (fun _ h9 => h9) rfl dX2_oats_54 ?_
              refine lv_iload hx hb dX2_oats_57 (lv_at hl 6 rfl) ?_
              refine va_iald hx hb hK hP 2 0 rfl rfl hi4 dX2_oats_59 ?_
              refine lv_aload_n hx hb dX2_oats_60 rfl (lv_at hl 2 rfl) ?_
              refine lv_iload hx hb dX2_oats_61 (lv_at hl 0 rfl) ?_
              obtain ⟨hi6, hf⟩ := pg_chk hf
              refine va_iald hx hb hK hP 10 0 rfl rfl hi6 dX2_oats_63 ?_
              refine lv_iload_n hx hb dX2_oats_64 rfl (lv_at hl 3 rfl) ?_
              refine va_mmin hx hb (hml.trans hl.1.symm) hown (hw _ mw_29_10) (hw _ mw_28_19) (hw _ mw_18_1) (hw _ mw_28_20) (Nat.le_of_ble_eq_true rfl) (Nat.le_of_ble_eq_true rfl) (Nat.zero_le _) (Nat.zero_le _) dX2_oats_65 ?_
              refine lv_imul hx hb dX2_oats_68 ?_
              refine lv_iadd hx hb dX2_oats_69 ?_
              refine lv_istore (lv' := [(5, .int (y5_3 + ((c_pull (y6_3).toNatClampNeg) * (if n3 < (u ((c_who (y6_3).toNatClampNeg)).toNatClampNeg) then n3 else (u ((c_who (y6_3).toNatClampNeg)).toNatClampNeg))))), (7, .int (c_who (y6_3).toNatClampNeg)), (0, .ref qc), (2, .ref qu), (3, .int n3), (4, .int (n1 * (3 : Int32))), (6, .int y6_3)]) hx hb dX2_oats_70 hl (by decide) rfl (fun ls hl => ?_)
              exact WJ72_5 _ _ _ _ hP hD hS (lv_sub hl [2, 3, 4, 5, 0, 6] rfl) hf
    exact WL3 fu _ _ _ _ _ hP hD hS (lv_sub hl [3, 5, 6, 2, 1, 0] rfl) hf
  · have hf := pg_t h9 hf
    refine lv_iconst (v := (0 : Int32)) hx hb dX2_oats_7 (by decide) ?_
    exact RET _ _ _ _ _ dX2_oats_8 hP hD hS hf
def f_X2_tire (n1 : Int32) (n2 : Int32) (c_who : Nat → Int32) (b_horses : Int32) (b_strength : Nat → Int32) (b_back : Nat → Int32) (u : Nat → Int32) (v : Nat → Int32) : Option ((Nat → Int32)) :=
  jn1 (fun (v_1 : Nat → Int32) =>
    some (v_1)
  ) (fun K84_1 =>
  lq2 (fun rec2 (y5_2 : Int32) (v_2 : Nat → Int32) =>
    if b_horses ≤ y5_2 then
      K84_1 v_2
    else
      if (6 : Int32) ≤ y5_2 then
        K84_1 v_2
      else
        bn1 (f_X2_takes n1 y5_2 c_who) (fun (r_3 : Int32) =>
          jn1 (fun (z2_4 : Int32) =>
            if y5_2 < 0 ∨ 6 ≤ (y5_2).toNatClampNeg then none else
            rec2 (y5_2 + (1 : Int32)) (upd v_2 (y5_2).toNatClampNeg z2_4)
          ) (fun J77_4 =>
          if r_3 = 0 then
            if y5_2 < 0 ∨ 6 ≤ (y5_2).toNatClampNeg then none else
            J77_4 (if ((u (y5_2).toNatClampNeg) + (b_back (y5_2).toNatClampNeg)) < (b_strength (y5_2).toNatClampNeg) then ((u (y5_2).toNatClampNeg) + (b_back (y5_2).toNatClampNeg)) else (b_strength (y5_2).toNatClampNeg))
          else
            if y5_2 < 0 ∨ 6 ≤ (y5_2).toNatClampNeg then none else
            J77_4 (if (0 : Int32) < ((u (y5_2).toNatClampNeg) - n2) then ((u (y5_2).toNatClampNeg) - n2) else (0 : Int32))
          )
        )
  ) fu (0 : Int32) v
  )
set_option maxRecDepth 100000 in
theorem plC_8 (cI cZ cII : ClassId) (qc qc_who qc_pull qb qb_pull qb_strength qb_back qb_moods qb_tides qb_carts qu qv : Nat) (c_last : Int32) (c_who : Nat → Int32) (c_pull : Nat → Int32) (b_law : Int32) (b_places : Int32) (b_broad : Int32) (b_horses : Int32) (b_blinds : Int32) (b_besides : Int32) (b_tideCount : Int32) (b_cartCount : Int32) (b_due : Int32) (b_pairs : Int64) (b_pull : Nat → Int32) (b_strength : Nat → Int32) (b_back : Nat → Int32) (b_moods : Nat → Int32) (b_tides : Nat → Int32) (b_carts : Nat → Int32) (u : Nat → Int32) (v : Nat → Int32) : ([0, 1, 2, 3, 4, 5, 6, 7, 8, 9] : List Nat).map (fun i => (W_X2c_X0b_au6_av6 cI cZ cII qc qc_who qc_pull qb qb_pull qb_strength qb_back qb_moods qb_tides qb_carts qu qv c_last c_who c_pull b_law b_places b_broad b_horses b_blinds b_besides b_tideCount b_cartCount b_due b_pairs b_pull b_strength b_back b_moods b_tides b_carts u v)[i]?) = (W_X2c_X0b cI cZ cII qc qc_who qc_pull qb qb_pull qb_strength qb_back qb_moods qb_tides qb_carts c_last c_who c_pull b_law b_places b_broad b_horses b_blinds b_besides b_tideCount b_cartCount b_due b_pairs b_pull b_strength b_back b_moods b_tides b_carts).map some := rfl
set_option maxRecDepth 100000 in
theorem plF_8 (cI cZ cII : ClassId) (qc qc_who qc_pull qb qb_pull qb_strength qb_back qb_moods qb_tides qb_carts qu qv : Nat) (c_last : Int32) (c_who : Nat → Int32) (c_pull : Nat → Int32) (b_law : Int32) (b_places : Int32) (b_broad : Int32) (b_horses : Int32) (b_blinds : Int32) (b_besides : Int32) (b_tideCount : Int32) (b_cartCount : Int32) (b_due : Int32) (b_pairs : Int64) (b_pull : Nat → Int32) (b_strength : Nat → Int32) (b_back : Nat → Int32) (b_moods : Nat → Int32) (b_tides : Nat → Int32) (b_carts : Nat → Int32) (u : Nat → Int32) (v : Nat → Int32) (b9c_last : Int32) (b9c_who : Nat → Int32) (b9c_pull : Nat → Int32) (b9b_law : Int32) (b9b_places : Int32) (b9b_broad : Int32) (b9b_horses : Int32) (b9b_blinds : Int32) (b9b_besides : Int32) (b9b_tideCount : Int32) (b9b_cartCount : Int32) (b9b_due : Int32) (b9b_pairs : Int64) (b9b_pull : Nat → Int32) (b9b_strength : Nat → Int32) (b9b_back : Nat → Int32) (b9b_moods : Nat → Int32) (b9b_tides : Nat → Int32) (b9b_carts : Nat → Int32) : ([2, 3, 4, 5, 6, 7, 8, 9, 10, 11, 0, 1] : List Nat).map (fun i => (pickW (W_X2c_X0b_au6_av6 cI cZ cII qc qc_who qc_pull qb qb_pull qb_strength qb_back qb_moods qb_tides qb_carts qu qv c_last c_who c_pull b_law b_places b_broad b_horses b_blinds b_besides b_tideCount b_cartCount b_due b_pairs b_pull b_strength b_back b_moods b_tides b_carts u v) ([10, 11] : List Nat) ++ (W_X2c_X0b cI cZ cII qc qc_who qc_pull qb qb_pull qb_strength qb_back qb_moods qb_tides qb_carts b9c_last b9c_who b9c_pull b9b_law b9b_places b9b_broad b9b_horses b9b_blinds b9b_besides b9b_tideCount b9b_cartCount b9b_due b9b_pairs b9b_pull b9b_strength b9b_back b9b_moods b9b_tides b9b_carts))[i]?) = (W_X2c_X0b_au6_av6 cI cZ cII qc qc_who qc_pull qb qb_pull qb_strength qb_back qb_moods qb_tides qb_carts qu qv b9c_last b9c_who b9c_pull b9b_law b9b_places b9b_broad b9b_horses b9b_blinds b9b_besides b9b_tideCount b9b_cartCount b9b_due b9b_pairs b9b_pull b9b_strength b9b_back b9b_moods b9b_tides b9b_carts u v).map some := rfl
abbrev rm_X2_tire : Room := { frames := 3, cells := 0, slots := 0, locals := 64 }
theorem dk_X2_tire : yX2_tire.cls = RX2 ∧ yX2_tire.cls ≠ "java/lang/invoke/MethodHandle" ∧ yX2_tire.cls ≠ "java/lang/invoke/VarHandle" ∧ (parseMethodDescriptor yX2_tire.desc).map (fun d => d.parameters.length) = some 4 := by decide +kernel
set_option maxHeartbeats 4000000 in
set_option maxRecDepth 100000 in
theorem c_X2_tire (l : Launch) (dC : Nat → ClassId) (dI : Nat → Nat → Nat) (cI cZ cII : ClassId) (qc qc_who qc_pull qb qb_pull qb_strength qb_back qb_moods qb_tides qb_carts qu qv : Nat) (sz : Nat) (c_last : Int32) (c_who : Nat → Int32) (c_pull : Nat → Int32) (b_law : Int32) (b_places : Int32) (b_broad : Int32) (b_horses : Int32) (b_blinds : Int32) (b_besides : Int32) (b_tideCount : Int32) (b_cartCount : Int32) (b_due : Int32) (b_pairs : Int64) (b_pull : Nat → Int32) (b_strength : Nat → Int32) (b_back : Nat → Int32) (b_moods : Nat → Int32) (b_tides : Nat → Int32) (b_carts : Nat → Int32) (u : Nat → Int32) (v : Nat → Int32) (n1 : Int32) (n2 : Int32) (v' : Nat → Int32) (hf : f_X2_tire n1 n2 c_who b_horses b_strength b_back u v = some (v')) : Met l yX2_tire (wM yX2_tire cX2_tire 6 none) rm_X2_tire (PreW (dC, dI) (tyA cI cZ cII) (W_X2c_X0b_au6_av6 cI cZ cII qc qc_who qc_pull qb qb_pull qb_strength qb_back qb_moods qb_tides qb_carts qu qv c_last c_who c_pull b_law b_places b_broad b_horses b_blinds b_besides b_tideCount b_cartCount b_due b_pairs b_pull b_strength b_back b_moods b_tides b_carts u v) sz [.ref qc, .int n1, .int n2, .ref qu, .ref qv]) (PostV (dC, dI) (tyA cI cZ cII) (W_X2c_X0b_au6_av6 cI cZ cII qc qc_who qc_pull qb qb_pull qb_strength qb_back qb_moods qb_tides qb_carts qu qv c_last c_who c_pull b_law b_places b_broad b_horses b_blinds b_besides b_tideCount b_cartCount b_due b_pairs b_pull b_strength b_back b_moods b_tides b_carts u v) (W_X2c_X0b_au6_av6 cI cZ cII qc qc_who qc_pull qb qb_pull qb_strength qb_back qb_moods qb_tides qb_carts qu qv c_last c_who c_pull b_law b_places b_broad b_horses b_blinds b_besides b_tideCount b_cartCount b_due b_pairs b_pull b_strength b_back b_moods b_tides b_carts u v') sz) 0 0 (va_A (W_X2c_X0b_au6_av6 cI cZ cII qc qc_who qc_pull qb qb_pull qb_strength qb_back qb_moods qb_tides qb_carts qu qv c_last c_who c_pull b_law b_places b_broad b_horses b_blinds b_besides b_tideCount b_cartCount b_due b_pairs b_pull b_strength b_back b_moods b_tides b_carts u v) sz) := by
  refine Met.ofW (cc := cX2_tire) (maxL := 6) (ret := none) (by decide) rfl ?_
  intro p e s m args below meth c s₁ B hml hv
  obtain ⟨rfl, hsz, hP, hK, hD0⟩ := hv
  have hx := B.exec
  have hb := B.bytes
  have hr := B.returns
  have hts := atoms_spec (ws := wM yX2_tire cX2_tire 6 none) B.pre
  have hown : s.vm.findClass RX2 = some m.cls := findClass_of_methodNamed B.named
  have hlocks := B.notSynchronized
  subst hsz
  have hD := hD0.self (sz := s.heap.size)
  obtain ⟨A, hAe⟩ : ∃ A, A = va_A (W_X2c_X0b_au6_av6 cI cZ cII qc qc_who qc_pull qb qb_pull qb_strength qb_back qb_moods qb_tides qb_carts qu qv c_last c_who c_pull b_law b_places b_broad b_horses b_blinds b_besides b_tideCount b_cartCount b_due b_pairs b_pull b_strength b_back b_moods b_tides b_carts u v) s.heap.size := ⟨_, rfl⟩
  rw [← hAe] at hD
  have hA : ∀ q : Nat, s.heap.size ≤ q → A q := fun q h => by rw [hAe]; exact Or.inr h
  have hS : va_S A s.heap s.heap [] := va_S.rf
  have hl := lv_entry ([.ref qc, .int n1, .int n2, .ref qu, .ref qv]) (n := 6) (Nat.le_of_ble_eq_true rfl)
  rw [lg_entry_eq]
  generalize (lg_sl ([.ref qc, .int n1, .int n2, .ref qu, .ref qv]) ++ List.replicate (6 - (lg_sl ([.ref qc, .int n1, .int n2, .ref qu, .ref qv])).length) Slot.unset).toArray = ls at hl ⊢
  have hl : lv_has ls 6 [(0, .ref qc), (1, .int n1), (2, .int n2), (3, .ref qu), (4, .ref qv)] := hl
  generalize ([.ref qc, .int n1, .int n2, .ref qu, .ref qv] : List Value).toArray = args at hts ⊢
  have hw : ∀ w ∈ wsL_law, w.before args s = true := fun w h => hts w (List.mem_cons_of_mem _ h)
  refine pg_start (fun Q hQ => ?_)
  have RET : ∀ (H : Heap) (locs : List Loc) (ls : Array Slot) (pc : Nat) (x0 : Nat → Int32) , decode cX2_tire pc = .ok (.return_, 1) → va_P (dC, dI) vwCl (W_X2c_X0b_au6_av6 cI cZ cII qc qc_who qc_pull qb qb_pull qb_strength qb_back qb_moods qb_tides qb_carts qu qv c_last c_who c_pull b_law b_places b_broad b_horses b_blinds b_besides b_tideCount b_cartCount b_due b_pairs b_pull b_strength b_back b_moods b_tides b_carts u x0) H → va_D A (W_X2c_X0b_au6_av6 cI cZ cII qc qc_who qc_pull qb qb_pull qb_strength qb_back qb_moods qb_tides qb_carts qu qv c_last c_who c_pull b_law b_places b_broad b_horses b_blinds b_besides b_tideCount b_cartCount b_due b_pairs b_pull b_strength b_back b_moods b_tides b_carts u x0) → va_S A s.heap H locs → (some (x0) : Option ((Nat → Int32))) = some (v') → W p l e rm_X2_tire s m args below meth c H locs 0 0 Q (F0 m pc ls []) := by
    intro H locs ls pc x0 hd hP hD hS he
    subst hAe; subst hQ
    obtain rfl := Option.some.inj he
    exact pg_vret hx hb hr hlocks hK hP hD hS hd
  unfold f_X2_tire at hf
  refine lv_iconst (v := (0 : Int32)) hx hb dX2_tire_0 (by decide) ?_
  refine lv_istore (lv' := [(5, .int (0 : Int32)), (0, .ref qc), (1, .int n1), (2, .int n2), (3, .ref qu), (4, .ref qv)]) hx hb dX2_tire_1 hl (by decide) rfl (fun ls hl => ?_)
  obtain ⟨K84_1, hK84_1, hf⟩ := jn1_s hf
  have WK84_1 : ∀ (v_1 : Nat → Int32) (H : Heap) (locs : List Loc) (ls : Array Slot), va_P (dC, dI) vwCl (W_X2c_X0b_au6_av6 cI cZ cII qc qc_who qc_pull qb qb_pull qb_strength qb_back qb_moods qb_tides qb_carts qu qv c_last c_who c_pull b_law b_places b_broad b_horses b_blinds b_besides b_tideCount b_cartCount b_due b_pairs b_pull b_strength b_back b_moods b_tides b_carts u v_1) H → va_D A (W_X2c_X0b_au6_av6 cI cZ cII qc qc_who qc_pull qb qb_pull qb_strength qb_back qb_moods qb_tides qb_carts qu qv c_last c_who c_pull b_law b_places b_broad b_horses b_blinds b_besides b_tideCount b_cartCount b_due b_pairs b_pull b_strength b_back b_moods b_tides b_carts u v_1) → va_S A s.heap H locs → lv_has ls 6 [] → K84_1 v_1 = some (v') → W p l e rm_X2_tire s m args below meth c H locs 0 0 Q (F0 m 84 ls []) := by
    intro v_1 H locs ls hP hD hS hl hf
    have hf := hK84_1 _ hf
    exact RET _ _ _ _ _ dX2_tire_84 hP hD hS hf
  obtain ⟨B2, hB2, hf⟩ := lq2_n hf
  have WL2 : ∀ (n9 : Nat) (y5_2 : Int32) (v_2 : Nat → Int32) (H : Heap) (locs : List Loc) (ls : Array Slot), va_P (dC, dI) vwCl (W_X2c_X0b_au6_av6 cI cZ cII qc qc_who qc_pull qb qb_pull qb_strength qb_back qb_moods qb_tides qb_carts qu qv c_last c_who c_pull b_law b_places b_broad b_horses b_blinds b_besides b_tideCount b_cartCount b_due b_pairs b_pull b_strength b_back b_moods b_tides b_carts u v_2) H → va_D A (W_X2c_X0b_au6_av6 cI cZ cII qc qc_who qc_pull qb qb_pull qb_strength qb_back qb_moods qb_tides qb_carts qu qv c_last c_who c_pull b_law b_places b_broad b_horses b_blinds b_besides b_tideCount b_cartCount b_due b_pairs b_pull b_strength b_back b_moods b_tides b_carts u v_2) → va_S A s.heap H locs → lv_has ls 6 [(0, .ref qc), (1, .int n1), (2, .int n2), (3, .ref qu), (4, .ref qv), (5, .int y5_2)] → lq2 B2 n9 y5_2 v_2 = some (v') → W p l e rm_X2_tire s m args below meth c H locs 0 0 Q (F0 m 3 ls []) := by
    intro n9
    induction n9 with
    | zero => intro y5_2 v_2 H locs ls hP hD hS hl hf; cases hf
    | succ n9 ih =>
      intro y5_2 v_2 H locs ls hP hD hS hl hf
      obtain ⟨rec2, hrec2, hf⟩ := lq2_s hf
      have hf := hB2 rec2 _ _ hf
      refine lv_iload hx hb dX2_tire_3 (lv_at hl 5 rfl) ?_
      refine lv_aload_n hx hb dX2_tire_5 rfl (lv_at hl 0 rfl) ?_
      refine va_get (D := (dC, dI)) (ci := 2) (v := .ref qb) (C := RX2) (T := TX2) (N := 4) hx hb hw inlX2 hown hK hP 0 rfl rfl 1 (by decide) (hw _ mw_3_21) (fun _ h9 => h9) rfl dX2_tire_6 ?_
      refine va_get (D := (dC, dI)) (ci := 0) (v := .int b_horses) (C := RX0) (T := TX0) (N := 16) hx hb hw inlX0 hown hK hP 3 rfl rfl 3 (by decide) (hw _ mw_17_4) (fun _ h9 => h9) rfl dX2_tire_9 ?_
      refine lv_icmp_ge (tgt := 84) hx hb dX2_tire_12 (by decide) (fun h9 => ?_) (fun h9 => ?_)
      · have hf := pg_t h9 hf
        exact WK84_1 _ _ _ _ hP hD hS (lv_sub hl [] rfl) hf
      · have hf := pg_f h9 hf
        refine lv_iload hx hb dX2_tire_15 (lv_at hl 5 rfl) ?_
        refine lv_bipush (v := (6 : Int32)) hx hb dX2_tire_17 (by decide) ?_
        refine lv_icmp_ge (tgt := 84) hx hb dX2_tire_19 (by decide) (fun h9 => ?_) (fun h9 => ?_)
        · have hf := pg_t h9 hf
          exact WK84_1 _ _ _ _ hP hD hS (lv_sub hl [] rfl) hf
        · have hf := pg_f h9 hf
          refine lv_aload hx hb dX2_tire_22 (lv_at hl 4 rfl) ?_
          refine lv_iload hx hb dX2_tire_24 (lv_at hl 5 rfl) ?_
          refine lv_aload_n hx hb dX2_tire_26 rfl (lv_at hl 0 rfl) ?_
          refine lv_iload_n hx hb dX2_tire_27 rfl (lv_at hl 1 rfl) ?_
          refine lv_iload hx hb dX2_tire_28 (lv_at hl 5 rfl) ?_
          obtain ⟨r_3, hc, hf⟩ := bn1_s hf
          refine pg_cVi (As := [.int n1, .int y5_2]) (rest := [.int y5_2, .ref qv]) (wf := (W_X2c_X0b_au6_av6 cI cZ cII qc qc_who qc_pull qb qb_pull qb_strength qb_back qb_moods qb_tides qb_carts qu qv c_last c_who c_pull b_law b_places b_broad b_horses b_blinds b_besides b_tideCount b_cartCount b_due b_pairs b_pull b_strength b_back b_moods b_tides b_carts u v_2)) ⟨hx, hb, hml, hown, hw⟩ (c_X2_takes l dC dI cI cZ cII qc qc_who qc_pull qb qb_pull qb_strength qb_back qb_moods qb_tides qb_carts H.size c_last c_who c_pull b_law b_places b_broad b_horses b_blinds b_besides b_tideCount b_cartCount b_due b_pairs b_pull b_strength b_back b_moods b_tides b_carts n1 y5_2 r_3 hc) (cwV 2 hts (wM_V mw_30_3 mw_30_4 mw_30_5 mw_2_0 mw_30_6) rfl rfl rfl dk_X2_takes ⟨Nat.le_of_ble_eq_true rfl, Nat.le_of_ble_eq_true rfl⟩) hK hP hD hS hA 2 0 rfl rfl rfl [0, 1, 2, 3, 4, 5, 6, 7, 8, 9] [10, 11] [2, 3, 4, 5, 6, 7, 8, 9, 10, 11, 0, 1] (plC_8 cI cZ cII qc qc_who qc_pull qb qb_pull qb_strength qb_back qb_moods qb_tides qb_carts qu qv c_last c_who c_pull b_law b_places b_broad b_horses b_blinds b_besides b_tideCount b_cartCount b_due b_pairs b_pull b_strength b_back b_moods b_tides b_carts u v_2) rfl (plF_8 cI cZ cII qc qc_who qc_pull qb qb_pull qb_strength qb_back qb_moods qb_tides qb_carts qu qv c_last c_who c_pull b_law b_places b_broad b_horses b_blinds b_besides b_tideCount b_cartCount b_due b_pairs b_pull b_strength b_back b_moods b_tides b_carts u v_2 c_last c_who c_pull b_law b_places b_broad b_horses b_blinds b_besides b_tideCount b_cartCount b_due b_pairs b_pull b_strength b_back b_moods b_tides b_carts) (by decide) rfl hl.1 rfl (Nat.le_of_ble_eq_true rfl) dX2_tire_30 ⟨Nat.zero_le _, Nat.zero_le _⟩ (fun H locs hP hD hS => ?_)
          obtain ⟨J77_4, hJ77_4, hf⟩ := jn1_s hf
          have WJ77_4 : ∀ (z2_4 : Int32) (H : Heap) (locs : List Loc) (ls : Array Slot), va_P (dC, dI) vwCl (W_X2c_X0b_au6_av6 cI cZ cII qc qc_who qc_pull qb qb_pull qb_strength qb_back qb_moods qb_tides qb_carts qu qv c_last c_who c_pull b_law b_places b_broad b_horses b_blinds b_besides b_tideCount b_cartCount b_due b_pairs b_pull b_strength b_back b_moods b_tides b_carts u v_2) H → va_D A (W_X2c_X0b_au6_av6 cI cZ cII qc qc_who qc_pull qb qb_pull qb_strength qb_back qb_moods qb_tides qb_carts qu qv c_last c_who c_pull b_law b_places b_broad b_horses b_blinds b_besides b_tideCount b_cartCount b_due b_pairs b_pull b_strength b_back b_moods b_tides b_carts u v_2) → va_S A s.heap H locs → lv_has ls 6 [(0, .ref qc), (1, .int n1), (2, .int n2), (3, .ref qu), (4, .ref qv), (5, .int y5_2)] → J77_4 z2_4 = some (v') → W p l e rm_X2_tire s m args below meth c H locs 0 0 Q (F0 m 77 ls [.int z2_4, .int y5_2, .ref qv]) := by
            intro z2_4 H locs ls hP hD hS hl hf
            have hf := hJ77_4 _ hf
            obtain ⟨hi5, hf⟩ := pg_chk hf
            refine va_iast hx hb hK hP hD hS 11 0 rfl rfl hi5 dX2_tire_77 (fun H locs hP hD hS => ?_)
            have hP : va_P (dC, dI) vwCl (W_X2c_X0b_au6_av6 cI cZ cII qc qc_who qc_pull qb qb_pull qb_strength qb_back qb_moods qb_tides qb_carts qu qv c_last c_who c_pull b_law b_places b_broad b_horses b_blinds b_besides b_tideCount b_cartCount b_due b_pairs b_pull b_strength b_back b_moods b_tides b_carts u (upd v_2 (y5_2).toNatClampNeg z2_4)) H := hP
            have hD : va_D A (W_X2c_X0b_au6_av6 cI cZ cII qc qc_who qc_pull qb qb_pull qb_strength qb_back qb_moods qb_tides qb_carts qu qv c_last c_who c_pull b_law b_places b_broad b_horses b_blinds b_besides b_tideCount b_cartCount b_due b_pairs b_pull b_strength b_back b_moods b_tides b_carts u (upd v_2 (y5_2).toNatClampNeg z2_4)) := hD
            refine lv_iinc (v := (y5_2 + (1 : Int32))) (lv' := [(5, .int (y5_2 + (1 : Int32))), (0, .ref qc), (1, .int n1), (2, .int n2), (3, .ref qu), (4, .ref qv)]) hx hb dX2_tire_78 hl (k := 5) rfl rfl (by decide) rfl (fun ls hl => ?_)
            refine lv_goto (tgt := 3) hx hb dX2_tire_81 (by decide) ?_
            exact ih _ _ _ _ _ hP hD hS (lv_sub hl [1, 2, 3, 4, 5, 0] rfl) (hrec2 _ _ hf)
          refine lv_if_eq (tgt := 49) hx hb dX2_tire_33 (by decide) (fun h9 => ?_) (fun h9 => ?_)
          · have hf := pg_t h9 hf
            refine lv_aload_n hx hb dX2_tire_49 rfl (lv_at hl 0 rfl) ?_
            refine va_get (D := (dC, dI)) (ci := 2) (v := .ref qb) (C := RX2) (T := TX2) (N := 4) hx hb hw inlX2 hown hK hP 0 rfl rfl 1 (by decide) (hw _ mw_3_21) (fun _ h9 => h9) rfl dX2_tire_50 ?_
            refine va_get (D := (dC, dI)) (ci := 0) (v := .ref qb_strength) (C := RX0) (T := TX0) (N := 16) hx hb hw inlX0 hown hK hP 3 rfl rfl 11 (by decide) (hw _ mw_30_1) (fun _ h9 => h9) rfl dX2_tire_53 ?_
            refine lv_iload hx hb dX2_tire_56 (lv_at hl 5 rfl) ?_
            obtain ⟨hi6, hf⟩ := pg_chk hf
            refine va_iald hx hb hK hP 5 0 rfl rfl hi6 dX2_tire_58 ?_
            refine lv_aload_n hx hb dX2_tire_59 rfl (lv_at hl 3 rfl) ?_
            refine lv_iload hx hb dX2_tire_60 (lv_at hl 5 rfl) ?_
            refine va_iald hx hb hK hP 10 0 rfl rfl hi6 dX2_tire_62 ?_
            refine lv_aload_n hx hb dX2_tire_63 rfl (lv_at hl 0 rfl) ?_
            refine va_get (D := (dC, dI)) (ci := 2) (v := .ref qb) (C := RX2) (T := TX2) (N := 4) hx hb hw inlX2 hown hK hP 0 rfl rfl 1 (by decide) (hw _ mw_3_21) (fun _ h9 => h9) rfl dX2_tire_64 ?_
            refine va_get (D := (dC, dI)) (ci := 0) (v := .ref qb_back) (C := RX0) (T := TX0) (N := 16) hx hb hw inlX0 hown hK hP 3 rfl rfl 12 (by decide) (hw _ mw_30_2) (fun _ h9 => h9) rfl dX2_tire_67 ?_
            refine lv_iload hx hb dX2_tire_70 (lv_at hl 5 rfl) ?_
            refine va_iald hx hb hK hP 6 0 rfl rfl hi6 dX2_tire_72 ?_
            refine lv_iadd hx hb dX2_tire_73 ?_
            refine va_mmin hx hb (hml.trans hl.1.symm) hown (hw _ mw_29_10) (hw _ mw_28_19) (hw _ mw_18_1) (hw _ mw_28_20) (Nat.le_of_ble_eq_true rfl) (Nat.le_of_ble_eq_true rfl) (Nat.zero_le _) (Nat.zero_le _) dX2_tire_74 ?_
            exact WJ77_4 _ _ _ _ hP hD hS hl hf
          · have hf := pg_f h9 hf
            refine lv_iconst (v := (0 : Int32)) hx hb dX2_tire_36 (by decide) ?_
            refine lv_aload_n hx hb dX2_tire_37 rfl (lv_at hl 3 rfl) ?_
            refine lv_iload hx hb dX2_tire_38 (lv_at hl 5 rfl) ?_
            obtain ⟨hi7, hf⟩ := pg_chk hf
            refine va_iald hx hb hK hP 10 0 rfl rfl hi7 dX2_tire_40 ?_
            refine lv_iload_n hx hb dX2_tire_41 rfl (lv_at hl 2 rfl) ?_
            refine lv_isub hx hb dX2_tire_42 ?_
            refine va_mmax hx hb (hml.trans hl.1.symm) hown (hw _ mw_30_0) (hw _ mw_18_0) (hw _ mw_18_1) (hw _ mw_18_2) (Nat.le_of_ble_eq_true rfl) (Nat.le_of_ble_eq_true rfl) (Nat.zero_le _) (Nat.zero_le _) dX2_tire_43 ?_
            refine lv_goto (tgt := 77) hx hb dX2_tire_46 (by decide) ?_
            exact WJ77_4 _ _ _ _ hP hD hS hl hf
  exact WL2 fu _ _ _ _ _ hP hD hS (lv_sub hl [1, 2, 3, 4, 5, 0] rfl) hf
