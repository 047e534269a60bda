def f_X5_begin (s_hour : Int32) (s_oats : Int32) (s_missed : Int32) (s_strength : Nat → Int32) (s_stands : Nat → Int32) (b_strength : Nat → Int32) : Option (Int32 × Int32 × Int32 × (Nat → Int32) × (Nat → Int32)) :=
  bn1 (f_J7_fill_53178 3 (-1 : Int32) s_stands) (fun (s_stands_1 : Nat → Int32) =>
    some ((0 : Int32), (0 : Int32), (0 : Int32), (va_cpy b_strength s_strength 0 0 6), s_stands_1)
  )
set_option maxRecDepth 100000 in
theorem plC_2 (cI cZ cII : ClassId) (qs qs_strength qs_stands qb qb_pull qb_strength qb_back qb_moods qb_tides qb_carts : Nat) (s_hour : Int32) (s_oats : Int32) (s_missed : Int32) (s_seed : Int32) (s_kept : Int32) (s_strength : Nat → Int32) (s_stands : Nat → Int32) (b_law : Int32) (b_places : Int32) (b_broad : Int32) (b_horses : Int32) (b_blinds : Int32) (b_besides : Int32) (b_tideCount : Int32) (b_cartCount : Int32) (b_due : Int32) (b_pairs : Int64) (b_pull : Nat → Int32) (b_strength : Nat → Int32) (b_back : Nat → Int32) (b_moods : Nat → Int32) (b_tides : Nat → Int32) (b_carts : Nat → Int32) : ([2] : List Nat).map (fun i => (W_X5s_X0b cI cZ cII qs qs_strength qs_stands qb qb_pull qb_strength qb_back qb_moods qb_tides qb_carts s_hour s_oats s_missed s_seed s_kept s_strength s_stands b_law b_places b_broad b_horses b_blinds b_besides b_tideCount b_cartCount b_due b_pairs b_pull b_strength b_back b_moods b_tides b_carts)[i]?) = (W__auN cI cZ cII 3 qs_stands s_stands).map some := rfl
set_option maxRecDepth 100000 in
theorem plF_2 (cI cZ cII : ClassId) (qs qs_strength qs_stands qb qb_pull qb_strength qb_back qb_moods qb_tides qb_carts : Nat) (s_hour : Int32) (s_oats : Int32) (s_missed : Int32) (s_seed : Int32) (s_kept : Int32) (s_strength : Nat → Int32) (s_stands : Nat → Int32) (b_law : Int32) (b_places : Int32) (b_broad : Int32) (b_horses : Int32) (b_blinds : Int32) (b_besides : Int32) (b_tideCount : Int32) (b_cartCount : Int32) (b_due : Int32) (b_pairs : Int64) (b_pull : Nat → Int32) (b_strength : Nat → Int32) (b_back : Nat → Int32) (b_moods : Nat → Int32) (b_tides : Nat → Int32) (b_carts : Nat → Int32) (b9s_stands : Nat → Int32) : ([0, 1, 9, 2, 3, 4, 5, 6, 7, 8] : List Nat).map (fun i => (pickW (W_X5s_X0b cI cZ cII qs qs_strength qs_stands qb qb_pull qb_strength qb_back qb_moods qb_tides qb_carts s_hour s_oats s_missed s_seed s_kept s_strength s_stands b_law b_places b_broad b_horses b_blinds b_besides b_tideCount b_cartCount b_due b_pairs b_pull b_strength b_back b_moods b_tides b_carts) ([0, 1, 3, 4, 5, 6, 7, 8, 9] : List Nat) ++ (W__auN cI cZ cII 3 qs_stands b9s_stands))[i]?) = (W_X5s_X0b cI cZ cII qs qs_strength qs_stands qb qb_pull qb_strength qb_back qb_moods qb_tides qb_carts s_hour s_oats s_missed s_seed s_kept s_strength b9s_stands b_law b_places b_broad b_horses b_blinds b_besides b_tideCount b_cartCount b_due b_pairs b_pull b_strength b_back b_moods b_tides b_carts).map some := rfl
abbrev rm_X5_begin : Room := { frames := 1, cells := 0, slots := 0, locals := 60 }
theorem dk_X5_begin : yX5_begin.cls = RX5 ∧ yX5_begin.cls ≠ "java/lang/invoke/MethodHandle" ∧ yX5_begin.cls ≠ "java/lang/invoke/VarHandle" ∧ (parseMethodDescriptor yX5_begin.desc).map (fun d => d.parameters.length) = some 1 := by decide +kernel
set_option maxHeartbeats 4000000 in
set_option maxRecDepth 100000 in
theorem c_X5_begin (l : Launch) (dC : Nat → ClassId) (dI : Nat → Nat → Nat) (cI cZ cII : ClassId) (qs qs_strength qs_stands qb qb_pull qb_strength qb_back qb_moods qb_tides qb_carts : Nat) (sz : Nat) (s_hour : Int32) (s_oats : Int32) (s_missed : Int32) (s_seed : Int32) (s_kept : Int32) (s_strength : Nat → Int32) (s_stands : Nat → Int32) (b_law : Int32) (b_places : Int32) (b_broad : Int32) (b_horses : Int32) (b_blinds : Int32) (b_besides : Int32) (b_tideCount : Int32) (b_cartCount : Int32) (b_due : Int32) (b_pairs : Int64) (b_pull : Nat → Int32) (b_strength : Nat → Int32) (b_back : Nat → Int32) (b_moods : Nat → Int32) (b_tides : Nat → Int32) (b_carts : Nat → Int32) (s_hour' : Int32) (s_oats' : Int32) (s_missed' : Int32) (s_strength' : Nat → Int32) (s_stands' : Nat → Int32) (hf : f_X5_begin s_hour s_oats s_missed s_strength s_stands b_strength = some (s_hour', s_oats', s_missed', s_strength', s_stands')) : Met l yX5_begin (wM yX5_begin cX5_begin 2 none) rm_X5_begin (PreW (dC, dI) (tyA cI cZ cII) (W_X5s_X0b cI cZ cII qs qs_strength qs_stands qb qb_pull qb_strength qb_back qb_moods qb_tides qb_carts s_hour s_oats s_missed s_seed s_kept s_strength s_stands b_law b_places b_broad b_horses b_blinds b_besides b_tideCount b_cartCount b_due b_pairs b_pull b_strength b_back b_moods b_tides b_carts) sz [.ref qs, .ref qb]) (PostV (dC, dI) (tyA cI cZ cII) (W_X5s_X0b cI cZ cII qs qs_strength qs_stands qb qb_pull qb_strength qb_back qb_moods qb_tides qb_carts s_hour s_oats s_missed s_seed s_kept s_strength s_stands b_law b_places b_broad b_horses b_blinds b_besides b_tideCount b_cartCount b_due b_pairs b_pull b_strength b_back b_moods b_tides b_carts) (W_X5s_X0b cI cZ cII qs qs_strength qs_stands qb qb_pull qb_strength qb_back qb_moods qb_tides qb_carts s_hour' s_oats' s_missed' s_seed s_kept s_strength' s_stands' b_law b_places b_broad b_horses b_blinds b_besides b_tideCount b_cartCount b_due b_pairs b_pull b_strength b_back b_moods b_tides b_carts) sz) 0 0 (va_A (W_X5s_X0b cI cZ cII qs qs_strength qs_stands qb qb_pull qb_strength qb_back qb_moods qb_tides qb_carts s_hour s_oats s_missed s_seed s_kept s_strength s_stands b_law b_places b_broad b_horses b_blinds b_besides b_tideCount b_cartCount b_due b_pairs b_pull b_strength b_back b_moods b_tides b_carts) sz) := by
  refine Met.ofW (cc := cX5_begin) (maxL := 2) (ret := none) (by decide) rfl ?_
  intro p e s m args below meth c s₁ B hml hv
  obtain ⟨rfl, hsz, hP, hK, hD0⟩ := hv
  have hx := B.exec
  have hb := B.bytes
  have hr := B.returns
  have hts := atoms_spec (ws := wM yX5_begin cX5_begin 2 none) B.pre
  have hown : s.vm.findClass RX5 = some m.cls := findClass_of_methodNamed B.named
  have hlocks := B.notSynchronized
  subst hsz
  have hD := hD0.self (sz := s.heap.size)
  obtain ⟨A, hAe⟩ : ∃ A, A = va_A (W_X5s_X0b cI cZ cII qs qs_strength qs_stands qb qb_pull qb_strength qb_back qb_moods qb_tides qb_carts s_hour s_oats s_missed s_seed s_kept s_strength s_stands b_law b_places b_broad b_horses b_blinds b_besides b_tideCount b_cartCount b_due b_pairs b_pull b_strength b_back b_moods b_tides b_carts) s.heap.size := ⟨_, rfl⟩
  rw [← hAe] at hD
  have hA : ∀ q : Nat, s.heap.size ≤ q → A q := fun q h => by rw [hAe]; exact Or.inr h
  have hS : va_S A s.heap s.heap [] := va_S.rf
  have hl := lv_entry ([.ref qs, .ref qb]) (n := 2) (Nat.le_of_ble_eq_true rfl)
  rw [lg_entry_eq]
  generalize (lg_sl ([.ref qs, .ref qb]) ++ List.replicate (2 - (lg_sl ([.ref qs, .ref qb])).length) Slot.unset).toArray = ls at hl ⊢
  have hl : lv_has ls 2 [(0, .ref qs), (1, .ref qb)] := hl
  generalize ([.ref qs, .ref qb] : List Value).toArray = args at hts ⊢
  have hw : ∀ w ∈ wsL_law, w.before args s = true := fun w h => hts w (List.mem_cons_of_mem _ h)
  refine pg_start (fun Q hQ => ?_)
  have RET : ∀ (H : Heap) (locs : List Loc) (ls : Array Slot) (pc : Nat) (x0 : Int32) (x1 : Int32) (x2 : Int32) (x3 : Nat → Int32) (x4 : Nat → Int32) , decode cX5_begin pc = .ok (.return_, 1) → va_P (dC, dI) vwCl (W_X5s_X0b cI cZ cII qs qs_strength qs_stands qb qb_pull qb_strength qb_back qb_moods qb_tides qb_carts x0 x1 x2 s_seed s_kept x3 x4 b_law b_places b_broad b_horses b_blinds b_besides b_tideCount b_cartCount b_due b_pairs b_pull b_strength b_back b_moods b_tides b_carts) H → va_D A (W_X5s_X0b cI cZ cII qs qs_strength qs_stands qb qb_pull qb_strength qb_back qb_moods qb_tides qb_carts x0 x1 x2 s_seed s_kept x3 x4 b_law b_places b_broad b_horses b_blinds b_besides b_tideCount b_cartCount b_due b_pairs b_pull b_strength b_back b_moods b_tides b_carts) → va_S A s.heap H locs → (some (x0, x1, x2, x3, x4) : Option (Int32 × Int32 × Int32 × (Nat → Int32) × (Nat → Int32))) = some (s_hour', s_oats', s_missed', s_strength', s_stands') → W p l e rm_X5_begin s m args below meth c H locs 0 0 Q (F0 m pc ls []) := by
    intro H locs ls pc x0 x1 x2 x3 x4 hd hP hD hS he
    subst hAe; subst hQ
    simp only [Option.some.injEq, Prod.mk.injEq] at he
    obtain ⟨rfl, rfl, rfl, rfl, rfl⟩ := he
    exact pg_vret hx hb hr hlocks hK hP hD hS hd
  unfold f_X5_begin at hf
  refine lv_aload_n hx hb dX5_begin_0 rfl (lv_at hl 0 rfl) ?_
  refine lv_iconst (v := (0 : Int32)) hx hb dX5_begin_1 (by decide) ?_
  refine va_put (D := (dC, dI)) (ci := 5) (v := .int (0 : Int32)) (ty := .int) (C := RX5) (T := TX5) (N := 7) hx hb hw inlX5 tyX5 tyX5_ok nmX5 hown hK hP hD hS 0 rfl rfl 0 (by decide) (hw _ mw_18_12) (fun _ h9 => h9) rfl (by decide +kernel) rfl rfl (Nat.le_of_ble_eq_true rfl) dX5_begin_2 (fun H locs hP hD hS => ?_)
  have hP : va_P (dC, dI) vwCl (W_X5s_X0b cI cZ cII qs qs_strength qs_stands qb qb_pull qb_strength qb_back qb_moods qb_tides qb_carts (0 : Int32) s_oats s_missed s_seed s_kept s_strength s_stands b_law b_places b_broad b_horses b_blinds b_besides b_tideCount b_cartCount b_due b_pairs b_pull b_strength b_back b_moods b_tides b_carts) H := hP
  have hD : va_D A (W_X5s_X0b cI cZ cII qs qs_strength qs_stands qb qb_pull qb_strength qb_back qb_moods qb_tides qb_carts (0 : Int32) s_oats s_missed s_seed s_kept s_strength s_stands b_law b_places b_broad b_horses b_blinds b_besides b_tideCount b_cartCount b_due b_pairs b_pull b_strength b_back b_moods b_tides b_carts) := hD
  refine lv_aload_n hx hb dX5_begin_5 rfl (lv_at hl 0 rfl) ?_
  refine lv_iconst (v := (0 : Int32)) hx hb dX5_begin_6 (by decide) ?_
  refine va_put (D := (dC, dI)) (ci := 5) (v := .int (0 : Int32)) (ty := .int) (C := RX5) (T := TX5) (N := 7) hx hb hw inlX5 tyX5 tyX5_ok nmX5 hown hK hP hD hS 0 rfl rfl 1 (by decide) (hw _ mw_18_13) (fun _ h9 => h9) rfl (by decide +kernel) rfl rfl (Nat.le_of_ble_eq_true rfl) dX5_begin_7 (fun H locs hP hD hS => ?_)
  have hP : va_P (dC, dI) vwCl (W_X5s_X0b cI cZ cII qs qs_strength qs_stands qb qb_pull qb_strength qb_back qb_moods qb_tides qb_carts (0 : Int32) (0 : Int32) s_missed s_seed s_kept s_strength s_stands b_law b_places b_broad b_horses b_blinds b_besides b_tideCount b_cartCount b_due b_pairs b_pull b_strength b_back b_moods b_tides b_carts) H := hP
  have hD : va_D A (W_X5s_X0b cI cZ cII qs qs_strength qs_stands qb qb_pull qb_strength qb_back qb_moods qb_tides qb_carts (0 : Int32) (0 : Int32) s_missed s_seed s_kept s_strength s_stands b_law b_places b_broad b_horses b_blinds b_besides b_tideCount b_cartCount b_due b_pairs b_pull b_strength b_back b_moods b_tides b_carts) := hD
  refine lv_aload_n hx hb dX5_begin_10 rfl (lv_at hl 0 rfl) ?_
  refine lv_iconst (v := (0 : Int32)) hx hb dX5_begin_11 (by decide) ?_
  refine va_put (D := (dC, dI)) (ci := 5) (v := .int (0 : Int32)) (ty := .int) (C := RX5) (T := TX5) (N := 7) hx hb hw inlX5 tyX5 tyX5_ok nmX5 hown hK hP hD hS 0 rfl rfl 2 (by decide) (hw _ mw_18_14) (fun _ h9 => h9) rfl (by decide +kernel) rfl rfl (Nat.le_of_ble_eq_true rfl) dX5_begin_12 (fun H locs hP hD hS => ?_)
  have hP : va_P (dC, dI) vwCl (W_X5s_X0b cI cZ cII qs qs_strength qs_stands qb qb_pull qb_strength qb_back qb_moods qb_tides qb_carts (0 : Int32) (0 : Int32) (0 : Int32) s_seed s_kept s_strength s_stands b_law b_places b_broad b_horses b_blinds b_besides b_tideCount b_cartCount b_due b_pairs b_pull b_strength b_back b_moods b_tides b_carts) H := hP
  have hD : va_D A (W_X5s_X0b cI cZ cII qs qs_strength qs_stands qb qb_pull qb_strength qb_back qb_moods qb_tides qb_carts (0 : Int32) (0 : Int32) (0 : Int32) s_seed s_kept s_strength s_stands b_law b_places b_broad b_horses b_blinds b_besides b_tideCount b_cartCount b_due b_pairs b_pull b_strength b_back b_moods b_tides b_carts) := hD
  refine lv_aload_n hx hb dX5_begin_15 rfl (lv_at hl 1 rfl) ?_
  refine va_get (D := (dC, dI)) (ci := 0) (v := .ref qb_strength) (C := RX0) (T := TX0) (N := 16) hx hb hw inlX0 hown hK hP 3 rfl rfl 11 (by decide) (hw _ mw_18_15) (fun _ h9 => h9) rfl dX5_begin_16 ?_
  refine lv_iconst (v := (0 : Int32)) hx hb dX5_begin_19 (by decide) ?_
  refine lv_aload_n hx hb dX5_begin_20 rfl (lv_at hl 0 rfl) ?_
  refine va_get (D := (dC, dI)) (ci := 5) (v := .ref qs_strength) (C := RX5) (T := TX5) (N := 7) hx hb hw inlX5 hown hK hP 0 rfl rfl 5 (by decide) (hw _ mw_4_6) (fun _ h9 => h9) rfl dX5_begin_21 ?_
  refine lv_iconst (v := (0 : Int32)) hx hb dX5_begin_24 (by decide) ?_
  refine lv_bipush (v := (6 : Int32)) hx hb dX5_begin_25 (by decide) ?_
  refine va_copyi hx hb (hml.trans hl.1.symm) hown (hw _ mw_18_16) (hw _ mw_18_17) (hw _ mw_18_18) (hw _ mw_18_19) hK hP hD hS 5 1 0 0 (ty := .int) rfl rfl rfl rfl rfl (by decide) (by decide) (by decide) (by decide) (by decide) (fun _ _ => rfl) (Nat.le_of_ble_eq_true rfl) (by decide +kernel) dX5_begin_27 (fun H locs hP hD hS => ?_)
  have hP : va_P (dC, dI) vwCl (W_X5s_X0b cI cZ cII qs qs_strength qs_stands qb qb_pull qb_strength qb_back qb_moods qb_tides qb_carts (0 : Int32) (0 : Int32) (0 : Int32) s_seed s_kept (va_cpy b_strength s_strength 0 0 6) s_stands b_law b_places b_broad b_horses b_blinds b_besides b_tideCount b_cartCount b_due b_pairs b_pull b_strength b_back b_moods b_tides b_carts) H := hP
  have hD : va_D A (W_X5s_X0b cI cZ cII qs qs_strength qs_stands qb qb_pull qb_strength qb_back qb_moods qb_tides qb_carts (0 : Int32) (0 : Int32) (0 : Int32) s_seed s_kept (va_cpy b_strength s_strength 0 0 6) s_stands b_law b_places b_broad b_horses b_blinds b_besides b_tideCount b_cartCount b_due b_pairs b_pull b_strength b_back b_moods b_tides b_carts) := hD
  refine lv_aload_n hx hb dX5_begin_30 rfl (lv_at hl 0 rfl) ?_
  refine va_get (D := (dC, dI)) (ci := 5) (v := .ref qs_stands) (C := RX5) (T := TX5) (N := 7) hx hb hw inlX5 hown hK hP 0 rfl rfl 6 (by decide) (hw _ mw_4_7) (fun _ h9 => h9) rfl dX5_begin_31 ?_
  refine lv_iconst (v := (-1 : Int32)) hx hb dX5_begin_34 (by decide) ?_
  obtain ⟨s_stands_1, hc, hf⟩ := bn1_s hf
  refine pg_cSv (As := [.ref qs_stands, .int (-1 : Int32)]) (rest := []) (wf := (W_X5s_X0b cI cZ cII qs qs_strength qs_stands qb qb_pull qb_strength qb_back qb_moods qb_tides qb_carts (0 : Int32) (0 : Int32) (0 : Int32) s_seed s_kept (va_cpy b_strength s_strength 0 0 6) s_stands_1 b_law b_places b_broad b_horses b_blinds b_besides b_tideCount b_cartCount b_due b_pairs b_pull b_strength b_back b_moods b_tides b_carts)) ⟨hx, hb, hml, hown, hw⟩ (c_J7_fill_53178 l dC dI cI cZ cII 3 qs_stands H.size s_stands (-1 : Int32) s_stands_1 hc) (va_cwS 2 hts (wM_S mw_4_8 mw_3_23 mw_4_0 mw_4_1) rfl rfl rfl dk_J7_fill_53178 ⟨Nat.le_of_ble_eq_true rfl, Nat.le_of_ble_eq_true rfl⟩) hK hP hD hS hA [2] [0, 1, 3, 4, 5, 6, 7, 8, 9] [0, 1, 9, 2, 3, 4, 5, 6, 7, 8] (plC_2 cI cZ cII qs qs_strength qs_stands qb qb_pull qb_strength qb_back qb_moods qb_tides qb_carts (0 : Int32) (0 : Int32) (0 : Int32) s_seed s_kept (va_cpy b_strength s_strength 0 0 6) s_stands b_law b_places b_broad b_horses b_blinds b_besides b_tideCount b_cartCount b_due b_pairs b_pull b_strength b_back b_moods b_tides b_carts) rfl (plF_2 cI cZ cII qs qs_strength qs_stands qb qb_pull qb_strength qb_back qb_moods qb_tides qb_carts (0 : Int32) (0 : Int32) (0 : Int32) s_seed s_kept (va_cpy b_strength s_strength 0 0 6) s_stands b_law b_places b_broad b_horses b_blinds b_besides b_tideCount b_cartCount b_due b_pairs b_pull b_strength b_back b_moods b_tides b_carts s_stands_1) (by decide) rfl hl.1 rfl (Nat.le_of_ble_eq_true rfl) dX5_begin_35 ⟨Nat.zero_le _, Nat.zero_le _⟩ (fun H locs hP hD hS => ?_)
  exact RET _ _ _ _ _ _ _ _ _ dX5_begin_38 hP hD hS hf
def f_X5_copyFrom (s_hour : Int32) (s_oats : Int32) (s_missed : Int32) (s_seed : Int32) (s_strength : Nat → Int32) (s_stands : Nat → Int32) (o_hour : Int32) (o_oats : Int32) (o_missed : Int32) (o_seed : Int32) (o_strength : Nat → Int32) (o_stands : Nat → Int32) : Option (Int32 × Int32 × Int32 × Int32 × (Nat → Int32) × (Nat → Int32)) :=
  some (o_hour, o_oats, o_missed, o_seed, (va_cpy o_strength s_strength 0 0 6), (va_cpy o_stands s_stands 0 0 3))
abbrev rm_X5_copyFrom : Room := { frames := 1, cells := 0, slots := 0, locals := 60 }
theorem dk_X5_copyFrom : yX5_copyFrom.cls = RX5 ∧ yX5_copyFrom.cls ≠ "java/lang/invoke/MethodHandle" ∧ yX5_copyFrom.cls ≠ "java/lang/invoke/VarHandle" ∧ (parseMethodDescriptor yX5_copyFrom.desc).map (fun d => d.parameters.length) = some 1 := by decide +kernel
set_option maxHeartbeats 4000000 in
set_option maxRecDepth 100000 in
theorem c_X5_copyFrom (l : Launch) (dC : Nat → ClassId) (dI : Nat → Nat → Nat) (cI cZ cII : ClassId) (qs qs_strength qs_stands qo qo_strength qo_stands : Nat) (sz : Nat) (s_hour : Int32) (s_oats : Int32) (s_missed : Int32) (s_seed : Int32) (s_kept : Int32) (s_strength : Nat → Int32) (s_stands : Nat → Int32) (o_hour : Int32) (o_oats : Int32) (o_missed : Int32) (o_seed : Int32) (o_kept : Int32) (o_strength : Nat → Int32) (o_stands : Nat → Int32) (s_hour' : Int32) (s_oats' : Int32) (s_missed' : Int32) (s_seed' : Int32) (s_strength' : Nat → Int32) (s_stands' : Nat → Int32) (hf : f_X5_copyFrom s_hour s_oats s_missed s_seed s_strength s_stands o_hour o_oats o_missed o_seed o_strength o_stands = some (s_hour', s_oats', s_missed', s_seed', s_strength', s_stands')) : Met l yX5_copyFrom (wM yX5_copyFrom cX5_copyFrom 2 none) rm_X5_copyFrom (PreW (dC, dI) (tyA cI cZ cII) (W_X5s_X5o cI cZ cII qs qs_strength qs_stands qo qo_strength qo_stands s_hour s_oats s_missed s_seed s_kept s_strength s_stands o_hour o_oats o_missed o_seed o_kept o_strength o_stands) sz [.ref qs, .ref qo]) (PostV (dC, dI) (tyA cI cZ cII) (W_X5s_X5o cI cZ cII qs qs_strength qs_stands qo qo_strength qo_stands s_hour s_oats s_missed s_seed s_kept s_strength s_stands o_hour o_oats o_missed o_seed o_kept o_strength o_stands) (W_X5s_X5o cI cZ cII qs qs_strength qs_stands qo qo_strength qo_stands s_hour' s_oats' s_missed' s_seed' s_kept s_strength' s_stands' o_hour o_oats o_missed o_seed o_kept o_strength o_stands) sz) 0 0 (va_A (W_X5s_X5o cI cZ cII qs qs_strength qs_stands qo qo_strength qo_stands s_hour s_oats s_missed s_seed s_kept s_strength s_stands o_hour o_oats o_missed o_seed o_kept o_strength o_stands) sz) := by
  refine Met.ofW (cc := cX5_copyFrom) (maxL := 2) (ret := none) (by decide) rfl ?_
  intro p e s m args below meth c s₁ B hml hv
  obtain ⟨rfl, hsz, hP, hK, hD0⟩ := hv
  have hx := B.exec
  have hb := B.bytes
  have hr := B.returns
  have hts := atoms_spec (ws := wM yX5_copyFrom cX5_copyFrom 2 none) B.pre
  have hown : s.vm.findClass RX5 = some m.cls := findClass_of_methodNamed B.named
  have hlocks := B.notSynchronized
  subst hsz
  have hD := hD0.self (sz := s.heap.size)
  obtain ⟨A, hAe⟩ : ∃ A, A = va_A (W_X5s_X5o cI cZ cII qs qs_strength qs_stands qo qo_strength qo_stands s_hour s_oats s_missed s_seed s_kept s_strength s_stands o_hour o_oats o_missed o_seed o_kept o_strength o_stands) s.heap.size := ⟨_, rfl⟩
  rw [← hAe] at hD
  have hA : ∀ q : Nat, s.heap.size ≤ q → A q := fun q h => by rw [hAe]; exact Or.inr h
  have hS : va_S A s.heap s.heap [] := va_S.rf
  have hl := lv_entry ([.ref qs, .ref qo]) (n := 2) (Nat.le_of_ble_eq_true rfl)
  rw [lg_entry_eq]
  generalize (lg_sl ([.ref qs, .ref qo]) ++ List.replicate (2 - (lg_sl ([.ref qs, .ref qo])).length) Slot.unset).toArray = ls at hl ⊢
  have hl : lv_has ls 2 [(0, .ref qs), (1, .ref qo)] := hl
  generalize ([.ref qs, .ref qo] : List Value).toArray = args at hts ⊢
  have hw : ∀ w ∈ wsL_law, w.before args s = true := fun w h => hts w (List.mem_cons_of_mem _ h)
  refine pg_start (fun Q hQ => ?_)
  have RET : ∀ (H : Heap) (locs : List Loc) (ls : Array Slot) (pc : Nat) (x0 : Int32) (x1 : Int32) (x2 : Int32) (x3 : Int32) (x4 : Nat → Int32) (x5 : Nat → Int32) , decode cX5_copyFrom pc = .ok (.return_, 1) → va_P (dC, dI) vwCl (W_X5s_X5o cI cZ cII qs qs_strength qs_stands qo qo_strength qo_stands x0 x1 x2 x3 s_kept x4 x5 o_hour o_oats o_missed o_seed o_kept o_strength o_stands) H → va_D A (W_X5s_X5o cI cZ cII qs qs_strength qs_stands qo qo_strength qo_stands x0 x1 x2 x3 s_kept x4 x5 o_hour o_oats o_missed o_seed o_kept o_strength o_stands) → va_S A s.heap H locs → (some (x0, x1, x2, x3, x4, x5) : Option (Int32 × Int32 × Int32 × Int32 × (Nat → Int32) × (Nat → Int32))) = some (s_hour', s_oats', s_missed', s_seed', s_strength', s_stands') → W p l e rm_X5_copyFrom s m args below meth c H locs 0 0 Q (F0 m pc ls []) := by
    intro H locs ls pc x0 x1 x2 x3 x4 x5 hd hP hD hS he
    subst hAe; subst hQ
    simp only [Option.some.injEq, Prod.mk.injEq] at he
    obtain ⟨rfl, rfl, rfl, rfl, rfl, rfl⟩ := he
    exact pg_vret hx hb hr hlocks hK hP hD hS hd
  unfold f_X5_copyFrom at hf
  refine lv_aload_n hx hb dX5_copyFrom_0 rfl (lv_at hl 0 rfl) ?_
  refine lv_aload_n hx hb dX5_copyFrom_1 rfl (lv_at hl 1 rfl) ?_
  refine va_get (D := (dC, dI)) (ci := 5) (v := .int o_hour) (C := RX5) (T := TX5) (N := 7) hx hb hw inlX5 hown hK hP 3 rfl rfl 0 (by decide) (hw _ mw_18_12) (fun _ h9 => h9) rfl dX5_copyFrom_2 ?_
  refine va_put (D := (dC, dI)) (ci := 5) (v := .int o_hour) (ty := .int) (C := RX5) (T := TX5) (N := 7) hx hb hw inlX5 tyX5 tyX5_ok nmX5 hown hK hP hD hS 0 rfl rfl 0 (by decide) (hw _ mw_18_12) (fun _ h9 => h9) rfl (by decide +kernel) rfl rfl (Nat.le_of_ble_eq_true rfl) dX5_copyFrom_5 (fun H locs hP hD hS => ?_)
  have hP : va_P (dC, dI) vwCl (W_X5s_X5o cI cZ cII qs qs_strength qs_stands qo qo_strength qo_stands o_hour s_oats s_missed s_seed s_kept s_strength s_stands o_hour o_oats o_missed o_seed o_kept o_strength o_stands) H := hP
  have hD : va_D A (W_X5s_X5o cI cZ cII qs qs_strength qs_stands qo qo_strength qo_stands o_hour s_oats s_missed s_seed s_kept s_strength s_stands o_hour o_oats o_missed o_seed o_kept o_strength o_stands) := hD
  refine lv_aload_n hx hb dX5_copyFrom_8 rfl (lv_at hl 0 rfl) ?_
  refine lv_aload_n hx hb dX5_copyFrom_9 rfl (lv_at hl 1 rfl) ?_
  refine va_get (D := (dC, dI)) (ci := 5) (v := .int o_oats) (C := RX5) (T := TX5) (N := 7) hx hb hw inlX5 hown hK hP 3 rfl rfl 1 (by decide) (hw _ mw_18_13) (fun _ h9 => h9) rfl dX5_copyFrom_10 ?_
  refine va_put (D := (dC, dI)) (ci := 5) (v := .int o_oats) (ty := .int) (C := RX5) (T := TX5) (N := 7) hx hb hw inlX5 tyX5 tyX5_ok nmX5 hown hK hP hD hS 0 rfl rfl 1 (by decide) (hw _ mw_18_13) (fun _ h9 => h9) rfl (by decide +kernel) rfl rfl (Nat.le_of_ble_eq_true rfl) dX5_copyFrom_13 (fun H locs hP hD hS => ?_)
  have hP : va_P (dC, dI) vwCl (W_X5s_X5o cI cZ cII qs qs_strength qs_stands qo qo_strength qo_stands o_hour o_oats s_missed s_seed s_kept s_strength s_stands o_hour o_oats o_missed o_seed o_kept o_strength o_stands) H := hP
  have hD : va_D A (W_X5s_X5o cI cZ cII qs qs_strength qs_stands qo qo_strength qo_stands o_hour o_oats s_missed s_seed s_kept s_strength s_stands o_hour o_oats o_missed o_seed o_kept o_strength o_stands) := hD
  refine lv_aload_n hx hb dX5_copyFrom_16 rfl (lv_at hl 0 rfl) ?_
  refine lv_aload_n hx hb dX5_copyFrom_17 rfl (lv_at hl 1 rfl) ?_
  refine va_get (D := (dC, dI)) (ci := 5) (v := .int o_missed) (C := RX5) (T := TX5) (N := 7) hx hb hw inlX5 hown hK hP 3 rfl rfl 2 (by decide) (hw _ mw_18_14) (fun _ h9 => h9) rfl dX5_copyFrom_18 ?_
  refine va_put (D := (dC, dI)) (ci := 5) (v := .int o_missed) (ty := .int) (C := RX5) (T := TX5) (N := 7) hx hb hw inlX5 tyX5 tyX5_ok nmX5 hown hK hP hD hS 0 rfl rfl 2 (by decide) (hw _ mw_18_14) (fun _ h9 => h9) rfl (by decide +kernel) rfl rfl (Nat.le_of_ble_eq_true rfl) dX5_copyFrom_21 (fun H locs hP hD hS => ?_)
  have hP : va_P (dC, dI) vwCl (W_X5s_X5o cI cZ cII qs qs_strength qs_stands qo qo_strength qo_stands o_hour o_oats o_missed s_seed s_kept s_strength s_stands o_hour o_oats o_missed o_seed o_kept o_strength o_stands) H := hP
  have hD : va_D A (W_X5s_X5o cI cZ cII qs qs_strength qs_stands qo qo_strength qo_stands o_hour o_oats o_missed s_seed s_kept s_strength s_stands o_hour o_oats o_missed o_seed o_kept o_strength o_stands) := hD
  refine lv_aload_n hx hb dX5_copyFrom_24 rfl (lv_at hl 0 rfl) ?_
  refine lv_aload_n hx hb dX5_copyFrom_25 rfl (lv_at hl 1 rfl) ?_
  refine va_get (D := (dC, dI)) (ci := 5) (v := .int o_seed) (C := RX5) (T := TX5) (N := 7) hx hb hw inlX5 hown hK hP 3 rfl rfl 3 (by decide) (hw _ mw_33_15) (fun _ h9 => h9) rfl dX5_copyFrom_26 ?_
  refine va_put (D := (dC, dI)) (ci := 5) (v := .int o_seed) (ty := .int) (C := RX5) (T := TX5) (N := 7) hx hb hw inlX5 tyX5 tyX5_ok nmX5 hown hK hP hD hS 0 rfl rfl 3 (by decide) (hw _ mw_33_15) (fun _ h9 => h9) rfl (by decide +kernel) rfl rfl (Nat.le_of_ble_eq_true rfl) dX5_copyFrom_29 (fun H locs hP hD hS => ?_)
  have hP : va_P (dC, dI) vwCl (W_X5s_X5o cI cZ cII qs qs_strength qs_stands qo qo_strength qo_stands o_hour o_oats o_missed o_seed s_kept s_strength s_stands o_hour o_oats o_missed o_seed o_kept o_strength o_stands) H := hP
  have hD : va_D A (W_X5s_X5o cI cZ cII qs qs_strength qs_stands qo qo_strength qo_stands o_hour o_oats o_missed o_seed s_kept s_strength s_stands o_hour o_oats o_missed o_seed o_kept o_strength o_stands) := hD
  refine lv_aload_n hx hb dX5_copyFrom_32 rfl (lv_at hl 1 rfl) ?_
  refine va_get (D := (dC, dI)) (ci := 5) (v := .ref qo_strength) (C := RX5) (T := TX5) (N := 7) hx hb hw inlX5 hown hK hP 3 rfl rfl 5 (by decide) (hw _ mw_4_6) (fun _ h9 => h9) rfl dX5_copyFrom_33 ?_
  refine lv_iconst (v := (0 : Int32)) hx hb dX5_copyFrom_36 (by decide) ?_
  refine lv_aload_n hx hb dX5_copyFrom_37 rfl (lv_at hl 0 rfl) ?_
  refine va_get (D := (dC, dI)) (ci := 5) (v := .ref qs_strength) (C := RX5) (T := TX5) (N := 7) hx hb hw inlX5 hown hK hP 0 rfl rfl 5 (by decide) (hw _ mw_4_6) (fun _ h9 => h9) rfl dX5_copyFrom_38 ?_
  refine lv_iconst (v := (0 : Int32)) hx hb dX5_copyFrom_41 (by decide) ?_
  refine lv_bipush (v := (6 : Int32)) hx hb dX5_copyFrom_42 (by decide) ?_
  refine va_copyi hx hb (hml.trans hl.1.symm) hown (hw _ mw_18_16) (hw _ mw_18_17) (hw _ mw_18_18) (hw _ mw_18_19) hK hP hD hS 4 1 0 0 (ty := .int) rfl rfl rfl rfl rfl (by decide) (by decide) (by decide) (by decide) (by decide) (fun _ _ => rfl) (Nat.le_of_ble_eq_true rfl) (by decide +kernel) dX5_copyFrom_44 (fun H locs hP hD hS => ?_)
  have hP : va_P (dC, dI) vwCl (W_X5s_X5o cI cZ cII qs qs_strength qs_stands qo qo_strength qo_stands o_hour o_oats o_missed o_seed s_kept (va_cpy o_strength s_strength 0 0 6) s_stands o_hour o_oats o_missed o_seed o_kept o_strength o_stands) H := hP
  have hD : va_D A (W_X5s_X5o cI cZ cII qs qs_strength qs_stands qo qo_strength qo_stands o_hour o_oats o_missed o_seed s_kept (va_cpy o_strength s_strength 0 0 6) s_stands o_hour o_oats o_missed o_seed o_kept o_strength o_stands) := hD
  refine lv_aload_n hx hb dX5_copyFrom_47 rfl (lv_at hl 1 rfl) ?_
  refine va_get (D := (dC, dI)) (ci := 5) (v := .ref qo_stands) (C := RX5) (T := TX5) (N := 7) hx hb hw inlX5 hown hK hP 3 rfl rfl 6 (by decide) (hw _ mw_4_7) (fun _ h9 => h9) rfl dX5_copyFrom_48 ?_
  refine lv_iconst (v := (0 : Int32)) hx hb dX5_copyFrom_51 (by decide) ?_
  refine lv_aload_n hx hb dX5_copyFrom_52 rfl (lv_at hl 0 rfl) ?_
  refine va_get (D := (dC, dI)) (ci := 5) (v := .ref qs_stands) (C := RX5) (T := TX5) (N := 7) hx hb hw inlX5 hown hK hP 0 rfl rfl 6 (by decide) (hw _ mw_4_7) (fun _ h9 => h9) rfl dX5_copyFrom_53 ?_
  refine lv_iconst (v := (0 : Int32)) hx hb dX5_copyFrom_56 (by decide) ?_
  refine lv_iconst (v := (3 : Int32)) hx hb dX5_copyFrom_57 (by decide) ?_
  refine va_copyi hx hb (hml.trans hl.1.symm) hown (hw _ mw_18_16) (hw _ mw_18_17) (hw _ mw_18_18) (hw _ mw_18_19) hK hP hD hS 5 2 0 0 (ty := .int) rfl rfl rfl rfl rfl (by decide) (by decide) (by decide) (by decide) (by decide) (fun _ _ => rfl) (Nat.le_of_ble_eq_true rfl) (by decide +kernel) dX5_copyFrom_58 (fun H locs hP hD hS => ?_)
  have hP : va_P (dC, dI) vwCl (W_X5s_X5o cI cZ cII qs qs_strength qs_stands qo qo_strength qo_stands o_hour o_oats o_missed o_seed s_kept (va_cpy o_strength s_strength 0 0 6) (va_cpy o_stands s_stands 0 0 3) o_hour o_oats o_missed o_seed o_kept o_strength o_stands) H := hP
  have hD : va_D A (W_X5s_X5o cI cZ cII qs qs_strength qs_stands qo qo_strength qo_stands o_hour o_oats o_missed o_seed s_kept (va_cpy o_strength s_strength 0 0 6) (va_cpy o_stands s_stands 0 0 3) o_hour o_oats o_missed o_seed o_kept o_strength o_stands) := hD
  exact RET _ _ _ _ _ _ _ _ _ _ dX5_copyFrom_61 hP hD hS hf
def f_X5_isEmpty (s_stands : Nat → Int32) : Option (Int32) :=
  if (s_stands ((0 : Int32)).toNatClampNeg) = (-1 : Int32) then
    if (s_stands ((1 : Int32)).toNatClampNeg) = (-1 : Int32) then
      if (s_stands ((2 : Int32)).toNatClampNeg) = (-1 : Int32) then
        some ((1 : Int32))
      else
        some ((0 : Int32))
    else
      some ((0 : Int32))
  else
    some ((0 : Int32))
abbrev rm_X5_isEmpty : Room := { frames := 0, cells := 0, slots := 0, locals := 0 }
theorem dk_X5_isEmpty : yX5_isEmpty.cls = RX5 ∧ yX5_isEmpty.cls ≠ "java/lang/invoke/MethodHandle" ∧ yX5_isEmpty.cls ≠ "java/lang/invoke/VarHandle" ∧ (parseMethodDescriptor yX5_isEmpty.desc).map (fun d => d.parameters.length) = some 0 := by decide +kernel
set_option maxHeartbeats 4000000 in
set_option maxRecDepth 100000 in
theorem c_X5_isEmpty (l : Launch) (dC : Nat → ClassId) (dI : Nat → Nat → Nat) (cI cZ cII : ClassId) (qs qs_strength qs_stands : Nat) (sz : Nat) (s_hour : Int32) (s_oats : Int32) (s_missed : Int32) (s_seed : Int32) (s_kept : Int32) (s_strength : Nat → Int32) (s_stands : Nat → Int32) (rr : Int32) (hf : f_X5_isEmpty s_stands = some (rr)) : Met l yX5_isEmpty (wM yX5_isEmpty cX5_isEmpty 1 (some .boolean)) rm_X5_isEmpty (PreW (dC, dI) (tyA cI cZ cII) (W_X5s cI cZ cII qs qs_strength qs_stands s_hour s_oats s_missed s_seed s_kept s_strength s_stands) sz [.ref qs]) (PostI (dC, dI) (tyA cI cZ cII) rr (W_X5s cI cZ cII qs qs_strength qs_stands s_hour s_oats s_missed s_seed s_kept s_strength s_stands) (W_X5s cI cZ cII qs qs_strength qs_stands s_hour s_oats s_missed s_seed s_kept s_strength s_stands) sz) 0 0 (va_A (W_X5s cI cZ cII qs qs_strength qs_stands s_hour s_oats s_missed s_seed s_kept s_strength s_stands) sz) := by
  refine Met.ofW (cc := cX5_isEmpty) (maxL := 1) (ret := (some .boolean)) (by decide) rfl ?_
  intro p e s m args below meth c s₁ B hml hv
  obtain ⟨rfl, hsz, hP, hK, hD0⟩ := hv
  have hx := B.exec
  have hb := B.bytes
  have hr := B.returns
  have hts := atoms_spec (ws := wM yX5_isEmpty cX5_isEmpty 1 (some .boolean)) B.pre
  have hown : s.vm.findClass RX5 = some m.cls := findClass_of_methodNamed B.named
  have hlocks := B.notSynchronized
  subst hsz
  have hD := hD0.self (sz := s.heap.size)
  obtain ⟨A, hAe⟩ : ∃ A, A = va_A (W_X5s cI cZ cII qs qs_strength qs_stands s_hour s_oats s_missed s_seed s_kept s_strength s_stands) s.heap.size := ⟨_, rfl⟩
  rw [← hAe] at hD
  have hA : ∀ q : Nat, s.heap.size ≤ q → A q := fun q h => by rw [hAe]; exact Or.inr h
  have hS : va_S A s.heap s.heap [] := va_S.rf
  have hl := lv_entry ([.ref qs]) (n := 1) (Nat.le_of_ble_eq_true rfl)
  rw [lg_entry_eq]
  generalize (lg_sl ([.ref qs]) ++ List.replicate (1 - (lg_sl ([.ref qs])).length) Slot.unset).toArray = ls at hl ⊢
  have hl : lv_has ls 1 [(0, .ref qs)] := hl
  generalize ([.ref qs] : List Value).toArray = args at hts ⊢
  have hw : ∀ w ∈ wsL_law, w.before args s = true := fun w h => hts w (List.mem_cons_of_mem _ h)
  refine pg_start (fun Q hQ => ?_)
  have RET : ∀ (H : Heap) (locs : List Loc) (ls : Array Slot) (pc : Nat) (v : Int32) , decode cX5_isEmpty pc = .ok (.ireturn, 1) → (v = 0 ∨ v = 1) → va_P (dC, dI) vwCl (W_X5s cI cZ cII qs qs_strength qs_stands s_hour s_oats s_missed s_seed s_kept s_strength s_stands) H → va_D A (W_X5s cI cZ cII qs qs_strength qs_stands s_hour s_oats s_missed s_seed s_kept s_strength s_stands) → va_S A s.heap H locs → (some (v) : Option (Int32)) = some (rr) → W p l e rm_X5_isEmpty s m args below meth c H locs 0 0 Q (F0 m pc ls [.int v]) := by
    intro H locs ls pc v hd hz hP hD hS he
    subst hAe; subst hQ
    obtain rfl := Option.some.inj he
    exact pg_zret hx hb hr hlocks hz hK hP hD hS hd
  unfold f_X5_isEmpty at hf
  refine lv_aload_n hx hb dX5_isEmpty_0 rfl (lv_at hl 0 rfl) ?_
  refine va_get (D := (dC, dI)) (ci := 5) (v := .ref qs_stands) (C := RX5) (T := TX5) (N := 7) hx hb hw inlX5 hown hK hP 0 rfl rfl 6 (by decide) (hw _ mw_4_7) (fun _ h9 => h9) rfl dX5_isEmpty_1 ?_
  refine lv_iconst (v := (0 : Int32)) hx hb dX5_isEmpty_4 (by decide) ?_
  refine va_iald hx hb hK hP 2 0 rfl rfl (pg_lit (by decide)) dX5_isEmpty_5 ?_
  refine lv_iconst (v := (-1 : Int32)) hx hb dX5_isEmpty_6 (by decide) ?_
  refine lv_icmp_ne (tgt := 34) hx hb dX5_isEmpty_7 (by decide) (fun h9 => ?_) (fun h9 => ?_)
  · have hf := pg_f h9 hf
    refine lv_iconst (v := (0 : Int32)) hx hb dX5_isEmpty_34 (by decide) ?_
    exact RET _ _ _ _ _ dX5_isEmpty_35 (by decide) hP hD hS hf
  · have hf := pg_t h9 hf
    refine lv_aload_n hx hb dX5_isEmpty_10 rfl (lv_at hl 0 rfl) ?_
    refine va_get (D := (dC, dI)) (ci := 5) (v := .ref qs_stands) (C := RX5) (T := TX5) (N := 7) hx hb hw inlX5 hown hK hP 0 rfl rfl 6 (by decide) (hw _ mw_4_7) (fun _ h9 => h9) rfl dX5_isEmpty_11 ?_
    refine lv_iconst (v := (1 : Int32)) hx hb dX5_isEmpty_14 (by decide) ?_
    refine va_iald hx hb hK hP 2 0 rfl rfl (pg_lit (by decide)) dX5_isEmpty_15 ?_
    refine lv_iconst (v := (-1 : Int32)) hx hb dX5_isEmpty_16 (by decide) ?_
    refine lv_icmp_ne (tgt := 34) hx hb dX5_isEmpty_17 (by decide) (fun h9 => ?_) (fun h9 => ?_)
    · have hf := pg_f h9 hf
      refine lv_iconst (v := (0 : Int32)) hx hb dX5_isEmpty_34 (by decide) ?_
      exact RET _ _ _ _ _ dX5_isEmpty_35 (by decide) hP hD hS hf
    · have hf := pg_t h9 hf
      refine lv_aload_n hx hb dX5_isEmpty_20 rfl (lv_at hl 0 rfl) ?_
      refine va_get (D := (dC, dI)) (ci := 5) (v := .ref qs_stands) (C := RX5) (T := TX5) (N := 7) hx hb hw inlX5 hown hK hP 0 rfl rfl 6 (by decide) (hw _ mw_4_7) (fun _ h9 => h9) rfl dX5_isEmpty_21 ?_
      refine lv_iconst (v := (2 : Int32)) hx hb dX5_isEmpty_24 (by decide) ?_
      refine va_iald hx hb hK hP 2 0 rfl rfl (pg_lit (by decide)) dX5_isEmpty_25 ?_
      refine lv_iconst (v := (-1 : Int32)) hx hb dX5_isEmpty_26 (by decide) ?_
      refine lv_icmp_ne (tgt := 34) hx hb dX5_isEmpty_27 (by decide) (fun h9 => ?_) (fun h9 => ?_)
      · have hf := pg_f h9 hf
        refine lv_iconst (v := (0 : Int32)) hx hb dX5_isEmpty_34 (by decide) ?_
        exact RET _ _ _ _ _ dX5_isEmpty_35 (by decide) hP hD hS hf
      · have hf := pg_t h9 hf
        refine lv_iconst (v := (1 : Int32)) hx hb dX5_isEmpty_30 (by decide) ?_
        refine lv_goto (tgt := 35) hx hb dX5_isEmpty_31 (by decide) ?_
        exact RET _ _ _ _ _ dX5_isEmpty_35 (by decide) hP hD hS hf
def f_X5_placeOf (n1 : Int32) (s_stands : Nat → Int32) : Option (Int32) :=
  jn1 (fun (u_1 : Unit) =>
    some ((-1 : Int32))
  ) (fun K25_1 =>
  lq1 (fun rec2 (y2_2 : Int32) =>
    if (3 : Int32) ≤ y2_2 then
      K25_1 ()
    else
      if y2_2 < 0 ∨ 3 ≤ (y2_2).toNatClampNeg then none else
      if (s_stands (y2_2).toNatClampNeg) = n1 then
        some (y2_2)
      else
        rec2 (y2_2 + (1 : Int32))
  ) fu (0 : Int32)
  )
abbrev rm_X5_placeOf : Room := { frames := 0, cells := 0, slots := 0, locals := 0 }
theorem dk_X5_placeOf : yX5_placeOf.cls = RX5 ∧ yX5_placeOf.cls ≠ "java/lang/invoke/MethodHandle" ∧ yX5_placeOf.cls ≠ "java/lang/invoke/VarHandle" ∧ (parseMethodDescriptor yX5_placeOf.desc).map (fun d => d.parameters.length) = some 1 := by decide +kernel
set_option maxHeartbeats 4000000 in
set_option maxRecDepth 100000 in
theorem c_X5_placeOf (l : Launch) (dC : Nat → ClassId) (dI : Nat → Nat → Nat) (cI cZ cII : ClassId) (qs qs_strength qs_stands : Nat) (sz : Nat) (s_hour : Int32) (s_oats : Int32) (s_missed : Int32) (s_seed : Int32) (s_kept : Int32) (s_strength : Nat → Int32) (s_stands : Nat → Int32) (n1 : Int32) (rr : Int32) (hf : f_X5_placeOf n1 s_stands = some (rr)) : Met l yX5_placeOf (wM yX5_placeOf cX5_placeOf 3 (some .int)) rm_X5_placeOf (PreW (dC, dI) (tyA cI cZ cII) (W_X5s cI cZ cII qs qs_strength qs_stands s_hour s_oats s_missed s_seed s_kept s_strength s_stands) sz [.ref qs, .int n1]) (PostI (dC, dI) (tyA cI cZ cII) rr (W_X5s cI cZ cII qs qs_strength qs_stands s_hour s_oats s_missed s_seed s_kept s_strength s_stands) (W_X5s cI cZ cII qs qs_strength qs_stands s_hour s_oats s_missed s_seed s_kept s_strength s_stands) sz) 0 0 (va_A (W_X5s cI cZ cII qs qs_strength qs_stands s_hour s_oats s_missed s_seed s_kept s_strength s_stands) sz) := by
  refine Met.ofW (cc := cX5_placeOf) (maxL := 3) (ret := (some .int)) (by decide) rfl ?_
  intro p e s m args below meth c s₁ B hml hv
  obtain ⟨rfl, hsz, hP, hK, hD0⟩ := hv
  have hx := B.exec
  have hb := B.bytes
  have hr := B.returns
  have hts := atoms_spec (ws := wM yX5_placeOf cX5_placeOf 3 (some .int)) B.pre
  have hown : s.vm.findClass RX5 = some m.cls := findClass_of_methodNamed B.named
  have hlocks := B.notSynchronized
  subst hsz
  have hD := hD0.self (sz := s.heap.size)
  obtain ⟨A, hAe⟩ : ∃ A, A = va_A (W_X5s cI cZ cII qs qs_strength qs_stands s_hour s_oats s_missed s_seed s_kept s_strength s_stands) s.heap.size := ⟨_, rfl⟩
  rw [← hAe] at hD
  have hA : ∀ q : Nat, s.heap.size ≤ q → A q := fun q h => by rw [hAe]; exact Or.inr h
  have hS : va_S A s.heap s.heap [] := va_S.rf
  have hl := lv_entry ([.ref qs, .int n1]) (n := 3) (Nat.le_of_ble_eq_true rfl)
  rw [lg_entry_eq]
  generalize (lg_sl ([.ref qs, .int n1]) ++ List.replicate (3 - (lg_sl ([.ref qs, .int n1])).length) Slot.unset).toArray = ls at hl ⊢
  have hl : lv_has ls 3 [(0, .ref qs), (1, .int n1)] := hl
  generalize ([.ref qs, .int n1] : List Value).toArray = args at hts ⊢
  have hw : ∀ w ∈ wsL_law, w.before args s = true := fun w h => hts w (List.mem_cons_of_mem _ h)
  refine pg_start (fun Q hQ => ?_)
  have RET : ∀ (H : Heap) (locs : List Loc) (ls : Array Slot) (pc : Nat) (v : Int32) , decode cX5_placeOf pc = .ok (.ireturn, 1) → va_P (dC, dI) vwCl (W_X5s cI cZ cII qs qs_strength qs_stands s_hour s_oats s_missed s_seed s_kept s_strength s_stands) H → va_D A (W_X5s cI cZ cII qs qs_strength qs_stands s_hour s_oats s_missed s_seed s_kept s_strength s_stands) → va_S A s.heap H locs → (some (v) : Option (Int32)) = some (rr) → W p l e rm_X5_placeOf s m args below meth c H locs 0 0 Q (F0 m pc ls [.int v]) := by
    intro H locs ls pc v hd hP hD hS he
    subst hAe; subst hQ
    obtain rfl := Option.some.inj he
    exact pg_iret hx hb hr hlocks hK hP hD hS hd
  unfold f_X5_placeOf at hf
  refine lv_iconst (v := (0 : Int32)) hx hb dX5_placeOf_0 (by decide) ?_
  refine lv_istore_n (lv' := [(2, .int (0 : Int32)), (0, .ref qs), (1, .int n1)]) hx hb dX5_placeOf_1 rfl hl (by decide) rfl (fun ls hl => ?_)
  obtain ⟨K25_1, hK25_1, hf⟩ := jn1_s hf
  have WK25_1 : ∀ (u_1 : Unit) (H : Heap) (locs : List Loc) (ls : Array Slot), va_P (dC, dI) vwCl (W_X5s cI cZ cII qs qs_strength qs_stands s_hour s_oats s_missed s_seed s_kept s_strength s_stands) H → va_D A (W_X5s cI cZ cII qs qs_strength qs_stands s_hour s_oats s_missed s_seed s_kept s_strength s_stands) → va_S A s.heap H locs → lv_has ls 3 [] → K25_1 u_1 = some (rr) → W p l e rm_X5_placeOf s m args below meth c H locs 0 0 Q (F0 m 25 ls []) := by
    intro u_1 H locs ls hP hD hS hl hf
    have hf := hK25_1 _ hf
    refine lv_iconst (v := (-1 : Int32)) hx hb dX5_placeOf_25 (by decide) ?_
    exact RET _ _ _ _ _ dX5_placeOf_26 hP hD hS hf
  obtain ⟨B2, hB2, hf⟩ := lq1_n hf
  have WL2 : ∀ (n9 : Nat) (y2_2 : Int32) (H : Heap) (locs : List Loc) (ls : Array Slot), va_P (dC, dI) vwCl (W_X5s cI cZ cII qs qs_strength qs_stands s_hour s_oats s_missed s_seed s_kept s_strength s_stands) H → va_D A (W_X5s cI cZ cII qs qs_strength qs_stands s_hour s_oats s_missed s_seed s_kept s_strength s_stands) → va_S A s.heap H locs → lv_has ls 3 [(0, .ref qs), (1, .int n1), (2, .int y2_2)] → lq1 B2 n9 y2_2 = some (rr) → W p l e rm_X5_placeOf s m args below meth c H locs 0 0 Q (F0 m 2 ls []) := by
    intro n9
    induction n9 with
    | zero => intro y2_2 H locs ls hP hD hS hl hf; cases hf
    | succ n9 ih =>
      intro y2_2 H locs ls hP hD hS hl hf
      obtain ⟨rec2, hrec2, hf⟩ := lq1_s hf
      have hf := hB2 rec2 _ hf
      refine lv_iload_n hx hb dX5_placeOf_2 rfl (lv_at hl 2 rfl) ?_
      refine lv_iconst (v := (3 : Int32)) hx hb dX5_placeOf_3 (by decide) ?_
      refine lv_icmp_ge (tgt := 25) hx hb dX5_placeOf_4 (by decide) (fun h9 => ?_) (fun h9 => ?_)
      · have hf := pg_t h9 hf
        exact WK25_1 _ _ _ _ hP hD hS (lv_sub hl [] rfl) hf
      · have hf := pg_f h9 hf
        refine lv_aload_n hx hb dX5_placeOf_7 rfl (lv_at hl 0 rfl) ?_
        refine va_get (D := (dC, dI)) (ci := 5) (v := .ref qs_stands) (C := RX5) (T := TX5) (N := 7) hx hb hw inlX5 hown hK hP 0 rfl rfl 6 (by decide) (hw _ mw_4_7) (fun _ h9 => h9) rfl dX5_placeOf_8 ?_
        refine lv_iload_n hx hb dX5_placeOf_11 rfl (lv_at hl 2 rfl) ?_
        obtain ⟨hi3, hf⟩ := pg_chk hf
        refine va_iald hx hb hK hP 2 0 rfl rfl hi3 dX5_placeOf_12 ?_
        refine lv_iload_n hx hb dX5_placeOf_13 rfl (lv_at hl 1 rfl) ?_
        refine lv_icmp_ne (tgt := 19) hx hb dX5_placeOf_14 (by decide) (fun h9 => ?_) (fun h9 => ?_)
        · have hf := pg_f h9 hf
          refine lv_iinc (v := (y2_2 + (1 : Int32))) (lv' := [(2, .int (y2_2 + (1 : Int32))), (0, .ref qs), (1, .int n1)]) hx hb dX5_placeOf_19 hl (k := 2) rfl rfl (by decide) rfl (fun ls hl => ?_)
          refine lv_goto (tgt := 2) hx hb dX5_placeOf_22 (by decide) ?_
          exact ih _ _ _ _ hP hD hS (lv_sub hl [1, 2, 0] rfl) (hrec2 _ hf)
        · have hf := pg_t h9 hf
          refine lv_iload_n hx hb dX5_placeOf_17 rfl (lv_at hl 2 rfl) ?_
          exact RET _ _ _ _ _ dX5_placeOf_18 hP hD hS hf
  exact WL2 fu _ _ _ _ hP hD hS (lv_sub hl [1, 2, 0] rfl) hf
def f_X5_draw (n1 : Int32) (s_seed : Int32) : Option (Int32 × Int32) :=
  if 0 < n1 then
    if n1 = 0 then none else
    some ((((((((s_seed).toInt64 * (1103515245 : Int64)) + (12345 : Int64)) &&& (2147483647 : Int64))).toInt32 / (65536 : Int32)) - ((((((s_seed).toInt64 * (1103515245 : Int64)) + (12345 : Int64)) &&& (2147483647 : Int64))).toInt32 / (65536 : Int32)) / n1 * n1), (((((s_seed).toInt64 * (1103515245 : Int64)) + (12345 : Int64)) &&& (2147483647 : Int64))).toInt32)
  else
    some ((0 : Int32), (((((s_seed).toInt64 * (1103515245 : Int64)) + (12345 : Int64)) &&& (2147483647 : Int64))).toInt32)
abbrev rm_X5_draw : Room := { frames := 0, cells := 0, slots := 0, locals := 0 }
theorem dk_X5_draw : yX5_draw.cls = RX5 ∧ yX5_draw.cls ≠ "java/lang/invoke/MethodHandle" ∧ yX5_draw.cls ≠ "java/lang/invoke/VarHandle" ∧ (parseMethodDescriptor yX5_draw.desc).map (fun d => d.parameters.length) = some 1 := by decide +kernel
set_option maxHeartbeats 4000000 in
set_option maxRecDepth 100000 in
theorem c_X5_draw (l : Launch) (dC : Nat → ClassId) (dI : Nat → Nat → Nat) (cI cZ cII : ClassId) (qs qs_strength qs_stands : Nat) (sz : Nat) (s_hour : Int32) (s_oats : Int32) (s_missed : Int32) (s_seed : Int32) (s_kept : Int32) (s_strength : Nat → Int32) (s_stands : Nat → Int32) (n1 : Int32) (rr : Int32) (s_seed' : Int32) (hf : f_X5_draw n1 s_seed = some (rr, s_seed')) : Met l yX5_draw (wM yX5_draw cX5_draw 2 (some .int)) rm_X5_draw (PreW (dC, dI) (tyA cI cZ cII) (W_X5s cI cZ cII qs qs_strength qs_stands s_hour s_oats s_missed s_seed s_kept s_strength s_stands) sz [.ref qs, .int n1]) (PostI (dC, dI) (tyA cI cZ cII) rr (W_X5s cI cZ cII qs qs_strength qs_stands s_hour s_oats s_missed s_seed s_kept s_strength s_stands) (W_X5s cI cZ cII qs qs_strength qs_stands s_hour s_oats s_missed s_seed' s_kept s_strength s_stands) sz) 0 0 (va_A (W_X5s cI cZ cII qs qs_strength qs_stands s_hour s_oats s_missed s_seed s_kept s_strength s_stands) sz) := by
  refine Met.ofW (cc := cX5_draw) (maxL := 2) (ret := (some .int)) (by decide) rfl ?_
  intro p e s m args below meth c s₁ B hml hv
  obtain ⟨rfl, hsz, hP, hK, hD0⟩ := hv
  have hx := B.exec
  have hb := B.bytes
  have hr := B.returns
  have hts := atoms_spec (ws := wM yX5_draw cX5_draw 2 (some .int)) B.pre
  have hown : s.vm.findClass RX5 = some m.cls := findClass_of_methodNamed B.named
  have hlocks := B.notSynchronized
  subst hsz
  have hD := hD0.self (sz := s.heap.size)
  obtain ⟨A, hAe⟩ : ∃ A, A = va_A (W_X5s cI cZ cII qs qs_strength qs_stands s_hour s_oats s_missed s_seed s_kept s_strength s_stands) s.heap.size := ⟨_, rfl⟩
  rw [← hAe] at hD
  have hA : ∀ q : Nat, s.heap.size ≤ q → A q := fun q h => by rw [hAe]; exact Or.inr h
  have hS : va_S A s.heap s.heap [] := va_S.rf
  have hl := lv_entry ([.ref qs, .int n1]) (n := 2) (Nat.le_of_ble_eq_true rfl)
  rw [lg_entry_eq]
  generalize (lg_sl ([.ref qs, .int n1]) ++ List.replicate (2 - (lg_sl ([.ref qs, .int n1])).length) Slot.unset).toArray = ls at hl ⊢
  have hl : lv_has ls 2 [(0, .ref qs), (1, .int n1)] := hl
  generalize ([.ref qs, .int n1] : List Value).toArray = args at hts ⊢
  have hw : ∀ w ∈ wsL_law, w.before args s = true := fun w h => hts w (List.mem_cons_of_mem _ h)
  refine pg_start (fun Q hQ => ?_)
  have RET : ∀ (H : Heap) (locs : List Loc) (ls : Array Slot) (pc : Nat) (v : Int32) (x0 : Int32) , decode cX5_draw pc = .ok (.ireturn, 1) → va_P (dC, dI) vwCl (W_X5s cI cZ cII qs qs_strength qs_stands s_hour s_oats s_missed x0 s_kept s_strength s_stands) H → va_D A (W_X5s cI cZ cII qs qs_strength qs_stands s_hour s_oats s_missed x0 s_kept s_strength s_stands) → va_S A s.heap H locs → (some (v, x0) : Option (Int32 × Int32)) = some (rr, s_seed') → W p l e rm_X5_draw s m args below meth c H locs 0 0 Q (F0 m pc ls [.int v]) := by
    intro H locs ls pc v x0 hd hP hD hS he
    subst hAe; subst hQ
    simp only [Option.some.injEq, Prod.mk.injEq] at he
    obtain ⟨rfl, rfl⟩ := he
    exact pg_iret hx hb hr hlocks hK hP hD hS hd
  unfold f_X5_draw at hf
  refine lv_aload_n hx hb dX5_draw_0 rfl (lv_at hl 0 rfl) ?_
  refine lv_aload_n hx hb dX5_draw_1 rfl (lv_at hl 0 rfl) ?_
  refine va_get (D := (dC, dI)) (ci := 5) (v := .int s_seed) (C := RX5) (T := TX5) (N := 7) hx hb hw inlX5 hown hK hP 0 rfl rfl 3 (by decide) (hw _ mw_33_15) (fun _ h9 => h9) rfl dX5_draw_2 ?_
  refine lv_i2l hx hb dX5_draw_5 rfl ?_
  refine lv_ldc2 (v := (1103515245 : Int64)) hx hb hown (hw _ mw_33_16) dX5_draw_6 ?_
  refine lv_lmul hx hb dX5_draw_9 ?_
  refine lv_ldc2 (v := (12345 : Int64)) hx hb hown (hw _ mw_33_17) dX5_draw_10 ?_
  refine lv_ladd hx hb dX5_draw_13 ?_
  refine lv_ldc2 (v := (2147483647 : Int64)) hx hb hown (hw _ mw_33_18) dX5_draw_14 ?_
  refine lv_land hx hb dX5_draw_17 ?_
  refine lv_l2i hx hb dX5_draw_18 rfl ?_
  refine va_put (D := (dC, dI)) (ci := 5) (v := .int (((((s_seed).toInt64 * (1103515245 : Int64)) + (12345 : Int64)) &&& (2147483647 : Int64))).toInt32) (ty := .int) (C := RX5) (T := TX5) (N := 7) hx hb hw inlX5 tyX5 tyX5_ok nmX5 hown hK hP hD hS 0 rfl rfl 3 (by decide) (hw _ mw_33_15) (fun _ h9 => h9) rfl (by decide +kernel) rfl rfl (Nat.le_of_ble_eq_true rfl) dX5_draw_19 (fun H locs hP hD hS => ?_)
  have hP : va_P (dC, dI) vwCl (W_X5s cI cZ cII qs qs_strength qs_stands s_hour s_oats s_missed (((((s_seed).toInt64 * (1103515245 : Int64)) + (12345 : Int64)) &&& (2147483647 : Int64))).toInt32 s_kept s_strength s_stands) H := hP
  have hD : va_D A (W_X5s cI cZ cII qs qs_strength qs_stands s_hour s_oats s_missed (((((s_seed).toInt64 * (1103515245 : Int64)) + (12345 : Int64)) &&& (2147483647 : Int64))).toInt32 s_kept s_strength s_stands) := hD
  refine lv_iload_n hx hb dX5_draw_22 rfl (lv_at hl 1 rfl) ?_
  refine lv_if_gt (tgt := 30) hx hb dX5_draw_23 (by decide) (fun h9 => ?_) (fun h9 => ?_)
  · have hf := pg_t h9 hf
    refine lv_aload_n hx hb dX5_draw_30 rfl (lv_at hl 0 rfl) ?_
    refine va_get (D := (dC, dI)) (ci := 5) (v := .int (((((s_seed).toInt64 * (1103515245 : Int64)) + (12345 : Int64)) &&& (2147483647 : Int64))).toInt32) (C := RX5) (T := TX5) (N := 7) hx hb hw inlX5 hown hK hP 0 rfl rfl 3 (by decide) (hw _ mw_33_15) (fun _ h9 => h9) rfl dX5_draw_31 ?_
    refine lv_ldc (v := (65536 : Int32)) hx hb hown (hw _ mw_33_19) dX5_draw_34 ?_
    refine lv_idiv hx hb dX5_draw_36 (by decide) ?_
    refine lv_iload_n hx hb dX5_draw_37 rfl (lv_at hl 1 rfl) ?_
    obtain ⟨hi1, hf⟩ := pg_chk hf
    refine lv_irem hx hb dX5_draw_38 hi1 ?_
    exact RET _ _ _ _ _ _ dX5_draw_39 hP hD hS hf
  · have hf := pg_f h9 hf
    refine lv_iconst (v := (0 : Int32)) hx hb dX5_draw_26 (by decide) ?_
    refine lv_goto (tgt := 39) hx hb dX5_draw_27 (by decide) ?_
    exact RET _ _ _ _ _ _ dX5_draw_39 hP hD hS hf
