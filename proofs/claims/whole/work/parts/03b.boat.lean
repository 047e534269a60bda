def f_J7_fill_53178 (N : Nat) (n1 : Int32) (u : Nat → Int32) : Option ((Nat → Int32)) :=
  jn1 (fun (u_1 : Nat → Int32) =>
    some (u_1)
  ) (fun K20_1 =>
  lq2 (fun rec2 (y2_2 : Int32) (u_2 : Nat → Int32) =>
    if (Int32.ofNat N) ≤ y2_2 then
      K20_1 u_2
    else
      if y2_2 < 0 ∨ N ≤ (y2_2).toNatClampNeg then none else
      rec2 (y2_2 + (1 : Int32)) (upd u_2 (y2_2).toNatClampNeg n1)
  ) fu (0 : Int32) u
  )
abbrev rm_J7_fill_53178 : Room := { frames := 0, cells := 0, slots := 0, locals := 0 }
theorem dk_J7_fill_53178 : yJ7_fill_53178.cls ≠ "java/lang/invoke/MethodHandle" ∧ yJ7_fill_53178.cls ≠ "java/lang/invoke/VarHandle" ∧ (parseMethodDescriptor yJ7_fill_53178.desc).map (fun d => d.parameters.length) = some 2 := by decide +kernel
set_option maxHeartbeats 4000000 in
set_option maxRecDepth 100000 in
theorem c_J7_fill_53178 (l : Launch) (dC : Nat → ClassId) (dI : Nat → Nat → Nat) (cI cZ cII : ClassId) (N : Nat) (qu : Nat) (sz : Nat) (u : Nat → Int32) (n1 : Int32) (u' : Nat → Int32) (hf : f_J7_fill_53178 N n1 u = some (u')) : Met l yJ7_fill_53178 (wM yJ7_fill_53178 cJ7_fill_53178 4 none) rm_J7_fill_53178 (PreW (dC, dI) (tyA cI cZ cII) (W__auN cI cZ cII N qu u) sz [.ref qu, .int n1]) (PostV (dC, dI) (tyA cI cZ cII) (W__auN cI cZ cII N qu u) (W__auN cI cZ cII N qu u') sz) 0 0 (va_A (W__auN cI cZ cII N qu u) sz) := by
  refine Met.ofW (cc := cJ7_fill_53178) (maxL := 4) (ret := none) (by decide) rfl ?_
  intro p e s m args below meth c s₁ B hml hv
  obtain ⟨rfl, hsz, hP, hK, hD0⟩ := hv
  have hx := B.exec
  have hb := B.bytes
  have hr := B.returns
  have hts := atoms_spec (ws := wM yJ7_fill_53178 cJ7_fill_53178 4 none) B.pre
  have hown : s.vm.findClass RJ7 = some m.cls := findClass_of_methodNamed B.named
  have hlocks := B.notSynchronized
  subst hsz
  have hD := hD0.self (sz := s.heap.size)
  obtain ⟨A, hAe⟩ : ∃ A, A = va_A (W__auN cI cZ cII N qu u) s.heap.size := ⟨_, rfl⟩
  rw [← hAe] at hD
  have hA : ∀ q : Nat, s.heap.size ≤ q → A q := fun q h => by rw [hAe]; exact Or.inr h
  have hS : va_S A s.heap s.heap [] := va_S.rf
  have hl := lv_entry ([.ref qu, .int n1]) (n := 4) (Nat.le_of_ble_eq_true rfl)
  rw [lg_entry_eq]
  generalize (lg_sl ([.ref qu, .int n1]) ++ List.replicate (4 - (lg_sl ([.ref qu, .int n1])).length) Slot.unset).toArray = ls at hl ⊢
  have hl : lv_has ls 4 [(0, .ref qu), (1, .int n1)] := hl
  generalize ([.ref qu, .int n1] : List Value).toArray = args at hts ⊢
  have hw : ∀ w ∈ wsL_law, w.before args s = true := fun w h => hts w (List.mem_cons_of_mem _ h)
  refine pg_start (fun Q hQ => ?_)
  have RET : ∀ (H : Heap) (locs : List Loc) (ls : Array Slot) (pc : Nat) (x0 : Nat → Int32) , decode cJ7_fill_53178 pc = .ok (.return_, 1) → va_P (dC, dI) vwCl (W__auN cI cZ cII N qu x0) H → va_D A (W__auN cI cZ cII N qu x0) → va_S A s.heap H locs → (some (x0) : Option ((Nat → Int32))) = some (u') → W p l e rm_J7_fill_53178 s m args below meth c H locs 0 0 Q (F0 m pc ls []) := by
    intro H locs ls pc x0 hd hP hD hS he
    subst hAe; subst hQ
    obtain rfl := Option.some.inj he
    exact pg_vret hx hb hr hlocks hK hP hD hS hd
  unfold f_J7_fill_53178 at hf
  refine lv_iconst (v := (0 : Int32)) hx hb dJ7_fill_53178_0 (by decide) ?_
  refine lv_istore_n (lv' := [(2, .int (0 : Int32)), (0, .ref qu), (1, .int n1)]) hx hb dJ7_fill_53178_1 rfl hl (by decide) rfl (fun ls hl => ?_)
  refine lv_aload_n hx hb dJ7_fill_53178_2 rfl (lv_at hl 1 rfl) ?_
  refine va_alen (v := (Int32.ofNat N)) hx hb hK hP 0 0 rfl rfl rfl dJ7_fill_53178_3 ?_
  refine lv_istore_n (lv' := [(3, .int (Int32.ofNat N)), (2, .int (0 : Int32)), (0, .ref qu), (1, .int n1)]) hx hb dJ7_fill_53178_4 rfl hl (by decide) rfl (fun ls hl => ?_)
  obtain ⟨K20_1, hK20_1, hf⟩ := jn1_s hf
  have WK20_1 : ∀ (u_1 : Nat → Int32) (H : Heap) (locs : List Loc) (ls : Array Slot), va_P (dC, dI) vwCl (W__auN cI cZ cII N qu u_1) H → va_D A (W__auN cI cZ cII N qu u_1) → va_S A s.heap H locs → lv_has ls 4 [] → K20_1 u_1 = some (u') → W p l e rm_J7_fill_53178 s m args below meth c H locs 0 0 Q (F0 m 20 ls []) := by
    intro u_1 H locs ls hP hD hS hl hf
    have hf := hK20_1 _ hf
    exact RET _ _ _ _ _ dJ7_fill_53178_20 hP hD hS hf
  obtain ⟨B2, hB2, hf⟩ := lq2_n hf
  have WL2 : ∀ (n9 : Nat) (y2_2 : Int32) (u_2 : Nat → Int32) (H : Heap) (locs : List Loc) (ls : Array Slot), va_P (dC, dI) vwCl (W__auN cI cZ cII N qu u_2) H → va_D A (W__auN cI cZ cII N qu u_2) → va_S A s.heap H locs → lv_has ls 4 [(0, .ref qu), (1, .int n1), (2, .int y2_2), (3, .int (Int32.ofNat N))] → lq2 B2 n9 y2_2 u_2 = some (u') → W p l e rm_J7_fill_53178 s m args below meth c H locs 0 0 Q (F0 m 5 ls []) := by
    intro n9
    induction n9 with
    | zero => intro y2_2 u_2 H locs ls hP hD hS hl hf; cases hf
    | succ n9 ih =>
      intro y2_2 u_2 H locs ls hP hD hS hl hf
      obtain ⟨rec2, hrec2, hf⟩ := lq2_s hf
      have hf := hB2 rec2 _ _ hf
      refine lv_iload_n hx hb dJ7_fill_53178_5 rfl (lv_at hl 2 rfl) ?_
      refine lv_iload_n hx hb dJ7_fill_53178_6 rfl (lv_at hl 3 rfl) ?_
      refine lv_icmp_ge (tgt := 20) hx hb dJ7_fill_53178_7 (by decide) (fun h9 => ?_) (fun h9 => ?_)
      · have hf := pg_t h9 hf
        exact WK20_1 _ _ _ _ hP hD hS (lv_sub hl [] rfl) hf
      · have hf := pg_f h9 hf
        refine lv_aload_n hx hb dJ7_fill_53178_10 rfl (lv_at hl 0 rfl) ?_
        refine lv_iload_n hx hb dJ7_fill_53178_11 rfl (lv_at hl 2 rfl) ?_
        refine lv_iload_n hx hb dJ7_fill_53178_12 rfl (lv_at hl 1 rfl) ?_
        obtain ⟨hi3, hf⟩ := pg_chk hf
        refine va_iast hx hb hK hP hD hS 0 0 rfl rfl hi3 dJ7_fill_53178_13 (fun H locs hP hD hS => ?_)
        have hP : va_P (dC, dI) vwCl (W__auN cI cZ cII N qu (upd u_2 (y2_2).toNatClampNeg n1)) H := hP
        have hD : va_D A (W__auN cI cZ cII N qu (upd u_2 (y2_2).toNatClampNeg n1)) := hD
        refine lv_iinc (v := (y2_2 + (1 : Int32))) (lv' := [(2, .int (y2_2 + (1 : Int32))), (0, .ref qu), (1, .int n1), (3, .int (Int32.ofNat N))]) hx hb dJ7_fill_53178_14 hl (k := 2) rfl rfl (by decide) rfl (fun ls hl => ?_)
        refine lv_goto (tgt := 5) hx hb dJ7_fill_53178_17 (by decide) ?_
        exact ih _ _ _ _ _ hP hD hS (lv_sub hl [1, 2, 0, 3] rfl) (hrec2 _ _ hf)
  exact WL2 fu _ _ _ _ _ hP hD hS (lv_sub hl [2, 3, 1, 0] rfl) hf
def f_X0_clear (b_law : Int32) (b_places : Int32) (b_broad : Int32) (b_horses : Int32) (b_blinds : Int32) (b_besides : Int32) (b_tideCount : Int32) (b_cartCount : Int32) (b_due : Int32) (b_pairs : Int64) (b_moods : Nat → Int32) : Option (Int32 × Int32 × Int32 × Int32 × Int32 × Int32 × Int32 × Int32 × Int32 × Int64 × (Nat → Int32)) :=
  bn1 (f_J7_fill_53178 36 (0 : Int32) b_moods) (fun (b_moods_1 : Nat → Int32) =>
    some ((0 : Int32), (0 : Int32), (0 : Int32), (0 : Int32), (0 : Int32), (0 : Int32), (0 : Int32), (0 : Int32), (0 : Int32), (0 : Int64), b_moods_1)
  )
set_option maxRecDepth 100000 in
theorem plC_0 (cI cZ cII : ClassId) (qb qb_pull qb_strength qb_back qb_moods qb_tides qb_carts : Nat) (b_law : Int32) (b_places : Int32) (b_broad : Int32) (b_horses : Int32) (b_blinds : Int32) (b_besides : Int32) (b_tideCount : Int32) (b_cartCount : Int32) (b_due : Int32) (b_pairs : Int64) (b_pull : Nat → Int32) (b_strength : Nat → Int32) (b_back : Nat → Int32) (b_moods : Nat → Int32) (b_tides : Nat → Int32) (b_carts : Nat → Int32) : ([4] : List Nat).map (fun i => (W_X0b cI cZ cII qb qb_pull qb_strength qb_back qb_moods qb_tides qb_carts b_law b_places b_broad b_horses b_blinds b_besides b_tideCount b_cartCount b_due b_pairs b_pull b_strength b_back b_moods b_tides b_carts)[i]?) = (W__auN cI cZ cII 36 qb_moods b_moods).map some := rfl
set_option maxRecDepth 100000 in
theorem plF_0 (cI cZ cII : ClassId) (qb qb_pull qb_strength qb_back qb_moods qb_tides qb_carts : Nat) (b_law : Int32) (b_places : Int32) (b_broad : Int32) (b_horses : Int32) (b_blinds : Int32) (b_besides : Int32) (b_tideCount : Int32) (b_cartCount : Int32) (b_due : Int32) (b_pairs : Int64) (b_pull : Nat → Int32) (b_strength : Nat → Int32) (b_back : Nat → Int32) (b_moods : Nat → Int32) (b_tides : Nat → Int32) (b_carts : Nat → Int32) (b9b_moods : Nat → Int32) : ([0, 1, 2, 3, 6, 4, 5] : List Nat).map (fun i => (pickW (W_X0b cI cZ cII qb qb_pull qb_strength qb_back qb_moods qb_tides qb_carts b_law b_places b_broad b_horses b_blinds b_besides b_tideCount b_cartCount b_due b_pairs b_pull b_strength b_back b_moods b_tides b_carts) ([0, 1, 2, 3, 5, 6] : List Nat) ++ (W__auN cI cZ cII 36 qb_moods b9b_moods))[i]?) = (W_X0b cI cZ cII qb qb_pull qb_strength qb_back qb_moods qb_tides qb_carts b_law b_places b_broad b_horses b_blinds b_besides b_tideCount b_cartCount b_due b_pairs b_pull b_strength b_back b9b_moods b_tides b_carts).map some := rfl
abbrev rm_X0_clear : Room := { frames := 1, cells := 0, slots := 0, locals := 23 }
theorem dk_X0_clear : yX0_clear.cls = RX0 ∧ yX0_clear.cls ≠ "java/lang/invoke/MethodHandle" ∧ yX0_clear.cls ≠ "java/lang/invoke/VarHandle" ∧ (parseMethodDescriptor yX0_clear.desc).map (fun d => d.parameters.length) = some 0 := by decide +kernel
set_option maxHeartbeats 4000000 in
set_option maxRecDepth 100000 in
theorem c_X0_clear (l : Launch) (dC : Nat → ClassId) (dI : Nat → Nat → Nat) (cI cZ cII : ClassId) (qb qb_pull qb_strength qb_back qb_moods qb_tides qb_carts : Nat) (sz : Nat) (b_law : Int32) (b_places : Int32) (b_broad : Int32) (b_horses : Int32) (b_blinds : Int32) (b_besides : Int32) (b_tideCount : Int32) (b_cartCount : Int32) (b_due : Int32) (b_pairs : Int64) (b_pull : Nat → Int32) (b_strength : Nat → Int32) (b_back : Nat → Int32) (b_moods : Nat → Int32) (b_tides : Nat → Int32) (b_carts : Nat → Int32) (b_law' : Int32) (b_places' : Int32) (b_broad' : Int32) (b_horses' : Int32) (b_blinds' : Int32) (b_besides' : Int32) (b_tideCount' : Int32) (b_cartCount' : Int32) (b_due' : Int32) (b_pairs' : Int64) (b_moods' : Nat → Int32) (hf : f_X0_clear b_law b_places b_broad b_horses b_blinds b_besides b_tideCount b_cartCount b_due b_pairs b_moods = some (b_law', b_places', b_broad', b_horses', b_blinds', b_besides', b_tideCount', b_cartCount', b_due', b_pairs', b_moods')) : Met l yX0_clear (wM yX0_clear cX0_clear 1 none) rm_X0_clear (PreW (dC, dI) (tyA cI cZ cII) (W_X0b cI cZ cII qb qb_pull qb_strength qb_back qb_moods qb_tides qb_carts b_law b_places b_broad b_horses b_blinds b_besides b_tideCount b_cartCount b_due b_pairs b_pull b_strength b_back b_moods b_tides b_carts) sz [.ref qb]) (PostV (dC, dI) (tyA cI cZ cII) (W_X0b cI cZ cII qb qb_pull qb_strength qb_back qb_moods qb_tides qb_carts b_law b_places b_broad b_horses b_blinds b_besides b_tideCount b_cartCount b_due b_pairs b_pull b_strength b_back b_moods b_tides b_carts) (W_X0b cI cZ cII qb qb_pull qb_strength qb_back qb_moods qb_tides qb_carts b_law' b_places' b_broad' b_horses' b_blinds' b_besides' b_tideCount' b_cartCount' b_due' b_pairs' b_pull b_strength b_back b_moods' b_tides b_carts) sz) 0 0 (va_A (W_X0b cI cZ cII qb qb_pull qb_strength qb_back qb_moods qb_tides qb_carts b_law b_places b_broad b_horses b_blinds b_besides b_tideCount b_cartCount b_due b_pairs b_pull b_strength b_back b_moods b_tides b_carts) sz) := by
  refine Met.ofW (cc := cX0_clear) (maxL := 1) (ret := none) (by decide) rfl ?_
  intro p e s m args below meth c s₁ B hml hv
  obtain ⟨rfl, hsz, hP, hK, hD0⟩ := hv
  have hx := B.exec
  have hb := B.bytes
  have hr := B.returns
  have hts := atoms_spec (ws := wM yX0_clear cX0_clear 1 none) B.pre
  have hown : s.vm.findClass RX0 = some m.cls := findClass_of_methodNamed B.named
  have hlocks := B.notSynchronized
  subst hsz
  have hD := hD0.self (sz := s.heap.size)
  obtain ⟨A, hAe⟩ : ∃ A, A = va_A (W_X0b cI cZ cII qb qb_pull qb_strength qb_back qb_moods qb_tides qb_carts b_law b_places b_broad b_horses b_blinds b_besides b_tideCount b_cartCount b_due b_pairs b_pull b_strength b_back b_moods b_tides b_carts) s.heap.size := ⟨_, rfl⟩
  rw [← hAe] at hD
  have hA : ∀ q : Nat, s.heap.size ≤ q → A q := fun q h => by rw [hAe]; exact Or.inr h
  have hS : va_S A s.heap s.heap [] := va_S.rf
  have hl := lv_entry ([.ref qb]) (n := 1) (Nat.le_of_ble_eq_true rfl)
  rw [lg_entry_eq]
  generalize (lg_sl ([.ref qb]) ++ List.replicate (1 - (lg_sl ([.ref qb])).length) Slot.unset).toArray = ls at hl ⊢
  have hl : lv_has ls 1 [(0, .ref qb)] := hl
  generalize ([.ref qb] : List Value).toArray = args at hts ⊢
  have hw : ∀ w ∈ wsL_law, w.before args s = true := fun w h => hts w (List.mem_cons_of_mem _ h)
  refine pg_start (fun Q hQ => ?_)
  have RET : ∀ (H : Heap) (locs : List Loc) (ls : Array Slot) (pc : Nat) (x0 : Int32) (x1 : Int32) (x2 : Int32) (x3 : Int32) (x4 : Int32) (x5 : Int32) (x6 : Int32) (x7 : Int32) (x8 : Int32) (x9 : Int64) (x10 : Nat → Int32) , decode cX0_clear pc = .ok (.return_, 1) → va_P (dC, dI) vwCl (W_X0b cI cZ cII qb qb_pull qb_strength qb_back qb_moods qb_tides qb_carts x0 x1 x2 x3 x4 x5 x6 x7 x8 x9 b_pull b_strength b_back x10 b_tides b_carts) H → va_D A (W_X0b cI cZ cII qb qb_pull qb_strength qb_back qb_moods qb_tides qb_carts x0 x1 x2 x3 x4 x5 x6 x7 x8 x9 b_pull b_strength b_back x10 b_tides b_carts) → va_S A s.heap H locs → (some (x0, x1, x2, x3, x4, x5, x6, x7, x8, x9, x10) : Option (Int32 × Int32 × Int32 × Int32 × Int32 × Int32 × Int32 × Int32 × Int32 × Int64 × (Nat → Int32))) = some (b_law', b_places', b_broad', b_horses', b_blinds', b_besides', b_tideCount', b_cartCount', b_due', b_pairs', b_moods') → W p l e rm_X0_clear s m args below meth c H locs 0 0 Q (F0 m pc ls []) := by
    intro H locs ls pc x0 x1 x2 x3 x4 x5 x6 x7 x8 x9 x10 hd hP hD hS he
    subst hAe; subst hQ
    simp only [Option.some.injEq, Prod.mk.injEq] at he
    obtain ⟨rfl, rfl, rfl, rfl, rfl, rfl, rfl, rfl, rfl, rfl, rfl⟩ := he
    exact pg_vret hx hb hr hlocks hK hP hD hS hd
  unfold f_X0_clear at hf
  refine lv_aload_n hx hb dX0_clear_0 rfl (lv_at hl 0 rfl) ?_
  refine lv_iconst (v := (0 : Int32)) hx hb dX0_clear_1 (by decide) ?_
  refine va_put (D := (dC, dI)) (ci := 0) (v := .int (0 : Int32)) (ty := .int) (C := RX0) (T := TX0) (N := 16) hx hb hw inlX0 tyX0 tyX0_ok nmX0 hown hK hP hD hS 0 rfl rfl 0 (by decide) (hw _ mw_8_19) (fun _ h9 => h9) rfl (by decide +kernel) rfl rfl (Nat.le_of_ble_eq_true rfl) dX0_clear_2 (fun H locs hP hD hS => ?_)
  have hP : va_P (dC, dI) vwCl (W_X0b cI cZ cII qb qb_pull qb_strength qb_back qb_moods qb_tides qb_carts (0 : Int32) b_places b_broad b_horses b_blinds b_besides b_tideCount b_cartCount b_due b_pairs b_pull b_strength b_back b_moods b_tides b_carts) H := hP
  have hD : va_D A (W_X0b cI cZ cII qb qb_pull qb_strength qb_back qb_moods qb_tides qb_carts (0 : Int32) b_places b_broad b_horses b_blinds b_besides b_tideCount b_cartCount b_due b_pairs b_pull b_strength b_back b_moods b_tides b_carts) := hD
  refine lv_aload_n hx hb dX0_clear_5 rfl (lv_at hl 0 rfl) ?_
  refine lv_iconst (v := (0 : Int32)) hx hb dX0_clear_6 (by decide) ?_
  refine va_put (D := (dC, dI)) (ci := 0) (v := .int (0 : Int32)) (ty := .int) (C := RX0) (T := TX0) (N := 16) hx hb hw inlX0 tyX0 tyX0_ok nmX0 hown hK hP hD hS 0 rfl rfl 1 (by decide) (hw _ mw_8_20) (fun _ h9 => h9) rfl (by decide +kernel) rfl rfl (Nat.le_of_ble_eq_true rfl) dX0_clear_7 (fun H locs hP hD hS => ?_)
  have hP : va_P (dC, dI) vwCl (W_X0b cI cZ cII qb qb_pull qb_strength qb_back qb_moods qb_tides qb_carts (0 : Int32) (0 : Int32) b_broad b_horses b_blinds b_besides b_tideCount b_cartCount b_due b_pairs b_pull b_strength b_back b_moods b_tides b_carts) H := hP
  have hD : va_D A (W_X0b cI cZ cII qb qb_pull qb_strength qb_back qb_moods qb_tides qb_carts (0 : Int32) (0 : Int32) b_broad b_horses b_blinds b_besides b_tideCount b_cartCount b_due b_pairs b_pull b_strength b_back b_moods b_tides b_carts) := hD
  refine lv_aload_n hx hb dX0_clear_10 rfl (lv_at hl 0 rfl) ?_
  refine lv_iconst (v := (0 : Int32)) hx hb dX0_clear_11 (by decide) ?_
  refine va_put (D := (dC, dI)) (ci := 0) (v := .int (0 : Int32)) (ty := .int) (C := RX0) (T := TX0) (N := 16) hx hb hw inlX0 tyX0 tyX0_ok nmX0 hown hK hP hD hS 0 rfl rfl 2 (by decide) (hw _ mw_8_21) (fun _ h9 => h9) rfl (by decide +kernel) rfl rfl (Nat.le_of_ble_eq_true rfl) dX0_clear_12 (fun H locs hP hD hS => ?_)
  have hP : va_P (dC, dI) vwCl (W_X0b cI cZ cII qb qb_pull qb_strength qb_back qb_moods qb_tides qb_carts (0 : Int32) (0 : Int32) (0 : Int32) b_horses b_blinds b_besides b_tideCount b_cartCount b_due b_pairs b_pull b_strength b_back b_moods b_tides b_carts) H := hP
  have hD : va_D A (W_X0b cI cZ cII qb qb_pull qb_strength qb_back qb_moods qb_tides qb_carts (0 : Int32) (0 : Int32) (0 : Int32) b_horses b_blinds b_besides b_tideCount b_cartCount b_due b_pairs b_pull b_strength b_back b_moods b_tides b_carts) := hD
  refine lv_aload_n hx hb dX0_clear_15 rfl (lv_at hl 0 rfl) ?_
  refine lv_iconst (v := (0 : Int32)) hx hb dX0_clear_16 (by decide) ?_
  refine va_put (D := (dC, dI)) (ci := 0) (v := .int (0 : Int32)) (ty := .int) (C := RX0) (T := TX0) (N := 16) hx hb hw inlX0 tyX0 tyX0_ok nmX0 hown hK hP hD hS 0 rfl rfl 3 (by decide) (hw _ mw_8_22) (fun _ h9 => h9) rfl (by decide +kernel) rfl rfl (Nat.le_of_ble_eq_true rfl) dX0_clear_17 (fun H locs hP hD hS => ?_)
  have hP : va_P (dC, dI) vwCl (W_X0b cI cZ cII qb qb_pull qb_strength qb_back qb_moods qb_tides qb_carts (0 : Int32) (0 : Int32) (0 : Int32) (0 : Int32) b_blinds b_besides b_tideCount b_cartCount b_due b_pairs b_pull b_strength b_back b_moods b_tides b_carts) H := hP
  have hD : va_D A (W_X0b cI cZ cII qb qb_pull qb_strength qb_back qb_moods qb_tides qb_carts (0 : Int32) (0 : Int32) (0 : Int32) (0 : Int32) b_blinds b_besides b_tideCount b_cartCount b_due b_pairs b_pull b_strength b_back b_moods b_tides b_carts) := hD
  refine lv_aload_n hx hb dX0_clear_20 rfl (lv_at hl 0 rfl) ?_
  refine lv_iconst (v := (0 : Int32)) hx hb dX0_clear_21 (by decide) ?_
  refine va_put (D := (dC, dI)) (ci := 0) (v := .int (0 : Int32)) (ty := .int) (C := RX0) (T := TX0) (N := 16) hx hb hw inlX0 tyX0 tyX0_ok nmX0 hown hK hP hD hS 0 rfl rfl 4 (by decide) (hw _ mw_8_23) (fun _ h9 => h9) rfl (by decide +kernel) rfl rfl (Nat.le_of_ble_eq_true rfl) dX0_clear_22 (fun H locs hP hD hS => ?_)
  have hP : va_P (dC, dI) vwCl (W_X0b cI cZ cII qb qb_pull qb_strength qb_back qb_moods qb_tides qb_carts (0 : Int32) (0 : Int32) (0 : Int32) (0 : Int32) (0 : Int32) b_besides b_tideCount b_cartCount b_due b_pairs b_pull b_strength b_back b_moods b_tides b_carts) H := hP
  have hD : va_D A (W_X0b cI cZ cII qb qb_pull qb_strength qb_back qb_moods qb_tides qb_carts (0 : Int32) (0 : Int32) (0 : Int32) (0 : Int32) (0 : Int32) b_besides b_tideCount b_cartCount b_due b_pairs b_pull b_strength b_back b_moods b_tides b_carts) := hD
  refine lv_aload_n hx hb dX0_clear_25 rfl (lv_at hl 0 rfl) ?_
  refine lv_iconst (v := (0 : Int32)) hx hb dX0_clear_26 (by decide) ?_
  refine va_put (D := (dC, dI)) (ci := 0) (v := .int (0 : Int32)) (ty := .int) (C := RX0) (T := TX0) (N := 16) hx hb hw inlX0 tyX0 tyX0_ok nmX0 hown hK hP hD hS 0 rfl rfl 5 (by decide) (hw _ mw_9_0) (fun _ h9 => h9) rfl (by decide +kernel) rfl rfl (Nat.le_of_ble_eq_true rfl) dX0_clear_27 (fun H locs hP hD hS => ?_)
  have hP : va_P (dC, dI) vwCl (W_X0b cI cZ cII qb qb_pull qb_strength qb_back qb_moods qb_tides qb_carts (0 : Int32) (0 : Int32) (0 : Int32) (0 : Int32) (0 : Int32) (0 : Int32) b_tideCount b_cartCount b_due b_pairs b_pull b_strength b_back b_moods b_tides b_carts) H := hP
  have hD : va_D A (W_X0b cI cZ cII qb qb_pull qb_strength qb_back qb_moods qb_tides qb_carts (0 : Int32) (0 : Int32) (0 : Int32) (0 : Int32) (0 : Int32) (0 : Int32) b_tideCount b_cartCount b_due b_pairs b_pull b_strength b_back b_moods b_tides b_carts) := hD
  refine lv_aload_n hx hb dX0_clear_30 rfl (lv_at hl 0 rfl) ?_
  refine lv_iconst (v := (0 : Int32)) hx hb dX0_clear_31 (by decide) ?_
  refine va_put (D := (dC, dI)) (ci := 0) (v := .int (0 : Int32)) (ty := .int) (C := RX0) (T := TX0) (N := 16) hx hb hw inlX0 tyX0 tyX0_ok nmX0 hown hK hP hD hS 0 rfl rfl 6 (by decide) (hw _ mw_9_1) (fun _ h9 => h9) rfl (by decide +kernel) rfl rfl (Nat.le_of_ble_eq_true rfl) dX0_clear_32 (fun H locs hP hD hS => ?_)
  have hP : va_P (dC, dI) vwCl (W_X0b cI cZ cII qb qb_pull qb_strength qb_back qb_moods qb_tides qb_carts (0 : Int32) (0 : Int32) (0 : Int32) (0 : Int32) (0 : Int32) (0 : Int32) (0 : Int32) b_cartCount b_due b_pairs b_pull b_strength b_back b_moods b_tides b_carts) H := hP
  have hD : va_D A (W_X0b cI cZ cII qb qb_pull qb_strength qb_back qb_moods qb_tides qb_carts (0 : Int32) (0 : Int32) (0 : Int32) (0 : Int32) (0 : Int32) (0 : Int32) (0 : Int32) b_cartCount b_due b_pairs b_pull b_strength b_back b_moods b_tides b_carts) := hD
  refine lv_aload_n hx hb dX0_clear_35 rfl (lv_at hl 0 rfl) ?_
  refine lv_iconst (v := (0 : Int32)) hx hb dX0_clear_36 (by decide) ?_
  refine va_put (D := (dC, dI)) (ci := 0) (v := .int (0 : Int32)) (ty := .int) (C := RX0) (T := TX0) (N := 16) hx hb hw inlX0 tyX0 tyX0_ok nmX0 hown hK hP hD hS 0 rfl rfl 7 (by decide) (hw _ mw_9_2) (fun _ h9 => h9) rfl (by decide +kernel) rfl rfl (Nat.le_of_ble_eq_true rfl) dX0_clear_37 (fun H locs hP hD hS => ?_)
  have hP : va_P (dC, dI) vwCl (W_X0b cI cZ cII qb qb_pull qb_strength qb_back qb_moods qb_tides qb_carts (0 : Int32) (0 : Int32) (0 : Int32) (0 : Int32) (0 : Int32) (0 : Int32) (0 : Int32) (0 : Int32) b_due b_pairs b_pull b_strength b_back b_moods b_tides b_carts) H := hP
  have hD : va_D A (W_X0b cI cZ cII qb qb_pull qb_strength qb_back qb_moods qb_tides qb_carts (0 : Int32) (0 : Int32) (0 : Int32) (0 : Int32) (0 : Int32) (0 : Int32) (0 : Int32) (0 : Int32) b_due b_pairs b_pull b_strength b_back b_moods b_tides b_carts) := hD
  refine lv_aload_n hx hb dX0_clear_40 rfl (lv_at hl 0 rfl) ?_
  refine lv_iconst (v := (0 : Int32)) hx hb dX0_clear_41 (by decide) ?_
  refine va_put (D := (dC, dI)) (ci := 0) (v := .int (0 : Int32)) (ty := .int) (C := RX0) (T := TX0) (N := 16) hx hb hw inlX0 tyX0 tyX0_ok nmX0 hown hK hP hD hS 0 rfl rfl 8 (by decide) (hw _ mw_9_3) (fun _ h9 => h9) rfl (by decide +kernel) rfl rfl (Nat.le_of_ble_eq_true rfl) dX0_clear_42 (fun H locs hP hD hS => ?_)
  have hP : va_P (dC, dI) vwCl (W_X0b cI cZ cII qb qb_pull qb_strength qb_back qb_moods qb_tides qb_carts (0 : Int32) (0 : Int32) (0 : Int32) (0 : Int32) (0 : Int32) (0 : Int32) (0 : Int32) (0 : Int32) (0 : Int32) b_pairs b_pull b_strength b_back b_moods b_tides b_carts) H := hP
  have hD : va_D A (W_X0b cI cZ cII qb qb_pull qb_strength qb_back qb_moods qb_tides qb_carts (0 : Int32) (0 : Int32) (0 : Int32) (0 : Int32) (0 : Int32) (0 : Int32) (0 : Int32) (0 : Int32) (0 : Int32) b_pairs b_pull b_strength b_back b_moods b_tides b_carts) := hD
  refine lv_aload_n hx hb dX0_clear_45 rfl (lv_at hl 0 rfl) ?_
  refine lv_lconst (v := (0 : Int64)) hx hb dX0_clear_46 (by decide) ?_
  refine va_put (D := (dC, dI)) (ci := 0) (v := .long (0 : Int64)) (ty := .long) (C := RX0) (T := TX0) (N := 16) hx hb hw inlX0 tyX0 tyX0_ok nmX0 hown hK hP hD hS 0 rfl rfl 9 (by decide) (hw _ mw_9_4) (fun _ h9 => h9) rfl (by decide +kernel) rfl rfl (Nat.le_of_ble_eq_true rfl) dX0_clear_47 (fun H locs hP hD hS => ?_)
  have hP : va_P (dC, dI) vwCl (W_X0b cI cZ cII qb qb_pull qb_strength qb_back qb_moods qb_tides qb_carts (0 : Int32) (0 : Int32) (0 : Int32) (0 : Int32) (0 : Int32) (0 : Int32) (0 : Int32) (0 : Int32) (0 : Int32) (0 : Int64) b_pull b_strength b_back b_moods b_tides b_carts) H := hP
  have hD : va_D A (W_X0b cI cZ cII qb qb_pull qb_strength qb_back qb_moods qb_tides qb_carts (0 : Int32) (0 : Int32) (0 : Int32) (0 : Int32) (0 : Int32) (0 : Int32) (0 : Int32) (0 : Int32) (0 : Int32) (0 : Int64) b_pull b_strength b_back b_moods b_tides b_carts) := hD
  refine lv_aload_n hx hb dX0_clear_50 rfl (lv_at hl 0 rfl) ?_
  refine va_get (D := (dC, dI)) (ci := 0) (v := .ref qb_moods) (C := RX0) (T := TX0) (N := 16) hx hb hw inlX0 hown hK hP 0 rfl rfl 13 (by decide) (hw _ mw_3_7) (fun _ h9 => h9) rfl dX0_clear_51 ?_
  refine lv_iconst (v := (0 : Int32)) hx hb dX0_clear_54 (by decide) ?_
  obtain ⟨b_moods_1, hc, hf⟩ := bn1_s hf
  refine pg_cSv (As := [.ref qb_moods, .int (0 : Int32)]) (rest := []) (wf := (W_X0b cI cZ cII qb qb_pull qb_strength qb_back qb_moods qb_tides qb_carts (0 : Int32) (0 : Int32) (0 : Int32) (0 : Int32) (0 : Int32) (0 : Int32) (0 : Int32) (0 : Int32) (0 : Int32) (0 : Int64) b_pull b_strength b_back b_moods_1 b_tides b_carts)) ⟨hx, hb, hml, hown, hw⟩ (c_J7_fill_53178 l dC dI cI cZ cII 36 qb_moods H.size b_moods (0 : Int32) b_moods_1 hc) (va_cwS 2 hts (wM_S mw_9_5 mw_3_23 mw_4_0 mw_4_1) rfl rfl rfl dk_J7_fill_53178 ⟨Nat.le_of_ble_eq_true rfl, Nat.le_of_ble_eq_true rfl⟩) hK hP hD hS hA [4] [0, 1, 2, 3, 5, 6] [0, 1, 2, 3, 6, 4, 5] (plC_0 cI cZ cII qb qb_pull qb_strength qb_back qb_moods qb_tides qb_carts (0 : Int32) (0 : Int32) (0 : Int32) (0 : Int32) (0 : Int32) (0 : Int32) (0 : Int32) (0 : Int32) (0 : Int32) (0 : Int64) b_pull b_strength b_back b_moods b_tides b_carts) rfl (plF_0 cI cZ cII qb qb_pull qb_strength qb_back qb_moods qb_tides qb_carts (0 : Int32) (0 : Int32) (0 : Int32) (0 : Int32) (0 : Int32) (0 : Int32) (0 : Int32) (0 : Int32) (0 : Int32) (0 : Int64) b_pull b_strength b_back b_moods b_tides b_carts b_moods_1) (by decide) rfl hl.1 rfl (Nat.le_of_ble_eq_true rfl) dX0_clear_55 ⟨Nat.zero_le _, Nat.zero_le _⟩ (fun H locs hP hD hS => ?_)
  exact RET _ _ _ _ _ _ _ _ _ _ _ _ _ _ _ dX0_clear_58 hP hD hS hf
def f_X0_hasPlace (n1 : Int32) (b_places : Int32) : Option (Int32) :=
  if n1 < 0 then
    some ((0 : Int32))
  else
    if b_places ≤ n1 then
      some ((0 : Int32))
    else
      if (3 : Int32) ≤ n1 then
        some ((0 : Int32))
      else
        some ((1 : Int32))
abbrev rm_X0_hasPlace : Room := { frames := 0, cells := 0, slots := 0, locals := 0 }
theorem dk_X0_hasPlace : yX0_hasPlace.cls = RX0 ∧ yX0_hasPlace.cls ≠ "java/lang/invoke/MethodHandle" ∧ yX0_hasPlace.cls ≠ "java/lang/invoke/VarHandle" ∧ (parseMethodDescriptor yX0_hasPlace.desc).map (fun d => d.parameters.length) = some 1 := by decide +kernel
set_option maxHeartbeats 4000000 in
set_option maxRecDepth 100000 in
theorem c_X0_hasPlace (l : Launch) (dC : Nat → ClassId) (dI : Nat → Nat → Nat) (cI cZ cII : ClassId) (qb qb_pull qb_strength qb_back qb_moods qb_tides qb_carts : Nat) (sz : Nat) (b_law : Int32) (b_places : Int32) (b_broad : Int32) (b_horses : Int32) (b_blinds : Int32) (b_besides : Int32) (b_tideCount : Int32) (b_cartCount : Int32) (b_due : Int32) (b_pairs : Int64) (b_pull : Nat → Int32) (b_strength : Nat → Int32) (b_back : Nat → Int32) (b_moods : Nat → Int32) (b_tides : Nat → Int32) (b_carts : Nat → Int32) (n1 : Int32) (rr : Int32) (hf : f_X0_hasPlace n1 b_places = some (rr)) : Met l yX0_hasPlace (wM yX0_hasPlace cX0_hasPlace 2 (some .boolean)) rm_X0_hasPlace (PreW (dC, dI) (tyA cI cZ cII) (W_X0b cI cZ cII qb qb_pull qb_strength qb_back qb_moods qb_tides qb_carts b_law b_places b_broad b_horses b_blinds b_besides b_tideCount b_cartCount b_due b_pairs b_pull b_strength b_back b_moods b_tides b_carts) sz [.ref qb, .int n1]) (PostI (dC, dI) (tyA cI cZ cII) rr (W_X0b cI cZ cII qb qb_pull qb_strength qb_back qb_moods qb_tides qb_carts b_law b_places b_broad b_horses b_blinds b_besides b_tideCount b_cartCount b_due b_pairs b_pull b_strength b_back b_moods b_tides b_carts) (W_X0b cI cZ cII qb qb_pull qb_strength qb_back qb_moods qb_tides qb_carts b_law b_places b_broad b_horses b_blinds b_besides b_tideCount b_cartCount b_due b_pairs b_pull b_strength b_back b_moods b_tides b_carts) sz) 0 0 (va_A (W_X0b cI cZ cII qb qb_pull qb_strength qb_back qb_moods qb_tides qb_carts b_law b_places b_broad b_horses b_blinds b_besides b_tideCount b_cartCount b_due b_pairs b_pull b_strength b_back b_moods b_tides b_carts) sz) := by
  refine Met.ofW (cc := cX0_hasPlace) (maxL := 2) (ret := (some .boolean)) (by decide) rfl ?_
  intro p e s m args below meth c s₁ B hml hv
  obtain ⟨rfl, hsz, hP, hK, hD0⟩ := hv
  have hx := B.exec
  have hb := B.bytes
  have hr := B.returns
  have hts := atoms_spec (ws := wM yX0_hasPlace cX0_hasPlace 2 (some .boolean)) B.pre
  have hown : s.vm.findClass RX0 = some m.cls := findClass_of_methodNamed B.named
  have hlocks := B.notSynchronized
  subst hsz
  have hD := hD0.self (sz := s.heap.size)
  obtain ⟨A, hAe⟩ : ∃ A, A = va_A (W_X0b cI cZ cII qb qb_pull qb_strength qb_back qb_moods qb_tides qb_carts b_law b_places b_broad b_horses b_blinds b_besides b_tideCount b_cartCount b_due b_pairs b_pull b_strength b_back b_moods b_tides b_carts) s.heap.size := ⟨_, rfl⟩
  rw [← hAe] at hD
  have hA : ∀ q : Nat, s.heap.size ≤ q → A q := fun q h => by rw [hAe]; exact Or.inr h
  have hS : va_S A s.heap s.heap [] := va_S.rf
  have hl := lv_entry ([.ref qb, .int n1]) (n := 2) (Nat.le_of_ble_eq_true rfl)
  rw [lg_entry_eq]
  generalize (lg_sl ([.ref qb, .int n1]) ++ List.replicate (2 - (lg_sl ([.ref qb, .int n1])).length) Slot.unset).toArray = ls at hl ⊢
  have hl : lv_has ls 2 [(0, .ref qb), (1, .int n1)] := hl
  generalize ([.ref qb, .int n1] : List Value).toArray = args at hts ⊢
  have hw : ∀ w ∈ wsL_law, w.before args s = true := fun w h => hts w (List.mem_cons_of_mem _ h)
  refine pg_start (fun Q hQ => ?_)
  have RET : ∀ (H : Heap) (locs : List Loc) (ls : Array Slot) (pc : Nat) (v : Int32) , decode cX0_hasPlace pc = .ok (.ireturn, 1) → (v = 0 ∨ v = 1) → va_P (dC, dI) vwCl (W_X0b cI cZ cII qb qb_pull qb_strength qb_back qb_moods qb_tides qb_carts b_law b_places b_broad b_horses b_blinds b_besides b_tideCount b_cartCount b_due b_pairs b_pull b_strength b_back b_moods b_tides b_carts) H → va_D A (W_X0b cI cZ cII qb qb_pull qb_strength qb_back qb_moods qb_tides qb_carts b_law b_places b_broad b_horses b_blinds b_besides b_tideCount b_cartCount b_due b_pairs b_pull b_strength b_back b_moods b_tides b_carts) → va_S A s.heap H locs → (some (v) : Option (Int32)) = some (rr) → W p l e rm_X0_hasPlace s m args below meth c H locs 0 0 Q (F0 m pc ls [.int v]) := by
    intro H locs ls pc v hd hz hP hD hS he
    subst hAe; subst hQ
    obtain rfl := Option.some.inj he
    exact pg_zret hx hb hr hlocks hz hK hP hD hS hd
  unfold f_X0_hasPlace at hf
  refine lv_iload_n hx hb dX0_hasPlace_0 rfl (lv_at hl 1 rfl) ?_
  refine lv_if_lt (tgt := 21) hx hb dX0_hasPlace_1 (by decide) (fun h9 => ?_) (fun h9 => ?_)
  · have hf := pg_t h9 hf
    refine lv_iconst (v := (0 : Int32)) hx hb dX0_hasPlace_21 (by decide) ?_
    exact RET _ _ _ _ _ dX0_hasPlace_22 (by decide) hP hD hS hf
  · have hf := pg_f h9 hf
    refine lv_iload_n hx hb dX0_hasPlace_4 rfl (lv_at hl 1 rfl) ?_
    refine lv_aload_n hx hb dX0_hasPlace_5 rfl (lv_at hl 0 rfl) ?_
    refine va_get (D := (dC, dI)) (ci := 0) (v := .int b_places) (C := RX0) (T := TX0) (N := 16) hx hb hw inlX0 hown hK hP 0 rfl rfl 1 (by decide) (hw _ mw_8_20) (fun _ h9 => h9) rfl dX0_hasPlace_6 ?_
    refine lv_icmp_ge (tgt := 21) hx hb dX0_hasPlace_9 (by decide) (fun h9 => ?_) (fun h9 => ?_)
    · have hf := pg_t h9 hf
      refine lv_iconst (v := (0 : Int32)) hx hb dX0_hasPlace_21 (by decide) ?_
      exact RET _ _ _ _ _ dX0_hasPlace_22 (by decide) hP hD hS hf
    · have hf := pg_f h9 hf
      refine lv_iload_n hx hb dX0_hasPlace_12 rfl (lv_at hl 1 rfl) ?_
      refine lv_iconst (v := (3 : Int32)) hx hb dX0_hasPlace_13 (by decide) ?_
      refine lv_icmp_ge (tgt := 21) hx hb dX0_hasPlace_14 (by decide) (fun h9 => ?_) (fun h9 => ?_)
      · have hf := pg_t h9 hf
        refine lv_iconst (v := (0 : Int32)) hx hb dX0_hasPlace_21 (by decide) ?_
        exact RET _ _ _ _ _ dX0_hasPlace_22 (by decide) hP hD hS hf
      · have hf := pg_f h9 hf
        refine lv_iconst (v := (1 : Int32)) hx hb dX0_hasPlace_17 (by decide) ?_
        refine lv_goto (tgt := 22) hx hb dX0_hasPlace_18 (by decide) ?_
        exact RET _ _ _ _ _ dX0_hasPlace_22 (by decide) hP hD hS hf
def f_X0_hasHorse (n1 : Int32) (b_horses : Int32) : Option (Int32) :=
  if n1 < 0 then
    some ((0 : Int32))
  else
    if b_horses ≤ n1 then
      some ((0 : Int32))
    else
      if (6 : Int32) ≤ n1 then
        some ((0 : Int32))
      else
        some ((1 : Int32))
abbrev rm_X0_hasHorse : Room := { frames := 0, cells := 0, slots := 0, locals := 0 }
theorem dk_X0_hasHorse : yX0_hasHorse.cls = RX0 ∧ yX0_hasHorse.cls ≠ "java/lang/invoke/MethodHandle" ∧ yX0_hasHorse.cls ≠ "java/lang/invoke/VarHandle" ∧ (parseMethodDescriptor yX0_hasHorse.desc).map (fun d => d.parameters.length) = some 1 := by decide +kernel
set_option maxHeartbeats 4000000 in
set_option maxRecDepth 100000 in
theorem c_X0_hasHorse (l : Launch) (dC : Nat → ClassId) (dI : Nat → Nat → Nat) (cI cZ cII : ClassId) (qb qb_pull qb_strength qb_back qb_moods qb_tides qb_carts : Nat) (sz : Nat) (b_law : Int32) (b_places : Int32) (b_broad : Int32) (b_horses : Int32) (b_blinds : Int32) (b_besides : Int32) (b_tideCount : Int32) (b_cartCount : Int32) (b_due : Int32) (b_pairs : Int64) (b_pull : Nat → Int32) (b_strength : Nat → Int32) (b_back : Nat → Int32) (b_moods : Nat → Int32) (b_tides : Nat → Int32) (b_carts : Nat → Int32) (n1 : Int32) (rr : Int32) (hf : f_X0_hasHorse n1 b_horses = some (rr)) : Met l yX0_hasHorse (wM yX0_hasHorse cX0_hasHorse 2 (some .boolean)) rm_X0_hasHorse (PreW (dC, dI) (tyA cI cZ cII) (W_X0b cI cZ cII qb qb_pull qb_strength qb_back qb_moods qb_tides qb_carts b_law b_places b_broad b_horses b_blinds b_besides b_tideCount b_cartCount b_due b_pairs b_pull b_strength b_back b_moods b_tides b_carts) sz [.ref qb, .int n1]) (PostI (dC, dI) (tyA cI cZ cII) rr (W_X0b cI cZ cII qb qb_pull qb_strength qb_back qb_moods qb_tides qb_carts b_law b_places b_broad b_horses b_blinds b_besides b_tideCount b_cartCount b_due b_pairs b_pull b_strength b_back b_moods b_tides b_carts) (W_X0b cI cZ cII qb qb_pull qb_strength qb_back qb_moods qb_tides qb_carts b_law b_places b_broad b_horses b_blinds b_besides b_tideCount b_cartCount b_due b_pairs b_pull b_strength b_back b_moods b_tides b_carts) sz) 0 0 (va_A (W_X0b cI cZ cII qb qb_pull qb_strength qb_back qb_moods qb_tides qb_carts b_law b_places b_broad b_horses b_blinds b_besides b_tideCount b_cartCount b_due b_pairs b_pull b_strength b_back b_moods b_tides b_carts) sz) := by
  refine Met.ofW (cc := cX0_hasHorse) (maxL := 2) (ret := (some .boolean)) (by decide) rfl ?_
  intro p e s m args below meth c s₁ B hml hv
  obtain ⟨rfl, hsz, hP, hK, hD0⟩ := hv
  have hx := B.exec
  have hb := B.bytes
  have hr := B.returns
  have hts := atoms_spec (ws := wM yX0_hasHorse cX0_hasHorse 2 (some .boolean)) B.pre
  have hown : s.vm.findClass RX0 = some m.cls := findClass_of_methodNamed B.named
  have hlocks := B.notSynchronized
  subst hsz
  have hD := hD0.self (sz := s.heap.size)
  obtain ⟨A, hAe⟩ : ∃ A, A = va_A (W_X0b cI cZ cII qb qb_pull qb_strength qb_back qb_moods qb_tides qb_carts b_law b_places b_broad b_horses b_blinds b_besides b_tideCount b_cartCount b_due b_pairs b_pull b_strength b_back b_moods b_tides b_carts) s.heap.size := ⟨_, rfl⟩
  rw [← hAe] at hD
  have hA : ∀ q : Nat, s.heap.size ≤ q → A q := fun q h => by rw [hAe]; exact Or.inr h
  have hS : va_S A s.heap s.heap [] := va_S.rf
  have hl := lv_entry ([.ref qb, .int n1]) (n := 2) (Nat.le_of_ble_eq_true rfl)
  rw [lg_entry_eq]
  generalize (lg_sl ([.ref qb, .int n1]) ++ List.replicate (2 - (lg_sl ([.ref qb, .int n1])).length) Slot.unset).toArray = ls at hl ⊢
  have hl : lv_has ls 2 [(0, .ref qb), (1, .int n1)] := hl
  generalize ([.ref qb, .int n1] : List Value).toArray = args at hts ⊢
  have hw : ∀ w ∈ wsL_law, w.before args s = true := fun w h => hts w (List.mem_cons_of_mem _ h)
  refine pg_start (fun Q hQ => ?_)
  have RET : ∀ (H : Heap) (locs : List Loc) (ls : Array Slot) (pc : Nat) (v : Int32) , decode cX0_hasHorse pc = .ok (.ireturn, 1) → (v = 0 ∨ v = 1) → va_P (dC, dI) vwCl (W_X0b cI cZ cII qb qb_pull qb_strength qb_back qb_moods qb_tides qb_carts b_law b_places b_broad b_horses b_blinds b_besides b_tideCount b_cartCount b_due b_pairs b_pull b_strength b_back b_moods b_tides b_carts) H → va_D A (W_X0b cI cZ cII qb qb_pull qb_strength qb_back qb_moods qb_tides qb_carts b_law b_places b_broad b_horses b_blinds b_besides b_tideCount b_cartCount b_due b_pairs b_pull b_strength b_back b_moods b_tides b_carts) → va_S A s.heap H locs → (some (v) : Option (Int32)) = some (rr) → W p l e rm_X0_hasHorse s m args below meth c H locs 0 0 Q (F0 m pc ls [.int v]) := by
    intro H locs ls pc v hd hz hP hD hS he
    subst hAe; subst hQ
    obtain rfl := Option.some.inj he
    exact pg_zret hx hb hr hlocks hz hK hP hD hS hd
  unfold f_X0_hasHorse at hf
  refine lv_iload_n hx hb dX0_hasHorse_0 rfl (lv_at hl 1 rfl) ?_
  refine lv_if_lt (tgt := 22) hx hb dX0_hasHorse_1 (by decide) (fun h9 => ?_) (fun h9 => ?_)
  · have hf := pg_t h9 hf
    refine lv_iconst (v := (0 : Int32)) hx hb dX0_hasHorse_22 (by decide) ?_
    exact RET _ _ _ _ _ dX0_hasHorse_23 (by decide) hP hD hS hf
  · have hf := pg_f h9 hf
    refine lv_iload_n hx hb dX0_hasHorse_4 rfl (lv_at hl 1 rfl) ?_
    refine lv_aload_n hx hb dX0_hasHorse_5 rfl (lv_at hl 0 rfl) ?_
    refine va_get (D := (dC, dI)) (ci := 0) (v := .int b_horses) (C := RX0) (T := TX0) (N := 16) hx hb hw inlX0 hown hK hP 0 rfl rfl 3 (by decide) (hw _ mw_8_22) (fun _ h9 => h9) rfl dX0_hasHorse_6 ?_
    refine lv_icmp_ge (tgt := 22) hx hb dX0_hasHorse_9 (by decide) (fun h9 => ?_) (fun h9 => ?_)
    · have hf := pg_t h9 hf
      refine lv_iconst (v := (0 : Int32)) hx hb dX0_hasHorse_22 (by decide) ?_
      exact RET _ _ _ _ _ dX0_hasHorse_23 (by decide) hP hD hS hf
    · have hf := pg_f h9 hf
      refine lv_iload_n hx hb dX0_hasHorse_12 rfl (lv_at hl 1 rfl) ?_
      refine lv_bipush (v := (6 : Int32)) hx hb dX0_hasHorse_13 (by decide) ?_
      refine lv_icmp_ge (tgt := 22) hx hb dX0_hasHorse_15 (by decide) (fun h9 => ?_) (fun h9 => ?_)
      · have hf := pg_t h9 hf
        refine lv_iconst (v := (0 : Int32)) hx hb dX0_hasHorse_22 (by decide) ?_
        exact RET _ _ _ _ _ dX0_hasHorse_23 (by decide) hP hD hS hf
      · have hf := pg_f h9 hf
        refine lv_iconst (v := (1 : Int32)) hx hb dX0_hasHorse_18 (by decide) ?_
        refine lv_goto (tgt := 23) hx hb dX0_hasHorse_19 (by decide) ?_
        exact RET _ _ _ _ _ dX0_hasHorse_23 (by decide) hP hD hS hf
def f_X0_isBlind (n1 : Int32) (b_blinds : Int32) : Option (Int32) :=
  if n1 < 0 then
    some ((0 : Int32))
  else
    if (6 : Int32) ≤ n1 then
      some ((0 : Int32))
    else
      if ((b_blinds >>> (n1 &&& 31)) &&& (1 : Int32)) = 0 then
        some ((0 : Int32))
      else
        some ((1 : Int32))
abbrev rm_X0_isBlind : Room := { frames := 0, cells := 0, slots := 0, locals := 0 }
theorem dk_X0_isBlind : yX0_isBlind.cls = RX0 ∧ yX0_isBlind.cls ≠ "java/lang/invoke/MethodHandle" ∧ yX0_isBlind.cls ≠ "java/lang/invoke/VarHandle" ∧ (parseMethodDescriptor yX0_isBlind.desc).map (fun d => d.parameters.length) = some 1 := by decide +kernel
set_option maxHeartbeats 4000000 in
set_option maxRecDepth 100000 in
theorem c_X0_isBlind (l : Launch) (dC : Nat → ClassId) (dI : Nat → Nat → Nat) (cI cZ cII : ClassId) (qb qb_pull qb_strength qb_back qb_moods qb_tides qb_carts : Nat) (sz : Nat) (b_law : Int32) (b_places : Int32) (b_broad : Int32) (b_horses : Int32) (b_blinds : Int32) (b_besides : Int32) (b_tideCount : Int32) (b_cartCount : Int32) (b_due : Int32) (b_pairs : Int64) (b_pull : Nat → Int32) (b_strength : Nat → Int32) (b_back : Nat → Int32) (b_moods : Nat → Int32) (b_tides : Nat → Int32) (b_carts : Nat → Int32) (n1 : Int32) (rr : Int32) (hf : f_X0_isBlind n1 b_blinds = some (rr)) : Met l yX0_isBlind (wM yX0_isBlind cX0_isBlind 2 (some .boolean)) rm_X0_isBlind (PreW (dC, dI) (tyA cI cZ cII) (W_X0b cI cZ cII qb qb_pull qb_strength qb_back qb_moods qb_tides qb_carts b_law b_places b_broad b_horses b_blinds b_besides b_tideCount b_cartCount b_due b_pairs b_pull b_strength b_back b_moods b_tides b_carts) sz [.ref qb, .int n1]) (PostI (dC, dI) (tyA cI cZ cII) rr (W_X0b cI cZ cII qb qb_pull qb_strength qb_back qb_moods qb_tides qb_carts b_law b_places b_broad b_horses b_blinds b_besides b_tideCount b_cartCount b_due b_pairs b_pull b_strength b_back b_moods b_tides b_carts) (W_X0b cI cZ cII qb qb_pull qb_strength qb_back qb_moods qb_tides qb_carts b_law b_places b_broad b_horses b_blinds b_besides b_tideCount b_cartCount b_due b_pairs b_pull b_strength b_back b_moods b_tides b_carts) sz) 0 0 (va_A (W_X0b cI cZ cII qb qb_pull qb_strength qb_back qb_moods qb_tides qb_carts b_law b_places b_broad b_horses b_blinds b_besides b_tideCount b_cartCount b_due b_pairs b_pull b_strength b_back b_moods b_tides b_carts) sz) := by
  refine Met.ofW (cc := cX0_isBlind) (maxL := 2) (ret := (some .boolean)) (by decide) rfl ?_
  intro p e s m args below meth c s₁ B hml hv
  obtain ⟨rfl, hsz, hP, hK, hD0⟩ := hv
  have hx := B.exec
  have hb := B.bytes
  have hr := B.returns
  have hts := atoms_spec (ws := wM yX0_isBlind cX0_isBlind 2 (some .boolean)) B.pre
  have hown : s.vm.findClass RX0 = some m.cls := findClass_of_methodNamed B.named
  have hlocks := B.notSynchronized
  subst hsz
  have hD := hD0.self (sz := s.heap.size)
  obtain ⟨A, hAe⟩ : ∃ A, A = va_A (W_X0b cI cZ cII qb qb_pull qb_strength qb_back qb_moods qb_tides qb_carts b_law b_places b_broad b_horses b_blinds b_besides b_tideCount b_cartCount b_due b_pairs b_pull b_strength b_back b_moods b_tides b_carts) s.heap.size := ⟨_, rfl⟩
  rw [← hAe] at hD
  have hA : ∀ q : Nat, s.heap.size ≤ q → A q := fun q h => by rw [hAe]; exact Or.inr h
  have hS : va_S A s.heap s.heap [] := va_S.rf
  have hl := lv_entry ([.ref qb, .int n1]) (n := 2) (Nat.le_of_ble_eq_true rfl)
  rw [lg_entry_eq]
  generalize (lg_sl ([.ref qb, .int n1]) ++ List.replicate (2 - (lg_sl ([.ref qb, .int n1])).length) Slot.unset).toArray = ls at hl ⊢
  have hl : lv_has ls 2 [(0, .ref qb), (1, .int n1)] := hl
  generalize ([.ref qb, .int n1] : List Value).toArray = args at hts ⊢
  have hw : ∀ w ∈ wsL_law, w.before args s = true := fun w h => hts w (List.mem_cons_of_mem _ h)
  refine pg_start (fun Q hQ => ?_)
  have RET : ∀ (H : Heap) (locs : List Loc) (ls : Array Slot) (pc : Nat) (v : Int32) , decode cX0_isBlind pc = .ok (.ireturn, 1) → (v = 0 ∨ v = 1) → va_P (dC, dI) vwCl (W_X0b cI cZ cII qb qb_pull qb_strength qb_back qb_moods qb_tides qb_carts b_law b_places b_broad b_horses b_blinds b_besides b_tideCount b_cartCount b_due b_pairs b_pull b_strength b_back b_moods b_tides b_carts) H → va_D A (W_X0b cI cZ cII qb qb_pull qb_strength qb_back qb_moods qb_tides qb_carts b_law b_places b_broad b_horses b_blinds b_besides b_tideCount b_cartCount b_due b_pairs b_pull b_strength b_back b_moods b_tides b_carts) → va_S A s.heap H locs → (some (v) : Option (Int32)) = some (rr) → W p l e rm_X0_isBlind s m args below meth c H locs 0 0 Q (F0 m pc ls [.int v]) := by
    intro H locs ls pc v hd hz hP hD hS he
    subst hAe; subst hQ
    obtain rfl := Option.some.inj he
    exact pg_zret hx hb hr hlocks hz hK hP hD hS hd
  unfold f_X0_isBlind at hf
  refine lv_iload_n hx hb dX0_isBlind_0 rfl (lv_at hl 1 rfl) ?_
  refine lv_if_lt (tgt := 25) hx hb dX0_isBlind_1 (by decide) (fun h9 => ?_) (fun h9 => ?_)
  · have hf := pg_t h9 hf
    refine lv_iconst (v := (0 : Int32)) hx hb dX0_isBlind_25 (by decide) ?_
    exact RET _ _ _ _ _ dX0_isBlind_26 (by decide) hP hD hS hf
  · have hf := pg_f h9 hf
    refine lv_iload_n hx hb dX0_isBlind_4 rfl (lv_at hl 1 rfl) ?_
    refine lv_bipush (v := (6 : Int32)) hx hb dX0_isBlind_5 (by decide) ?_
    refine lv_icmp_ge (tgt := 25) hx hb dX0_isBlind_7 (by decide) (fun h9 => ?_) (fun h9 => ?_)
    · have hf := pg_t h9 hf
      refine lv_iconst (v := (0 : Int32)) hx hb dX0_isBlind_25 (by decide) ?_
      exact RET _ _ _ _ _ dX0_isBlind_26 (by decide) hP hD hS hf
    · have hf := pg_f h9 hf
      refine lv_aload_n hx hb dX0_isBlind_10 rfl (lv_at hl 0 rfl) ?_
      refine va_get (D := (dC, dI)) (ci := 0) (v := .int b_blinds) (C := RX0) (T := TX0) (N := 16) hx hb hw inlX0 hown hK hP 0 rfl rfl 4 (by decide) (hw _ mw_8_23) (fun _ h9 => h9) rfl dX0_isBlind_11 ?_
      refine lv_iload_n hx hb dX0_isBlind_14 rfl (lv_at hl 1 rfl) ?_
      refine lv_ishr hx hb dX0_isBlind_15 ?_
      refine lv_iconst (v := (1 : Int32)) hx hb dX0_isBlind_16 (by decide) ?_
      refine lv_iand hx hb dX0_isBlind_17 ?_
      refine lv_if_eq (tgt := 25) hx hb dX0_isBlind_18 (by decide) (fun h9 => ?_) (fun h9 => ?_)
      · have hf := pg_t h9 hf
        refine lv_iconst (v := (0 : Int32)) hx hb dX0_isBlind_25 (by decide) ?_
        exact RET _ _ _ _ _ dX0_isBlind_26 (by decide) hP hD hS hf
      · have hf := pg_f h9 hf
        refine lv_iconst (v := (1 : Int32)) hx hb dX0_isBlind_21 (by decide) ?_
        refine lv_goto (tgt := 26) hx hb dX0_isBlind_22 (by decide) ?_
        exact RET _ _ _ _ _ dX0_isBlind_26 (by decide) hP hD hS hf
def f_X0_dueMinutes (b_due : Int32) : Option (Int32) :=
  if b_due = 0 then
    some ((60 : Int32))
  else
    some (b_due)
abbrev rm_X0_dueMinutes : Room := { frames := 0, cells := 0, slots := 0, locals := 0 }
theorem dk_X0_dueMinutes : yX0_dueMinutes.cls = RX0 ∧ yX0_dueMinutes.cls ≠ "java/lang/invoke/MethodHandle" ∧ yX0_dueMinutes.cls ≠ "java/lang/invoke/VarHandle" ∧ (parseMethodDescriptor yX0_dueMinutes.desc).map (fun d => d.parameters.length) = some 0 := by decide +kernel
set_option maxHeartbeats 4000000 in
set_option maxRecDepth 100000 in
theorem c_X0_dueMinutes (l : Launch) (dC : Nat → ClassId) (dI : Nat → Nat → Nat) (cI cZ cII : ClassId) (qb qb_pull qb_strength qb_back qb_moods qb_tides qb_carts : Nat) (sz : Nat) (b_law : Int32) (b_places : Int32) (b_broad : Int32) (b_horses : Int32) (b_blinds : Int32) (b_besides : Int32) (b_tideCount : Int32) (b_cartCount : Int32) (b_due : Int32) (b_pairs : Int64) (b_pull : Nat → Int32) (b_strength : Nat → Int32) (b_back : Nat → Int32) (b_moods : Nat → Int32) (b_tides : Nat → Int32) (b_carts : Nat → Int32) (rr : Int32) (hf : f_X0_dueMinutes b_due = some (rr)) : Met l yX0_dueMinutes (wM yX0_dueMinutes cX0_dueMinutes 1 (some .int)) rm_X0_dueMinutes (PreW (dC, dI) (tyA cI cZ cII) (W_X0b cI cZ cII qb qb_pull qb_strength qb_back qb_moods qb_tides qb_carts b_law b_places b_broad b_horses b_blinds b_besides b_tideCount b_cartCount b_due b_pairs b_pull b_strength b_back b_moods b_tides b_carts) sz [.ref qb]) (PostI (dC, dI) (tyA cI cZ cII) rr (W_X0b cI cZ cII qb qb_pull qb_strength qb_back qb_moods qb_tides qb_carts b_law b_places b_broad b_horses b_blinds b_besides b_tideCount b_cartCount b_due b_pairs b_pull b_strength b_back b_moods b_tides b_carts) (W_X0b cI cZ cII qb qb_pull qb_strength qb_back qb_moods qb_tides qb_carts b_law b_places b_broad b_horses b_blinds b_besides b_tideCount b_cartCount b_due b_pairs b_pull b_strength b_back b_moods b_tides b_carts) sz) 0 0 (va_A (W_X0b cI cZ cII qb qb_pull qb_strength qb_back qb_moods qb_tides qb_carts b_law b_places b_broad b_horses b_blinds b_besides b_tideCount b_cartCount b_due b_pairs b_pull b_strength b_back b_moods b_tides b_carts) sz) := by
  refine Met.ofW (cc := cX0_dueMinutes) (maxL := 1) (ret := (some .int)) (by decide) rfl ?_
  intro p e s m args below meth c s₁ B hml hv
  obtain ⟨rfl, hsz, hP, hK, hD0⟩ := hv
  have hx := B.exec
  have hb := B.bytes
  have hr := B.returns
  have hts := atoms_spec (ws := wM yX0_dueMinutes cX0_dueMinutes 1 (some .int)) B.pre
  have hown : s.vm.findClass RX0 = some m.cls := findClass_of_methodNamed B.named
  have hlocks := B.notSynchronized
  subst hsz
  have hD := hD0.self (sz := s.heap.size)
  obtain ⟨A, hAe⟩ : ∃ A, A = va_A (W_X0b cI cZ cII qb qb_pull qb_strength qb_back qb_moods qb_tides qb_carts b_law b_places b_broad b_horses b_blinds b_besides b_tideCount b_cartCount b_due b_pairs b_pull b_strength b_back b_moods b_tides b_carts) s.heap.size := ⟨_, rfl⟩
  rw [← hAe] at hD
  have hA : ∀ q : Nat, s.heap.size ≤ q → A q := fun q h => by rw [hAe]; exact Or.inr h
  have hS : va_S A s.heap s.heap [] := va_S.rf
  have hl := lv_entry ([.ref qb]) (n := 1) (Nat.le_of_ble_eq_true rfl)
  rw [lg_entry_eq]
  generalize (lg_sl ([.ref qb]) ++ List.replicate (1 - (lg_sl ([.ref qb])).length) Slot.unset).toArray = ls at hl ⊢
  have hl : lv_has ls 1 [(0, .ref qb)] := hl
  generalize ([.ref qb] : List Value).toArray = args at hts ⊢
  have hw : ∀ w ∈ wsL_law, w.before args s = true := fun w h => hts w (List.mem_cons_of_mem _ h)
  refine pg_start (fun Q hQ => ?_)
  have RET : ∀ (H : Heap) (locs : List Loc) (ls : Array Slot) (pc : Nat) (v : Int32) , decode cX0_dueMinutes pc = .ok (.ireturn, 1) → va_P (dC, dI) vwCl (W_X0b cI cZ cII qb qb_pull qb_strength qb_back qb_moods qb_tides qb_carts b_law b_places b_broad b_horses b_blinds b_besides b_tideCount b_cartCount b_due b_pairs b_pull b_strength b_back b_moods b_tides b_carts) H → va_D A (W_X0b cI cZ cII qb qb_pull qb_strength qb_back qb_moods qb_tides qb_carts b_law b_places b_broad b_horses b_blinds b_besides b_tideCount b_cartCount b_due b_pairs b_pull b_strength b_back b_moods b_tides b_carts) → va_S A s.heap H locs → (some (v) : Option (Int32)) = some (rr) → W p l e rm_X0_dueMinutes s m args below meth c H locs 0 0 Q (F0 m pc ls [.int v]) := by
    intro H locs ls pc v hd hP hD hS he
    subst hAe; subst hQ
    obtain rfl := Option.some.inj he
    exact pg_iret hx hb hr hlocks hK hP hD hS hd
  unfold f_X0_dueMinutes at hf
  refine lv_aload_n hx hb dX0_dueMinutes_0 rfl (lv_at hl 0 rfl) ?_
  refine va_get (D := (dC, dI)) (ci := 0) (v := .int b_due) (C := RX0) (T := TX0) (N := 16) hx hb hw inlX0 hown hK hP 0 rfl rfl 8 (by decide) (hw _ mw_9_3) (fun _ h9 => h9) rfl dX0_dueMinutes_1 ?_
  refine lv_if_ne (tgt := 12) hx hb dX0_dueMinutes_4 (by decide) (fun h9 => ?_) (fun h9 => ?_)
  · have hf := pg_f h9 hf
    refine lv_aload_n hx hb dX0_dueMinutes_12 rfl (lv_at hl 0 rfl) ?_
    refine va_get (D := (dC, dI)) (ci := 0) (v := .int b_due) (C := RX0) (T := TX0) (N := 16) hx hb hw inlX0 hown hK hP 0 rfl rfl 8 (by decide) (hw _ mw_9_3) (fun _ h9 => h9) rfl dX0_dueMinutes_13 ?_
    exact RET _ _ _ _ _ dX0_dueMinutes_16 hP hD hS hf
  · have hf := pg_t h9 hf
    refine lv_bipush (v := (60 : Int32)) hx hb dX0_dueMinutes_7 (by decide) ?_
    refine lv_goto (tgt := 16) hx hb dX0_dueMinutes_9 (by decide) ?_
    exact RET _ _ _ _ _ dX0_dueMinutes_16 hP hD hS hf
def f_X0_tideOf (n1 : Int32) (b_tideCount : Int32) (b_tides : Nat → Int32) : Option (Int32) :=
  if b_tideCount ≤ 0 then
    some ((0 : Int32))
  else
    if (12 : Int32) < b_tideCount then
      some ((0 : Int32))
    else
      if 0 ≤ n1 then
        if b_tideCount = 0 then none else
        if (n1 - n1 / b_tideCount * b_tideCount) < 0 ∨ 12 ≤ ((n1 - n1 / b_tideCount * b_tideCount)).toNatClampNeg then none else
        some (((b_tides ((n1 - n1 / b_tideCount * b_tideCount)).toNatClampNeg) - (20 : Int32)))
      else
        some ((0 : Int32))
abbrev rm_X0_tideOf : Room := { frames := 0, cells := 0, slots := 0, locals := 0 }
theorem dk_X0_tideOf : yX0_tideOf.cls = RX0 ∧ yX0_tideOf.cls ≠ "java/lang/invoke/MethodHandle" ∧ yX0_tideOf.cls ≠ "java/lang/invoke/VarHandle" ∧ (parseMethodDescriptor yX0_tideOf.desc).map (fun d => d.parameters.length) = some 1 := by decide +kernel
set_option maxHeartbeats 4000000 in
set_option maxRecDepth 100000 in
theorem c_X0_tideOf (l : Launch) (dC : Nat → ClassId) (dI : Nat → Nat → Nat) (cI cZ cII : ClassId) (qb qb_pull qb_strength qb_back qb_moods qb_tides qb_carts : Nat) (sz : Nat) (b_law : Int32) (b_places : Int32) (b_broad : Int32) (b_horses : Int32) (b_blinds : Int32) (b_besides : Int32) (b_tideCount : Int32) (b_cartCount : Int32) (b_due : Int32) (b_pairs : Int64) (b_pull : Nat → Int32) (b_strength : Nat → Int32) (b_back : Nat → Int32) (b_moods : Nat → Int32) (b_tides : Nat → Int32) (b_carts : Nat → Int32) (n1 : Int32) (rr : Int32) (hf : f_X0_tideOf n1 b_tideCount b_tides = some (rr)) : Met l yX0_tideOf (wM yX0_tideOf cX0_tideOf 2 (some .int)) rm_X0_tideOf (PreW (dC, dI) (tyA cI cZ cII) (W_X0b cI cZ cII qb qb_pull qb_strength qb_back qb_moods qb_tides qb_carts b_law b_places b_broad b_horses b_blinds b_besides b_tideCount b_cartCount b_due b_pairs b_pull b_strength b_back b_moods b_tides b_carts) sz [.ref qb, .int n1]) (PostI (dC, dI) (tyA cI cZ cII) rr (W_X0b cI cZ cII qb qb_pull qb_strength qb_back qb_moods qb_tides qb_carts b_law b_places b_broad b_horses b_blinds b_besides b_tideCount b_cartCount b_due b_pairs b_pull b_strength b_back b_moods b_tides b_carts) (W_X0b cI cZ cII qb qb_pull qb_strength qb_back qb_moods qb_tides qb_carts b_law b_places b_broad b_horses b_blinds b_besides b_tideCount b_cartCount b_due b_pairs b_pull b_strength b_back b_moods b_tides b_carts) sz) 0 0 (va_A (W_X0b cI cZ cII qb qb_pull qb_strength qb_back qb_moods qb_tides qb_carts b_law b_places b_broad b_horses b_blinds b_besides b_tideCount b_cartCount b_due b_pairs b_pull b_strength b_back b_moods b_tides b_carts) sz) := by
  refine Met.ofW (cc := cX0_tideOf) (maxL := 2) (ret := (some .int)) (by decide) rfl ?_
  intro p e s m args below meth c s₁ B hml hv
  obtain ⟨rfl, hsz, hP, hK, hD0⟩ := hv
  have hx := B.exec
  have hb := B.bytes
  have hr := B.returns
  have hts := atoms_spec (ws := wM yX0_tideOf cX0_tideOf 2 (some .int)) B.pre
  have hown : s.vm.findClass RX0 = some m.cls := findClass_of_methodNamed B.named
  have hlocks := B.notSynchronized
  subst hsz
  have hD := hD0.self (sz := s.heap.size)
  obtain ⟨A, hAe⟩ : ∃ A, A = va_A (W_X0b cI cZ cII qb qb_pull qb_strength qb_back qb_moods qb_tides qb_carts b_law b_places b_broad b_horses b_blinds b_besides b_tideCount b_cartCount b_due b_pairs b_pull b_strength b_back b_moods b_tides b_carts) s.heap.size := ⟨_, rfl⟩
  rw [← hAe] at hD
  have hA : ∀ q : Nat, s.heap.size ≤ q → A q := fun q h => by rw [hAe]; exact Or.inr h
  have hS : va_S A s.heap s.heap [] := va_S.rf
  have hl := lv_entry ([.ref qb, .int n1]) (n := 2) (Nat.le_of_ble_eq_true rfl)
  rw [lg_entry_eq]
  generalize (lg_sl ([.ref qb, .int n1]) ++ List.replicate (2 - (lg_sl ([.ref qb, .int n1])).length) Slot.unset).toArray = ls at hl ⊢
  have hl : lv_has ls 2 [(0, .ref qb), (1, .int n1)] := hl
  generalize ([.ref qb, .int n1] : List Value).toArray = args at hts ⊢
  have hw : ∀ w ∈ wsL_law, w.before args s = true := fun w h => hts w (List.mem_cons_of_mem _ h)
  refine pg_start (fun Q hQ => ?_)
  have RET : ∀ (H : Heap) (locs : List Loc) (ls : Array Slot) (pc : Nat) (v : Int32) , decode cX0_tideOf pc = .ok (.ireturn, 1) → va_P (dC, dI) vwCl (W_X0b cI cZ cII qb qb_pull qb_strength qb_back qb_moods qb_tides qb_carts b_law b_places b_broad b_horses b_blinds b_besides b_tideCount b_cartCount b_due b_pairs b_pull b_strength b_back b_moods b_tides b_carts) H → va_D A (W_X0b cI cZ cII qb qb_pull qb_strength qb_back qb_moods qb_tides qb_carts b_law b_places b_broad b_horses b_blinds b_besides b_tideCount b_cartCount b_due b_pairs b_pull b_strength b_back b_moods b_tides b_carts) → va_S A s.heap H locs → (some (v) : Option (Int32)) = some (rr) → W p l e rm_X0_tideOf s m args below meth c H locs 0 0 Q (F0 m pc ls [.int v]) := by
    intro H locs ls pc v hd hP hD hS he
    subst hAe; subst hQ
    obtain rfl := Option.some.inj he
    exact pg_iret hx hb hr hlocks hK hP hD hS hd
  unfold f_X0_tideOf at hf
  refine lv_aload_n hx hb dX0_tideOf_0 rfl (lv_at hl 0 rfl) ?_
  refine va_get (D := (dC, dI)) (ci := 0) (v := .int b_tideCount) (C := RX0) (T := TX0) (N := 16) hx hb hw inlX0 hown hK hP 0 rfl rfl 6 (by decide) (hw _ mw_9_1) (fun _ h9 => h9) rfl dX0_tideOf_1 ?_
  refine lv_if_le (tgt := 20) hx hb dX0_tideOf_4 (by decide) (fun h9 => ?_) (fun h9 => ?_)
  · have hf := pg_t h9 hf
    refine lv_iconst (v := (0 : Int32)) hx hb dX0_tideOf_20 (by decide) ?_
    exact RET _ _ _ _ _ dX0_tideOf_21 hP hD hS hf
  · have hf := pg_f h9 hf
    refine lv_aload_n hx hb dX0_tideOf_7 rfl (lv_at hl 0 rfl) ?_
    refine va_get (D := (dC, dI)) (ci := 0) (v := .int b_tideCount) (C := RX0) (T := TX0) (N := 16) hx hb hw inlX0 hown hK hP 0 rfl rfl 6 (by decide) (hw _ mw_9_1) (fun _ h9 => h9) rfl dX0_tideOf_8 ?_
    refine lv_bipush (v := (12 : Int32)) hx hb dX0_tideOf_11 (by decide) ?_
    refine lv_icmp_gt (tgt := 20) hx hb dX0_tideOf_13 (by decide) (fun h9 => ?_) (fun h9 => ?_)
    · have hf := pg_t h9 hf
      refine lv_iconst (v := (0 : Int32)) hx hb dX0_tideOf_20 (by decide) ?_
      exact RET _ _ _ _ _ dX0_tideOf_21 hP hD hS hf
    · have hf := pg_f h9 hf
      refine lv_iload_n hx hb dX0_tideOf_16 rfl (lv_at hl 1 rfl) ?_
      refine lv_if_ge (tgt := 22) hx hb dX0_tideOf_17 (by decide) (fun h9 => ?_) (fun h9 => ?_)
      · have hf := pg_t h9 hf
        refine lv_aload_n hx hb dX0_tideOf_22 rfl (lv_at hl 0 rfl) ?_
        refine va_get (D := (dC, dI)) (ci := 0) (v := .ref qb_tides) (C := RX0) (T := TX0) (N := 16) hx hb hw inlX0 hown hK hP 0 rfl rfl 14 (by decide) (hw _ mw_3_8) (fun _ h9 => h9) rfl dX0_tideOf_23 ?_
        refine lv_iload_n hx hb dX0_tideOf_26 rfl (lv_at hl 1 rfl) ?_
        refine lv_aload_n hx hb dX0_tideOf_27 rfl (lv_at hl 0 rfl) ?_
        refine va_get (D := (dC, dI)) (ci := 0) (v := .int b_tideCount) (C := RX0) (T := TX0) (N := 16) hx hb hw inlX0 hown hK hP 0 rfl rfl 6 (by decide) (hw _ mw_9_1) (fun _ h9 => h9) rfl dX0_tideOf_28 ?_
        obtain ⟨hi1, hf⟩ := pg_chk hf
        refine lv_irem hx hb dX0_tideOf_31 hi1 ?_
        obtain ⟨hi2, hf⟩ := pg_chk hf
        refine va_iald hx hb hK hP 5 0 rfl rfl hi2 dX0_tideOf_32 ?_
        refine lv_bipush (v := (20 : Int32)) hx hb dX0_tideOf_33 (by decide) ?_
        refine lv_isub hx hb dX0_tideOf_35 ?_
        exact RET _ _ _ _ _ dX0_tideOf_36 hP hD hS hf
      · have hf := pg_f h9 hf
        refine lv_iconst (v := (0 : Int32)) hx hb dX0_tideOf_20 (by decide) ?_
        exact RET _ _ _ _ _ dX0_tideOf_21 hP hD hS hf
def f_X0_mood (n1 : Int32) (n2 : Int32) (b_moods : Nat → Int32) : Option (Int32) :=
  jn1 (fun (z0_1 : Int32) =>
    if z0_1 = 0 then
      some ((0 : Int32))
    else
      if ((n1 * (6 : Int32)) + n2) < 0 ∨ 36 ≤ (((n1 * (6 : Int32)) + n2)).toNatClampNeg then none else
      some ((b_moods (((n1 * (6 : Int32)) + n2)).toNatClampNeg))
  ) (fun J25_1 =>
  jn1 (fun (u_3 : Unit) =>
    J25_1 (0 : Int32)
  ) (fun J24_3 =>
  if n1 < 0 then
    J24_3 ()
  else
    if (6 : Int32) ≤ n1 then
      J24_3 ()
    else
      if n2 < 0 then
        J24_3 ()
      else
        if (6 : Int32) ≤ n2 then
          J24_3 ()
        else
          J25_1 (1 : Int32)
  )
  )
abbrev rm_X0_mood : Room := { frames := 0, cells := 0, slots := 0, locals := 0 }
theorem dk_X0_mood : yX0_mood.cls = RX0 ∧ yX0_mood.cls ≠ "java/lang/invoke/MethodHandle" ∧ yX0_mood.cls ≠ "java/lang/invoke/VarHandle" ∧ (parseMethodDescriptor yX0_mood.desc).map (fun d => d.parameters.length) = some 2 := by decide +kernel
set_option maxHeartbeats 4000000 in
set_option maxRecDepth 100000 in
theorem c_X0_mood (l : Launch) (dC : Nat → ClassId) (dI : Nat → Nat → Nat) (cI cZ cII : ClassId) (qb qb_pull qb_strength qb_back qb_moods qb_tides qb_carts : Nat) (sz : Nat) (b_law : Int32) (b_places : Int32) (b_broad : Int32) (b_horses : Int32) (b_blinds : Int32) (b_besides : Int32) (b_tideCount : Int32) (b_cartCount : Int32) (b_due : Int32) (b_pairs : Int64) (b_pull : Nat → Int32) (b_strength : Nat → Int32) (b_back : Nat → Int32) (b_moods : Nat → Int32) (b_tides : Nat → Int32) (b_carts : Nat → Int32) (n1 : Int32) (n2 : Int32) (rr : Int32) (hf : f_X0_mood n1 n2 b_moods = some (rr)) : Met l yX0_mood (wM yX0_mood cX0_mood 4 (some .int)) rm_X0_mood (PreW (dC, dI) (tyA cI cZ cII) (W_X0b cI cZ cII qb qb_pull qb_strength qb_back qb_moods qb_tides qb_carts b_law b_places b_broad b_horses b_blinds b_besides b_tideCount b_cartCount b_due b_pairs b_pull b_strength b_back b_moods b_tides b_carts) sz [.ref qb, .int n1, .int n2]) (PostI (dC, dI) (tyA cI cZ cII) rr (W_X0b cI cZ cII qb qb_pull qb_strength qb_back qb_moods qb_tides qb_carts b_law b_places b_broad b_horses b_blinds b_besides b_tideCount b_cartCount b_due b_pairs b_pull b_strength b_back b_moods b_tides b_carts) (W_X0b cI cZ cII qb qb_pull qb_strength qb_back qb_moods qb_tides qb_carts b_law b_places b_broad b_horses b_blinds b_besides b_tideCount b_cartCount b_due b_pairs b_pull b_strength b_back b_moods b_tides b_carts) sz) 0 0 (va_A (W_X0b cI cZ cII qb qb_pull qb_strength qb_back qb_moods qb_tides qb_carts b_law b_places b_broad b_horses b_blinds b_besides b_tideCount b_cartCount b_due b_pairs b_pull b_strength b_back b_moods b_tides b_carts) sz) := by
  refine Met.ofW (cc := cX0_mood) (maxL := 4) (ret := (some .int)) (by decide) rfl ?_
  intro p e s m args below meth c s₁ B hml hv
  obtain ⟨rfl, hsz, hP, hK, hD0⟩ := hv
  have hx := B.exec
  have hb := B.bytes
  have hr := B.returns
  have hts := atoms_spec (ws := wM yX0_mood cX0_mood 4 (some .int)) B.pre
  have hown : s.vm.findClass RX0 = some m.cls := findClass_of_methodNamed B.named
  have hlocks := B.notSynchronized
  subst hsz
  have hD := hD0.self (sz := s.heap.size)
  obtain ⟨A, hAe⟩ : ∃ A, A = va_A (W_X0b cI cZ cII qb qb_pull qb_strength qb_back qb_moods qb_tides qb_carts b_law b_places b_broad b_horses b_blinds b_besides b_tideCount b_cartCount b_due b_pairs b_pull b_strength b_back b_moods b_tides b_carts) s.heap.size := ⟨_, rfl⟩
  rw [← hAe] at hD
  have hA : ∀ q : Nat, s.heap.size ≤ q → A q := fun q h => by rw [hAe]; exact Or.inr h
  have hS : va_S A s.heap s.heap [] := va_S.rf
  have hl := lv_entry ([.ref qb, .int n1, .int n2]) (n := 4) (Nat.le_of_ble_eq_true rfl)
  rw [lg_entry_eq]
  generalize (lg_sl ([.ref qb, .int n1, .int n2]) ++ List.replicate (4 - (lg_sl ([.ref qb, .int n1, .int n2])).length) Slot.unset).toArray = ls at hl ⊢
  have hl : lv_has ls 4 [(0, .ref qb), (1, .int n1), (2, .int n2)] := hl
  generalize ([.ref qb, .int n1, .int n2] : List Value).toArray = args at hts ⊢
  have hw : ∀ w ∈ wsL_law, w.before args s = true := fun w h => hts w (List.mem_cons_of_mem _ h)
  refine pg_start (fun Q hQ => ?_)
  have RET : ∀ (H : Heap) (locs : List Loc) (ls : Array Slot) (pc : Nat) (v : Int32) , decode cX0_mood pc = .ok (.ireturn, 1) → va_P (dC, dI) vwCl (W_X0b cI cZ cII qb qb_pull qb_strength qb_back qb_moods qb_tides qb_carts b_law b_places b_broad b_horses b_blinds b_besides b_tideCount b_cartCount b_due b_pairs b_pull b_strength b_back b_moods b_tides b_carts) H → va_D A (W_X0b cI cZ cII qb qb_pull qb_strength qb_back qb_moods qb_tides qb_carts b_law b_places b_broad b_horses b_blinds b_besides b_tideCount b_cartCount b_due b_pairs b_pull b_strength b_back b_moods b_tides b_carts) → va_S A s.heap H locs → (some (v) : Option (Int32)) = some (rr) → W p l e rm_X0_mood s m args below meth c H locs 0 0 Q (F0 m pc ls [.int v]) := by
    intro H locs ls pc v hd hP hD hS he
    subst hAe; subst hQ
    obtain rfl := Option.some.inj he
    exact pg_iret hx hb hr hlocks hK hP hD hS hd
  unfold f_X0_mood at hf
  refine lv_iload_n hx hb dX0_mood_0 rfl (lv_at hl 1 rfl) ?_
  obtain ⟨J25_1, hJ25_1, hf⟩ := jn1_s hf
  have WJ25_1 : ∀ (z0_1 : Int32) (H : Heap) (locs : List Loc) (ls : Array Slot), va_P (dC, dI) vwCl (W_X0b cI cZ cII qb qb_pull qb_strength qb_back qb_moods qb_tides qb_carts b_law b_places b_broad b_horses b_blinds b_besides b_tideCount b_cartCount b_due b_pairs b_pull b_strength b_back b_moods b_tides b_carts) H → va_D A (W_X0b cI cZ cII qb qb_pull qb_strength qb_back qb_moods qb_tides qb_carts b_law b_places b_broad b_horses b_blinds b_besides b_tideCount b_cartCount b_due b_pairs b_pull b_strength b_back b_moods b_tides b_carts) → va_S A s.heap H locs → lv_has ls 4 [(0, .ref qb), (1, .int n1), (2, .int n2)] → J25_1 z0_1 = some (rr) → W p l e rm_X0_mood s m args below meth c H locs 0 0 Q (F0 m 25 ls [.int z0_1]) := by
    intro z0_1 H locs ls hP hD hS hl hf
    have hf := hJ25_1 _ hf
    refine lv_istore_n (lv' := [(3, .int z0_1), (0, .ref qb), (1, .int n1), (2, .int n2)]) hx hb dX0_mood_25 rfl hl (by decide) rfl (fun ls hl => ?_)
    refine lv_iload_n hx hb dX0_mood_26 rfl (lv_at hl 0 rfl) ?_
    refine lv_if_eq (tgt := 44) hx hb dX0_mood_27 (by decide) (fun h9 => ?_) (fun h9 => ?_)
    · have hf := pg_t h9 hf
      refine lv_iconst (v := (0 : Int32)) hx hb dX0_mood_44 (by decide) ?_
      exact RET _ _ _ _ _ dX0_mood_45 hP hD hS hf
    · have hf := pg_f h9 hf
      refine lv_aload_n hx hb dX0_mood_30 rfl (lv_at hl 1 rfl) ?_
      refine va_get (D := (dC, dI)) (ci := 0) (v := .ref qb_moods) (C := RX0) (T := TX0) (N := 16) hx hb hw inlX0 hown hK hP 0 rfl rfl 13 (by decide) (hw _ mw_3_7) (fun _ h9 => h9) rfl dX0_mood_31 ?_
      refine lv_iload_n hx hb dX0_mood_34 rfl (lv_at hl 2 rfl) ?_
      refine lv_bipush (v := (6 : Int32)) hx hb dX0_mood_35 (by decide) ?_
      refine lv_imul hx hb dX0_mood_37 ?_
      refine lv_iload_n hx hb dX0_mood_38 rfl (lv_at hl 3 rfl) ?_
      refine lv_iadd hx hb dX0_mood_39 ?_
      obtain ⟨hi2, hf⟩ := pg_chk hf
      refine va_iald hx hb hK hP 4 0 rfl rfl hi2 dX0_mood_40 ?_
      refine lv_goto (tgt := 45) hx hb dX0_mood_41 (by decide) ?_
      exact RET _ _ _ _ _ dX0_mood_45 hP hD hS hf
  obtain ⟨J24_3, hJ24_3, hf⟩ := jn1_s hf
  have WJ24_3 : ∀ (u_3 : Unit) (H : Heap) (locs : List Loc) (ls : Array Slot), va_P (dC, dI) vwCl (W_X0b cI cZ cII qb qb_pull qb_strength qb_back qb_moods qb_tides qb_carts b_law b_places b_broad b_horses b_blinds b_besides b_tideCount b_cartCount b_due b_pairs b_pull b_strength b_back b_moods b_tides b_carts) H → va_D A (W_X0b cI cZ cII qb qb_pull qb_strength qb_back qb_moods qb_tides qb_carts b_law b_places b_broad b_horses b_blinds b_besides b_tideCount b_cartCount b_due b_pairs b_pull b_strength b_back b_moods b_tides b_carts) → va_S A s.heap H locs → lv_has ls 4 [(0, .ref qb), (1, .int n1), (2, .int n2)] → J24_3 u_3 = some (rr) → W p l e rm_X0_mood s m args below meth c H locs 0 0 Q (F0 m 24 ls []) := by
    intro u_3 H locs ls hP hD hS hl hf
    have hf := hJ24_3 _ hf
    refine lv_iconst (v := (0 : Int32)) hx hb dX0_mood_24 (by decide) ?_
    exact WJ25_1 _ _ _ _ hP hD hS hl hf
  refine lv_if_lt (tgt := 24) hx hb dX0_mood_1 (by decide) (fun h9 => ?_) (fun h9 => ?_)
  · have hf := pg_t h9 hf
    exact WJ24_3 _ _ _ _ hP hD hS hl hf
  · have hf := pg_f h9 hf
    refine lv_iload_n hx hb dX0_mood_4 rfl (lv_at hl 1 rfl) ?_
    refine lv_bipush (v := (6 : Int32)) hx hb dX0_mood_5 (by decide) ?_
    refine lv_icmp_ge (tgt := 24) hx hb dX0_mood_7 (by decide) (fun h9 => ?_) (fun h9 => ?_)
    · have hf := pg_t h9 hf
      exact WJ24_3 _ _ _ _ hP hD hS hl hf
    · have hf := pg_f h9 hf
      refine lv_iload_n hx hb dX0_mood_10 rfl (lv_at hl 2 rfl) ?_
      refine lv_if_lt (tgt := 24) hx hb dX0_mood_11 (by decide) (fun h9 => ?_) (fun h9 => ?_)
      · have hf := pg_t h9 hf
        exact WJ24_3 _ _ _ _ hP hD hS hl hf
      · have hf := pg_f h9 hf
        refine lv_iload_n hx hb dX0_mood_14 rfl (lv_at hl 2 rfl) ?_
        refine lv_bipush (v := (6 : Int32)) hx hb dX0_mood_15 (by decide) ?_
        refine lv_icmp_ge (tgt := 24) hx hb dX0_mood_17 (by decide) (fun h9 => ?_) (fun h9 => ?_)
        · have hf := pg_t h9 hf
          exact WJ24_3 _ _ _ _ hP hD hS hl hf
        · have hf := pg_f h9 hf
          refine lv_iconst (v := (1 : Int32)) hx hb dX0_mood_20 (by decide) ?_
          refine lv_goto (tgt := 25) hx hb dX0_mood_21 (by decide) ?_
          exact WJ25_1 _ _ _ _ hP hD hS hl hf
def f_X0_hasPair (n1 : Int32) (n2 : Int32) (b_horses : Int32) (b_pairs : Int64) : Option (Int32) :=
  bn1 (f_X0_hasHorse n1 b_horses) (fun (r_1 : Int32) =>
    if r_1 = 0 then
      some ((0 : Int32))
    else
      bn1 (f_X0_hasHorse n2 b_horses) (fun (r_2 : Int32) =>
        if r_2 = 0 then
          some ((0 : Int32))
        else
          if (lg_cmp ((b_pairs >>> ((((n1 * (6 : Int32)) + n2)).toInt64 &&& 63)) &&& (1 : Int64)) (0 : Int64)) = 0 then
            some ((0 : Int32))
          else
            some ((1 : Int32))
      )
  )
set_option maxRecDepth 100000 in
theorem plC_1 (cI cZ cII : ClassId) (qb qb_pull qb_strength qb_back qb_moods qb_tides qb_carts : Nat) (b_law : Int32) (b_places : Int32) (b_broad : Int32) (b_horses : Int32) (b_blinds : Int32) (b_besides : Int32) (b_tideCount : Int32) (b_cartCount : Int32) (b_due : Int32) (b_pairs : Int64) (b_pull : Nat → Int32) (b_strength : Nat → Int32) (b_back : Nat → Int32) (b_moods : Nat → Int32) (b_tides : Nat → Int32) (b_carts : Nat → Int32) : ([0, 1, 2, 3, 4, 5, 6] : List Nat).map (fun i => (W_X0b cI cZ cII qb qb_pull qb_strength qb_back qb_moods qb_tides qb_carts b_law b_places b_broad b_horses b_blinds b_besides b_tideCount b_cartCount b_due b_pairs b_pull b_strength b_back b_moods b_tides b_carts)[i]?) = (W_X0b cI cZ cII qb qb_pull qb_strength qb_back qb_moods qb_tides qb_carts b_law b_places b_broad b_horses b_blinds b_besides b_tideCount b_cartCount b_due b_pairs b_pull b_strength b_back b_moods b_tides b_carts).map some := rfl
set_option maxRecDepth 100000 in
theorem plF_1 (cI cZ cII : ClassId) (qb qb_pull qb_strength qb_back qb_moods qb_tides qb_carts : Nat) (b_law : Int32) (b_places : Int32) (b_broad : Int32) (b_horses : Int32) (b_blinds : Int32) (b_besides : Int32) (b_tideCount : Int32) (b_cartCount : Int32) (b_due : Int32) (b_pairs : Int64) (b_pull : Nat → Int32) (b_strength : Nat → Int32) (b_back : Nat → Int32) (b_moods : Nat → Int32) (b_tides : Nat → Int32) (b_carts : Nat → Int32) (b9b_law : Int32) (b9b_places : Int32) (b9b_broad : Int32) (b9b_horses : Int32) (b9b_blinds : Int32) (b9b_besides : Int32) (b9b_tideCount : Int32) (b9b_cartCount : Int32) (b9b_due : Int32) (b9b_pairs : Int64) (b9b_pull : Nat → Int32) (b9b_strength : Nat → Int32) (b9b_back : Nat → Int32) (b9b_moods : Nat → Int32) (b9b_tides : Nat → Int32) (b9b_carts : Nat → Int32) : ([0, 1, 2, 3, 4, 5, 6] : List Nat).map (fun i => (pickW (W_X0b cI cZ cII qb qb_pull qb_strength qb_back qb_moods qb_tides qb_carts b_law b_places b_broad b_horses b_blinds b_besides b_tideCount b_cartCount b_due b_pairs b_pull b_strength b_back b_moods b_tides b_carts) ([] : List Nat) ++ (W_X0b cI cZ cII qb qb_pull qb_strength qb_back qb_moods qb_tides qb_carts b9b_law b9b_places b9b_broad b9b_horses b9b_blinds b9b_besides b9b_tideCount b9b_cartCount b9b_due b9b_pairs b9b_pull b9b_strength b9b_back b9b_moods b9b_tides b9b_carts))[i]?) = (W_X0b cI cZ cII qb qb_pull qb_strength qb_back qb_moods qb_tides qb_carts b9b_law b9b_places b9b_broad b9b_horses b9b_blinds b9b_besides b9b_tideCount b9b_cartCount b9b_due b9b_pairs b9b_pull b9b_strength b9b_back b9b_moods b9b_tides b9b_carts).map some := rfl
abbrev rm_X0_hasPair : Room := { frames := 1, cells := 0, slots := 0, locals := 21 }
theorem dk_X0_hasPair : yX0_hasPair.cls = RX0 ∧ yX0_hasPair.cls ≠ "java/lang/invoke/MethodHandle" ∧ yX0_hasPair.cls ≠ "java/lang/invoke/VarHandle" ∧ (parseMethodDescriptor yX0_hasPair.desc).map (fun d => d.parameters.length) = some 2 := by decide +kernel
set_option maxHeartbeats 4000000 in
set_option maxRecDepth 100000 in
theorem c_X0_hasPair (l : Launch) (dC : Nat → ClassId) (dI : Nat → Nat → Nat) (cI cZ cII : ClassId) (qb qb_pull qb_strength qb_back qb_moods qb_tides qb_carts : Nat) (sz : Nat) (b_law : Int32) (b_places : Int32) (b_broad : Int32) (b_horses : Int32) (b_blinds : Int32) (b_besides : Int32) (b_tideCount : Int32) (b_cartCount : Int32) (b_due : Int32) (b_pairs : Int64) (b_pull : Nat → Int32) (b_strength : Nat → Int32) (b_back : Nat → Int32) (b_moods : Nat → Int32) (b_tides : Nat → Int32) (b_carts : Nat → Int32) (n1 : Int32) (n2 : Int32) (rr : Int32) (hf : f_X0_hasPair n1 n2 b_horses b_pairs = some (rr)) : Met l yX0_hasPair (wM yX0_hasPair cX0_hasPair 3 (some .boolean)) rm_X0_hasPair (PreW (dC, dI) (tyA cI cZ cII) (W_X0b cI cZ cII qb qb_pull qb_strength qb_back qb_moods qb_tides qb_carts b_law b_places b_broad b_horses b_blinds b_besides b_tideCount b_cartCount b_due b_pairs b_pull b_strength b_back b_moods b_tides b_carts) sz [.ref qb, .int n1, .int n2]) (PostI (dC, dI) (tyA cI cZ cII) rr (W_X0b cI cZ cII qb qb_pull qb_strength qb_back qb_moods qb_tides qb_carts b_law b_places b_broad b_horses b_blinds b_besides b_tideCount b_cartCount b_due b_pairs b_pull b_strength b_back b_moods b_tides b_carts) (W_X0b cI cZ cII qb qb_pull qb_strength qb_back qb_moods qb_tides qb_carts b_law b_places b_broad b_horses b_blinds b_besides b_tideCount b_cartCount b_due b_pairs b_pull b_strength b_back b_moods b_tides b_carts) sz) 0 0 (va_A (W_X0b cI cZ cII qb qb_pull qb_strength qb_back qb_moods qb_tides qb_carts b_law b_places b_broad b_horses b_blinds b_besides b_tideCount b_cartCount b_due b_pairs b_pull b_strength b_back b_moods b_tides b_carts) sz) := by
  refine Met.ofW (cc := cX0_hasPair) (maxL := 3) (ret := (some .boolean)) (by decide) rfl ?_
  intro p e s m args below meth c s₁ B hml hv
  obtain ⟨rfl, hsz, hP, hK, hD0⟩ := hv
  have hx := B.exec
  have hb := B.bytes
  have hr := B.returns
  have hts := atoms_spec (ws := wM yX0_hasPair cX0_hasPair 3 (some .boolean)) B.pre
  have hown : s.vm.findClass RX0 = some m.cls := findClass_of_methodNamed B.named
  have hlocks := B.notSynchronized
  subst hsz
  have hD := hD0.self (sz := s.heap.size)
  obtain ⟨A, hAe⟩ : ∃ A, A = va_A (W_X0b cI cZ cII qb qb_pull qb_strength qb_back qb_moods qb_tides qb_carts b_law b_places b_broad b_horses b_blinds b_besides b_tideCount b_cartCount b_due b_pairs b_pull b_strength b_back b_moods b_tides b_carts) s.heap.size := ⟨_, rfl⟩
  rw [← hAe] at hD
  have hA : ∀ q : Nat, s.heap.size ≤ q → A q := fun q h => by rw [hAe]; exact Or.inr h
  have hS : va_S A s.heap s.heap [] := va_S.rf
  have hl := lv_entry ([.ref qb, .int n1, .int n2]) (n := 3) (Nat.le_of_ble_eq_true rfl)
  rw [lg_entry_eq]
  generalize (lg_sl ([.ref qb, .int n1, .int n2]) ++ List.replicate (3 - (lg_sl ([.ref qb, .int n1, .int n2])).length) Slot.unset).toArray = ls at hl ⊢
  have hl : lv_has ls 3 [(0, .ref qb), (1, .int n1), (2, .int n2)] := hl
  generalize ([.ref qb, .int n1, .int n2] : List Value).toArray = args at hts ⊢
  have hw : ∀ w ∈ wsL_law, w.before args s = true := fun w h => hts w (List.mem_cons_of_mem _ h)
  refine pg_start (fun Q hQ => ?_)
  have RET : ∀ (H : Heap) (locs : List Loc) (ls : Array Slot) (pc : Nat) (v : Int32) , decode cX0_hasPair pc = .ok (.ireturn, 1) → (v = 0 ∨ v = 1) → va_P (dC, dI) vwCl (W_X0b cI cZ cII qb qb_pull qb_strength qb_back qb_moods qb_tides qb_carts b_law b_places b_broad b_horses b_blinds b_besides b_tideCount b_cartCount b_due b_pairs b_pull b_strength b_back b_moods b_tides b_carts) H → va_D A (W_X0b cI cZ cII qb qb_pull qb_strength qb_back qb_moods qb_tides qb_carts b_law b_places b_broad b_horses b_blinds b_besides b_tideCount b_cartCount b_due b_pairs b_pull b_strength b_back b_moods b_tides b_carts) → va_S A s.heap H locs → (some (v) : Option (Int32)) = some (rr) → W p l e rm_X0_hasPair s m args below meth c H locs 0 0 Q (F0 m pc ls [.int v]) := by
    intro H locs ls pc v hd hz hP hD hS he
    subst hAe; subst hQ
    obtain rfl := Option.some.inj he
    exact pg_zret hx hb hr hlocks hz hK hP hD hS hd
  unfold f_X0_hasPair at hf
  refine lv_aload_n hx hb dX0_hasPair_0 rfl (lv_at hl 0 rfl) ?_
  refine lv_iload_n hx hb dX0_hasPair_1 rfl (lv_at hl 1 rfl) ?_
  obtain ⟨r_1, hc, hf⟩ := bn1_s hf
  refine pg_cVi (As := [.int n1]) (rest := []) (wf := (W_X0b cI cZ cII qb qb_pull qb_strength qb_back qb_moods qb_tides qb_carts b_law b_places b_broad b_horses b_blinds b_besides b_tideCount b_cartCount b_due b_pairs b_pull b_strength b_back b_moods b_tides b_carts)) ⟨hx, hb, hml, hown, hw⟩ (c_X0_hasHorse l dC dI cI cZ cII qb qb_pull qb_strength qb_back qb_moods qb_tides qb_carts s.heap.size b_law b_places b_broad b_horses b_blinds b_besides b_tideCount b_cartCount b_due b_pairs b_pull b_strength b_back b_moods b_tides b_carts n1 r_1 hc) (cwV 1 hts (wM_V mw_15_5 mw_15_6 mw_15_7 mw_1_15 mw_15_8) rfl rfl rfl dk_X0_hasHorse ⟨Nat.le_of_ble_eq_true rfl, Nat.le_of_ble_eq_true rfl⟩) hK hP hD hS hA 0 0 rfl rfl rfl [0, 1, 2, 3, 4, 5, 6] [] [0, 1, 2, 3, 4, 5, 6] (plC_1 cI cZ cII qb qb_pull qb_strength qb_back qb_moods qb_tides qb_carts b_law b_places b_broad b_horses b_blinds b_besides b_tideCount b_cartCount b_due b_pairs b_pull b_strength b_back b_moods b_tides b_carts) rfl (plF_1 cI cZ cII qb qb_pull qb_strength qb_back qb_moods qb_tides qb_carts b_law b_places b_broad b_horses b_blinds b_besides b_tideCount b_cartCount b_due b_pairs b_pull b_strength b_back b_moods b_tides b_carts b_law b_places b_broad b_horses b_blinds b_besides b_tideCount b_cartCount b_due b_pairs b_pull b_strength b_back b_moods b_tides b_carts) (by decide) rfl hl.1 rfl (Nat.le_of_ble_eq_true rfl) dX0_hasPair_2 ⟨Nat.zero_le _, Nat.zero_le _⟩ (fun H locs hP hD hS => ?_)
  refine lv_if_eq (tgt := 38) hx hb dX0_hasPair_5 (by decide) (fun h9 => ?_) (fun h9 => ?_)
  · have hf := pg_t h9 hf
    refine lv_iconst (v := (0 : Int32)) hx hb dX0_hasPair_38 (by decide) ?_
    exact RET _ _ _ _ _ dX0_hasPair_39 (by decide) hP hD hS hf
  · have hf := pg_f h9 hf
    refine lv_aload_n hx hb dX0_hasPair_8 rfl (lv_at hl 0 rfl) ?_
    refine lv_iload_n hx hb dX0_hasPair_9 rfl (lv_at hl 2 rfl) ?_
    obtain ⟨r_2, hc, hf⟩ := bn1_s hf
    refine pg_cVi (As := [.int n2]) (rest := []) (wf := (W_X0b cI cZ cII qb qb_pull qb_strength qb_back qb_moods qb_tides qb_carts b_law b_places b_broad b_horses b_blinds b_besides b_tideCount b_cartCount b_due b_pairs b_pull b_strength b_back b_moods b_tides b_carts)) ⟨hx, hb, hml, hown, hw⟩ (c_X0_hasHorse l dC dI cI cZ cII qb qb_pull qb_strength qb_back qb_moods qb_tides qb_carts H.size b_law b_places b_broad b_horses b_blinds b_besides b_tideCount b_cartCount b_due b_pairs b_pull b_strength b_back b_moods b_tides b_carts n2 r_2 hc) (cwV 1 hts (wM_V mw_15_5 mw_15_6 mw_15_7 mw_1_15 mw_15_8) rfl rfl rfl dk_X0_hasHorse ⟨Nat.le_of_ble_eq_true rfl, Nat.le_of_ble_eq_true rfl⟩) hK hP hD hS hA 0 0 rfl rfl rfl [0, 1, 2, 3, 4, 5, 6] [] [0, 1, 2, 3, 4, 5, 6] (plC_1 cI cZ cII qb qb_pull qb_strength qb_back qb_moods qb_tides qb_carts b_law b_places b_broad b_horses b_blinds b_besides b_tideCount b_cartCount b_due b_pairs b_pull b_strength b_back b_moods b_tides b_carts) rfl (plF_1 cI cZ cII qb qb_pull qb_strength qb_back qb_moods qb_tides qb_carts b_law b_places b_broad b_horses b_blinds b_besides b_tideCount b_cartCount b_due b_pairs b_pull b_strength b_back b_moods b_tides b_carts b_law b_places b_broad b_horses b_blinds b_besides b_tideCount b_cartCount b_due b_pairs b_pull b_strength b_back b_moods b_tides b_carts) (by decide) rfl hl.1 rfl (Nat.le_of_ble_eq_true rfl) dX0_hasPair_10 ⟨Nat.zero_le _, Nat.zero_le _⟩ (fun H locs hP hD hS => ?_)
    refine lv_if_eq (tgt := 38) hx hb dX0_hasPair_13 (by decide) (fun h9 => ?_) (fun h9 => ?_)
    · have hf := pg_t h9 hf
      refine lv_iconst (v := (0 : Int32)) hx hb dX0_hasPair_38 (by decide) ?_
      exact RET _ _ _ _ _ dX0_hasPair_39 (by decide) hP hD hS hf
    · have hf := pg_f h9 hf
      refine lv_aload_n hx hb dX0_hasPair_16 rfl (lv_at hl 0 rfl) ?_
      refine va_get (D := (dC, dI)) (ci := 0) (v := .long b_pairs) (C := RX0) (T := TX0) (N := 16) hx hb hw inlX0 hown hK hP 0 rfl rfl 9 (by decide) (hw _ mw_9_4) (fun _ h9 => h9) rfl dX0_hasPair_17 ?_
      refine lv_iload_n hx hb dX0_hasPair_20 rfl (lv_at hl 1 rfl) ?_
      refine lv_bipush (v := (6 : Int32)) hx hb dX0_hasPair_21 (by decide) ?_
      refine lv_imul hx hb dX0_hasPair_23 ?_
      refine lv_iload_n hx hb dX0_hasPair_24 rfl (lv_at hl 2 rfl) ?_
      refine lv_iadd hx hb dX0_hasPair_25 ?_
      refine lv_lshr hx hb dX0_hasPair_26 rfl ?_
      refine lv_lconst (v := (1 : Int64)) hx hb dX0_hasPair_27 (by decide) ?_
      refine lv_land hx hb dX0_hasPair_28 ?_
      refine lv_lconst (v := (0 : Int64)) hx hb dX0_hasPair_29 (by decide) ?_
      refine W.lcmp hx hb dX0_hasPair_30 ?_
      refine lv_if_eq (tgt := 38) hx hb dX0_hasPair_31 (by decide) (fun h9 => ?_) (fun h9 => ?_)
      · have hf := pg_t h9 hf
        refine lv_iconst (v := (0 : Int32)) hx hb dX0_hasPair_38 (by decide) ?_
        exact RET _ _ _ _ _ dX0_hasPair_39 (by decide) hP hD hS hf
      · have hf := pg_f h9 hf
        refine lv_iconst (v := (1 : Int32)) hx hb dX0_hasPair_34 (by decide) ?_
        refine lv_goto (tgt := 39) hx hb dX0_hasPair_35 (by decide) ?_
        exact RET _ _ _ _ _ dX0_hasPair_39 (by decide) hP hD hS hf
def f_X0_pullBetween (n1 : Int32) (n2 : Int32) (n3 : Int32) (n4 : Int32) (b_horses : Int32) (b_blinds : Int32) (b_pull : Nat → Int32) (b_moods : Nat → Int32) : Option (Int32) :=
  bn1 (f_X0_hasHorse n1 b_horses) (fun (r_1 : Int32) =>
    if r_1 = 0 then
      some ((0 : Int32))
    else
      jn1 (fun (z0_2 : Int32) =>
        bn1 (f_X0_isBlind n1 b_blinds) (fun (r_3 : Int32) =>
          if r_3 = 0 then
            bn1 (f_X0_mood n1 n3 b_moods) (fun (r_4 : Int32) =>
              bn1 (f_X0_mood n1 n4 b_moods) (fun (r_5 : Int32) =>
                some ((if (0 : Int32) < ((z0_2 + r_4) + r_5) then ((z0_2 + r_4) + r_5) else (0 : Int32)))
              )
            )
          else
            some (z0_2)
        )
      ) (fun J24_2 =>
      if n2 = 0 then
        if n1 < 0 ∨ 6 ≤ (n1).toNatClampNeg then none else
        J24_2 (b_pull (n1).toNatClampNeg)
      else
        J24_2 n2
      )
  )
abbrev rm_X0_pullBetween : Room := { frames := 1, cells := 0, slots := 0, locals := 40 }
theorem dk_X0_pullBetween : yX0_pullBetween.cls = RX0 ∧ yX0_pullBetween.cls ≠ "java/lang/invoke/MethodHandle" ∧ yX0_pullBetween.cls ≠ "java/lang/invoke/VarHandle" ∧ (parseMethodDescriptor yX0_pullBetween.desc).map (fun d => d.parameters.length) = some 4 := by decide +kernel
set_option maxHeartbeats 4000000 in
set_option maxRecDepth 100000 in
theorem c_X0_pullBetween (l : Launch) (dC : Nat → ClassId) (dI : Nat → Nat → Nat) (cI cZ cII : ClassId) (qb qb_pull qb_strength qb_back qb_moods qb_tides qb_carts : Nat) (sz : Nat) (b_law : Int32) (b_places : Int32) (b_broad : Int32) (b_horses : Int32) (b_blinds : Int32) (b_besides : Int32) (b_tideCount : Int32) (b_cartCount : Int32) (b_due : Int32) (b_pairs : Int64) (b_pull : Nat → Int32) (b_strength : Nat → Int32) (b_back : Nat → Int32) (b_moods : Nat → Int32) (b_tides : Nat → Int32) (b_carts : Nat → Int32) (n1 : Int32) (n2 : Int32) (n3 : Int32) (n4 : Int32) (rr : Int32) (hf : f_X0_pullBetween n1 n2 n3 n4 b_horses b_blinds b_pull b_moods = some (rr)) : Met l yX0_pullBetween (wM yX0_pullBetween cX0_pullBetween 6 (some .int)) rm_X0_pullBetween (PreW (dC, dI) (tyA cI cZ cII) (W_X0b cI cZ cII qb qb_pull qb_strength qb_back qb_moods qb_tides qb_carts b_law b_places b_broad b_horses b_blinds b_besides b_tideCount b_cartCount b_due b_pairs b_pull b_strength b_back b_moods b_tides b_carts) sz [.ref qb, .int n1, .int n2, .int n3, .int n4]) (PostI (dC, dI) (tyA cI cZ cII) rr (W_X0b cI cZ cII qb qb_pull qb_strength qb_back qb_moods qb_tides qb_carts b_law b_places b_broad b_horses b_blinds b_besides b_tideCount b_cartCount b_due b_pairs b_pull b_strength b_back b_moods b_tides b_carts) (W_X0b cI cZ cII qb qb_pull qb_strength qb_back qb_moods qb_tides qb_carts b_law b_places b_broad b_horses b_blinds b_besides b_tideCount b_cartCount b_due b_pairs b_pull b_strength b_back b_moods b_tides b_carts) sz) 0 0 (va_A (W_X0b cI cZ cII qb qb_pull qb_strength qb_back qb_moods qb_tides qb_carts b_law b_places b_broad b_horses b_blinds b_besides b_tideCount b_cartCount b_due b_pairs b_pull b_strength b_back b_moods b_tides b_carts) sz) := by
  refine Met.ofW (cc := cX0_pullBetween) (maxL := 6) (ret := (some .int)) (by decide) rfl ?_
  intro p e s m args below meth c s₁ B hml hv
  obtain ⟨rfl, hsz, hP, hK, hD0⟩ := hv
  have hx := B.exec
  have hb := B.bytes
  have hr := B.returns
  have hts := atoms_spec (ws := wM yX0_pullBetween cX0_pullBetween 6 (some .int)) B.pre
  have hown : s.vm.findClass RX0 = some m.cls := findClass_of_methodNamed B.named
  have hlocks := B.notSynchronized
  subst hsz
  have hD := hD0.self (sz := s.heap.size)
  obtain ⟨A, hAe⟩ : ∃ A, A = va_A (W_X0b cI cZ cII qb qb_pull qb_strength qb_back qb_moods qb_tides qb_carts b_law b_places b_broad b_horses b_blinds b_besides b_tideCount b_cartCount b_due b_pairs b_pull b_strength b_back b_moods b_tides b_carts) s.heap.size := ⟨_, rfl⟩
  rw [← hAe] at hD
  have hA : ∀ q : Nat, s.heap.size ≤ q → A q := fun q h => by rw [hAe]; exact Or.inr h
  have hS : va_S A s.heap s.heap [] := va_S.rf
  have hl := lv_entry ([.ref qb, .int n1, .int n2, .int n3, .int n4]) (n := 6) (Nat.le_of_ble_eq_true rfl)
  rw [lg_entry_eq]
  generalize (lg_sl ([.ref qb, .int n1, .int n2, .int n3, .int n4]) ++ List.replicate (6 - (lg_sl ([.ref qb, .int n1, .int n2, .int n3, .int n4])).length) Slot.unset).toArray = ls at hl ⊢
  have hl : lv_has ls 6 [(0, .ref qb), (1, .int n1), (2, .int n2), (3, .int n3), (4, .int n4)] := hl
  generalize ([.ref qb, .int n1, .int n2, .int n3, .int n4] : List Value).toArray = args at hts ⊢
  have hw : ∀ w ∈ wsL_law, w.before args s = true := fun w h => hts w (List.mem_cons_of_mem _ h)
  refine pg_start (fun Q hQ => ?_)
  have RET : ∀ (H : Heap) (locs : List Loc) (ls : Array Slot) (pc : Nat) (v : Int32) , decode cX0_pullBetween pc = .ok (.ireturn, 1) → va_P (dC, dI) vwCl (W_X0b cI cZ cII qb qb_pull qb_strength qb_back qb_moods qb_tides qb_carts b_law b_places b_broad b_horses b_blinds b_besides b_tideCount b_cartCount b_due b_pairs b_pull b_strength b_back b_moods b_tides b_carts) H → va_D A (W_X0b cI cZ cII qb qb_pull qb_strength qb_back qb_moods qb_tides qb_carts b_law b_places b_broad b_horses b_blinds b_besides b_tideCount b_cartCount b_due b_pairs b_pull b_strength b_back b_moods b_tides b_carts) → va_S A s.heap H locs → (some (v) : Option (Int32)) = some (rr) → W p l e rm_X0_pullBetween s m args below meth c H locs 0 0 Q (F0 m pc ls [.int v]) := by
    intro H locs ls pc v hd hP hD hS he
    subst hAe; subst hQ
    obtain rfl := Option.some.inj he
    exact pg_iret hx hb hr hlocks hK hP hD hS hd
  unfold f_X0_pullBetween at hf
  refine lv_aload_n hx hb dX0_pullBetween_0 rfl (lv_at hl 0 rfl) ?_
  refine lv_iload_n hx hb dX0_pullBetween_1 rfl (lv_at hl 1 rfl) ?_
  obtain ⟨r_1, hc, hf⟩ := bn1_s hf
  refine pg_cVi (As := [.int n1]) (rest := []) (wf := (W_X0b cI cZ cII qb qb_pull qb_strength qb_back qb_moods qb_tides qb_carts b_law b_places b_broad b_horses b_blinds b_besides b_tideCount b_cartCount b_due b_pairs b_pull b_strength b_back b_moods b_tides b_carts)) ⟨hx, hb, hml, hown, hw⟩ (c_X0_hasHorse l dC dI cI cZ cII qb qb_pull qb_strength qb_back qb_moods qb_tides qb_carts s.heap.size b_law b_places b_broad b_horses b_blinds b_besides b_tideCount b_cartCount b_due b_pairs b_pull b_strength b_back b_moods b_tides b_carts n1 r_1 hc) (cwV 1 hts (wM_V mw_15_5 mw_15_6 mw_15_7 mw_1_15 mw_15_8) rfl rfl rfl dk_X0_hasHorse ⟨Nat.le_of_ble_eq_true rfl, Nat.le_of_ble_eq_true rfl⟩) hK hP hD hS hA 0 0 rfl rfl rfl [0, 1, 2, 3, 4, 5, 6] [] [0, 1, 2, 3, 4, 5, 6] (plC_1 cI cZ cII qb qb_pull qb_strength qb_back qb_moods qb_tides qb_carts b_law b_places b_broad b_horses b_blinds b_besides b_tideCount b_cartCount b_due b_pairs b_pull b_strength b_back b_moods b_tides b_carts) rfl (plF_1 cI cZ cII qb qb_pull qb_strength qb_back qb_moods qb_tides qb_carts b_law b_places b_broad b_horses b_blinds b_besides b_tideCount b_cartCount b_due b_pairs b_pull b_strength b_back b_moods b_tides b_carts b_law b_places b_broad b_horses b_blinds b_besides b_tideCount b_cartCount b_due b_pairs b_pull b_strength b_back b_moods b_tides b_carts) (by decide) rfl hl.1 rfl (Nat.le_of_ble_eq_true rfl) dX0_pullBetween_2 ⟨Nat.zero_le _, Nat.zero_le _⟩ (fun H locs hP hD hS => ?_)
  refine lv_if_ne (tgt := 10) hx hb dX0_pullBetween_5 (by decide) (fun h9 => ?_) (fun h9 => ?_)
  · have hf := pg_f h9 hf
    refine lv_iload_n hx hb dX0_pullBetween_10 rfl (lv_at hl 2 rfl) ?_
    obtain ⟨J24_2, hJ24_2, hf⟩ := jn1_s hf
    have WJ24_2 : ∀ (z0_2 : Int32) (H : Heap) (locs : List Loc) (ls : Array Slot), va_P (dC, dI) vwCl (W_X0b cI cZ cII qb qb_pull qb_strength qb_back qb_moods qb_tides qb_carts b_law b_places b_broad b_horses b_blinds b_besides b_tideCount b_cartCount b_due b_pairs b_pull b_strength b_back b_moods b_tides b_carts) H → va_D A (W_X0b cI cZ cII qb qb_pull qb_strength qb_back qb_moods qb_tides qb_carts b_law b_places b_broad b_horses b_blinds b_besides b_tideCount b_cartCount b_due b_pairs b_pull b_strength b_back b_moods b_tides b_carts) → va_S A s.heap H locs → lv_has ls 6 [(0, .ref qb), (1, .int n1), (3, .int n3), (4, .int n4)] → J24_2 z0_2 = some (rr) → W p l e rm_X0_pullBetween s m args below meth c H locs 0 0 Q (F0 m 24 ls [.int z0_2]) := by
      intro z0_2 H locs ls hP hD hS hl hf
      have hf := hJ24_2 _ hf
      refine lv_istore (lv' := [(5, .int z0_2), (0, .ref qb), (1, .int n1), (3, .int n3), (4, .int n4)]) hx hb dX0_pullBetween_24 hl (by decide) rfl (fun ls hl => ?_)
      refine lv_aload_n hx hb dX0_pullBetween_26 rfl (lv_at hl 1 rfl) ?_
      refine lv_iload_n hx hb dX0_pullBetween_27 rfl (lv_at hl 2 rfl) ?_
      obtain ⟨r_3, hc, hf⟩ := bn1_s hf
      refine pg_cVi (As := [.int n1]) (rest := []) (wf := (W_X0b cI cZ cII qb qb_pull qb_strength qb_back qb_moods qb_tides qb_carts b_law b_places b_broad b_horses b_blinds b_besides b_tideCount b_cartCount b_due b_pairs b_pull b_strength b_back b_moods b_tides b_carts)) ⟨hx, hb, hml, hown, hw⟩ (c_X0_isBlind l dC dI cI cZ cII qb qb_pull qb_strength qb_back qb_moods qb_tides qb_carts H.size b_law b_places b_broad b_horses b_blinds b_besides b_tideCount b_cartCount b_due b_pairs b_pull b_strength b_back b_moods b_tides b_carts n1 r_3 hc) (cwV 1 hts (wM_V mw_18_3 mw_14_18 mw_14_19 mw_1_15 mw_14_20) rfl rfl rfl dk_X0_isBlind ⟨Nat.le_of_ble_eq_true rfl, Nat.le_of_ble_eq_true rfl⟩) hK hP hD hS hA 0 0 rfl rfl rfl [0, 1, 2, 3, 4, 5, 6] [] [0, 1, 2, 3, 4, 5, 6] (plC_1 cI cZ cII qb qb_pull qb_strength qb_back qb_moods qb_tides qb_carts b_law b_places b_broad b_horses b_blinds b_besides b_tideCount b_cartCount b_due b_pairs b_pull b_strength b_back b_moods b_tides b_carts) rfl (plF_1 cI cZ cII qb qb_pull qb_strength qb_back qb_moods qb_tides qb_carts b_law b_places b_broad b_horses b_blinds b_besides b_tideCount b_cartCount b_due b_pairs b_pull b_strength b_back b_moods b_tides b_carts b_law b_places b_broad b_horses b_blinds b_besides b_tideCount b_cartCount b_due b_pairs b_pull b_strength b_back b_moods b_tides b_carts) (by decide) rfl hl.1 rfl (Nat.le_of_ble_eq_true rfl) dX0_pullBetween_28 ⟨Nat.zero_le _, Nat.zero_le _⟩ (fun H locs hP hD hS => ?_)
      refine lv_if_eq (tgt := 39) hx hb dX0_pullBetween_31 (by decide) (fun h9 => ?_) (fun h9 => ?_)
      · have hf := pg_t h9 hf
        refine lv_iconst (v := (0 : Int32)) hx hb dX0_pullBetween_39 (by decide) ?_
        refine lv_iload hx hb dX0_pullBetween_40 (lv_at hl 0 rfl) ?_
        refine lv_aload_n hx hb dX0_pullBetween_42 rfl (lv_at hl 1 rfl) ?_
        refine lv_iload_n hx hb dX0_pullBetween_43 rfl (lv_at hl 2 rfl) ?_
        refine lv_iload_n hx hb dX0_pullBetween_44 rfl (lv_at hl 3 rfl) ?_
        obtain ⟨r_4, hc, hf⟩ := bn1_s hf
        refine pg_cVi (As := [.int n1, .int n3]) (rest := [.int z0_2, .int (0 : Int32)]) (wf := (W_X0b cI cZ cII qb qb_pull qb_strength qb_back qb_moods qb_tides qb_carts b_law b_places b_broad b_horses b_blinds b_besides b_tideCount b_cartCount b_due b_pairs b_pull b_strength b_back b_moods b_tides b_carts)) ⟨hx, hb, hml, hown, hw⟩ (c_X0_mood l dC dI cI cZ cII qb qb_pull qb_strength qb_back qb_moods qb_tides qb_carts H.size b_law b_places b_broad b_horses b_blinds b_besides b_tideCount b_cartCount b_due b_pairs b_pull b_strength b_back b_moods b_tides b_carts n1 n3 r_4 hc) (cwV 2 hts (wM_V mw_18_4 mw_18_5 mw_18_6 mw_1_15 mw_18_7) rfl rfl rfl dk_X0_mood ⟨Nat.le_of_ble_eq_true rfl, Nat.le_of_ble_eq_true rfl⟩) hK hP hD hS hA 0 0 rfl rfl rfl [0, 1, 2, 3, 4, 5, 6] [] [0, 1, 2, 3, 4, 5, 6] (plC_1 cI cZ cII qb qb_pull qb_strength qb_back qb_moods qb_tides qb_carts b_law b_places b_broad b_horses b_blinds b_besides b_tideCount b_cartCount b_due b_pairs b_pull b_strength b_back b_moods b_tides b_carts) rfl (plF_1 cI cZ cII qb qb_pull qb_strength qb_back qb_moods qb_tides qb_carts b_law b_places b_broad b_horses b_blinds b_besides b_tideCount b_cartCount b_due b_pairs b_pull b_strength b_back b_moods b_tides b_carts b_law b_places b_broad b_horses b_blinds b_besides b_tideCount b_cartCount b_due b_pairs b_pull b_strength b_back b_moods b_tides b_carts) (by decide) rfl hl.1 rfl (Nat.le_of_ble_eq_true rfl) dX0_pullBetween_45 ⟨Nat.zero_le _, Nat.zero_le _⟩ (fun H locs hP hD hS => ?_)
        refine lv_iadd hx hb dX0_pullBetween_48 ?_
        refine lv_aload_n hx hb dX0_pullBetween_49 rfl (lv_at hl 1 rfl) ?_
        refine lv_iload_n hx hb dX0_pullBetween_50 rfl (lv_at hl 2 rfl) ?_
        refine lv_iload hx hb dX0_pullBetween_51 (lv_at hl 4 rfl) ?_
        obtain ⟨r_5, hc, hf⟩ := bn1_s hf
        refine pg_cVi (As := [.int n1, .int n4]) (rest := [.int (z0_2 + r_4), .int (0 : Int32)]) (wf := (W_X0b cI cZ cII qb qb_pull qb_strength qb_back qb_moods qb_tides qb_carts b_law b_places b_broad b_horses b_blinds b_besides b_tideCount b_cartCount b_due b_pairs b_pull b_strength b_back b_moods b_tides b_carts)) ⟨hx, hb, hml, hown, hw⟩ (c_X0_mood l dC dI cI cZ cII qb qb_pull qb_strength qb_back qb_moods qb_tides qb_carts H.size b_law b_places b_broad b_horses b_blinds b_besides b_tideCount b_cartCount b_due b_pairs b_pull b_strength b_back b_moods b_tides b_carts n1 n4 r_5 hc) (cwV 2 hts (wM_V mw_18_4 mw_18_5 mw_18_6 mw_1_15 mw_18_7) rfl rfl rfl dk_X0_mood ⟨Nat.le_of_ble_eq_true rfl, Nat.le_of_ble_eq_true rfl⟩) hK hP hD hS hA 0 0 rfl rfl rfl [0, 1, 2, 3, 4, 5, 6] [] [0, 1, 2, 3, 4, 5, 6] (plC_1 cI cZ cII qb qb_pull qb_strength qb_back qb_moods qb_tides qb_carts b_law b_places b_broad b_horses b_blinds b_besides b_tideCount b_cartCount b_due b_pairs b_pull b_strength b_back b_moods b_tides b_carts) rfl (plF_1 cI cZ cII qb qb_pull qb_strength qb_back qb_moods qb_tides qb_carts b_law b_places b_broad b_horses b_blinds b_besides b_tideCount b_cartCount b_due b_pairs b_pull b_strength b_back b_moods b_tides b_carts b_law b_places b_broad b_horses b_blinds b_besides b_tideCount b_cartCount b_due b_pairs b_pull b_strength b_back b_moods b_tides b_carts) (by decide) rfl hl.1 rfl (Nat.le_of_ble_eq_true rfl) dX0_pullBetween_53 ⟨Nat.zero_le _, Nat.zero_le _⟩ (fun H locs hP hD hS => ?_)
        refine lv_iadd hx hb dX0_pullBetween_56 ?_
        refine va_mmax hx hb (hml.trans hl.1.symm) hown (hw _ mw_17_23) (hw _ mw_18_0) (hw _ mw_18_1) (hw _ mw_18_2) (Nat.le_of_ble_eq_true rfl) (Nat.le_of_ble_eq_true rfl) (Nat.zero_le _) (Nat.zero_le _) dX0_pullBetween_57 ?_
        exact RET _ _ _ _ _ dX0_pullBetween_60 hP hD hS hf
      · have hf := pg_f h9 hf
        refine lv_iload hx hb dX0_pullBetween_34 (lv_at hl 0 rfl) ?_
        refine lv_goto (tgt := 60) hx hb dX0_pullBetween_36 (by decide) ?_
        exact RET _ _ _ _ _ dX0_pullBetween_60 hP hD hS hf
    refine lv_if_ne (tgt := 23) hx hb dX0_pullBetween_11 (by decide) (fun h9 => ?_) (fun h9 => ?_)
    · have hf := pg_f h9 hf
      refine lv_iload_n hx hb dX0_pullBetween_23 rfl (lv_at hl 2 rfl) ?_
      exact WJ24_2 _ _ _ _ hP hD hS (lv_sub hl [0, 1, 3, 4] rfl) hf
    · have hf := pg_t h9 hf
      refine lv_aload_n hx hb dX0_pullBetween_14 rfl (lv_at hl 0 rfl) ?_
      refine va_get (D := (dC, dI)) (ci := 0) (v := .ref qb_pull) (C := RX0) (T := TX0) (N := 16) hx hb hw inlX0 hown hK hP 0 rfl rfl 10 (by decide) (hw _ mw_3_4) (fun _ h9 => h9) rfl dX0_pullBetween_15 ?_
      refine lv_iload_n hx hb dX0_pullBetween_18 rfl (lv_at hl 1 rfl) ?_
      obtain ⟨hi6, hf⟩ := pg_chk hf
      refine va_iald hx hb hK hP 1 0 rfl rfl hi6 dX0_pullBetween_19 ?_
      refine lv_goto (tgt := 24) hx hb dX0_pullBetween_20 (by decide) ?_
      exact WJ24_2 _ _ _ _ hP hD hS (lv_sub hl [0, 1, 3, 4] rfl) hf
  · have hf := pg_t h9 hf
    refine lv_iconst (v := (0 : Int32)) hx hb dX0_pullBetween_8 (by decide) ?_
    exact RET _ _ _ _ _ dX0_pullBetween_9 hP hD hS hf
def f_X0_refresh (n2 : Int32) (b_horses : Int32) (b_strength : Nat → Int32) (b_back : Nat → Int32) (u : Nat → Int32) (v : Nat → Int32) : Option ((Nat → Int32)) :=
  jn1 (fun (v_1 : Nat → Int32) =>
    some (v_1)
  ) (fun K53_1 =>
  lq2 (fun rec2 (y4_2 : Int32) (v_2 : Nat → Int32) =>
    if b_horses ≤ y4_2 then
      K53_1 v_2
    else
      if (6 : Int32) ≤ y4_2 then
        K53_1 v_2
      else
        if y4_2 < 0 ∨ 6 ≤ (y4_2).toNatClampNeg then none else
        rec2 (y4_2 + (1 : Int32)) (upd v_2 (y4_2).toNatClampNeg (if ((u (y4_2).toNatClampNeg) + ((b_back (y4_2).toNatClampNeg) * n2)) < (b_strength (y4_2).toNatClampNeg) then ((u (y4_2).toNatClampNeg) + ((b_back (y4_2).toNatClampNeg) * n2)) else (b_strength (y4_2).toNatClampNeg)))
  ) fu (0 : Int32) v
  )
abbrev rm_X0_refresh : Room := { frames := 1, cells := 0, slots := 0, locals := 40 }
theorem dk_X0_refresh : yX0_refresh.cls = RX0 ∧ yX0_refresh.cls ≠ "java/lang/invoke/MethodHandle" ∧ yX0_refresh.cls ≠ "java/lang/invoke/VarHandle" ∧ (parseMethodDescriptor yX0_refresh.desc).map (fun d => d.parameters.length) = some 3 := by decide +kernel
set_option maxHeartbeats 4000000 in
set_option maxRecDepth 100000 in
theorem c_X0_refresh (l : Launch) (dC : Nat → ClassId) (dI : Nat → Nat → Nat) (cI cZ cII : ClassId) (qb qb_pull qb_strength qb_back qb_moods qb_tides qb_carts qu qv : Nat) (sz : Nat) (b_law : Int32) (b_places : Int32) (b_broad : Int32) (b_horses : Int32) (b_blinds : Int32) (b_besides : Int32) (b_tideCount : Int32) (b_cartCount : Int32) (b_due : Int32) (b_pairs : Int64) (b_pull : Nat → Int32) (b_strength : Nat → Int32) (b_back : Nat → Int32) (b_moods : Nat → Int32) (b_tides : Nat → Int32) (b_carts : Nat → Int32) (u : Nat → Int32) (v : Nat → Int32) (n2 : Int32) (v' : Nat → Int32) (hf : f_X0_refresh n2 b_horses b_strength b_back u v = some (v')) : Met l yX0_refresh (wM yX0_refresh cX0_refresh 5 none) rm_X0_refresh (PreW (dC, dI) (tyA cI cZ cII) (W_X0b_au6_av6 cI cZ cII qb qb_pull qb_strength qb_back qb_moods qb_tides qb_carts qu qv b_law b_places b_broad b_horses b_blinds b_besides b_tideCount b_cartCount b_due b_pairs b_pull b_strength b_back b_moods b_tides b_carts u v) sz [.ref qb, .ref qu, .int n2, .ref qv]) (PostV (dC, dI) (tyA cI cZ cII) (W_X0b_au6_av6 cI cZ cII qb qb_pull qb_strength qb_back qb_moods qb_tides qb_carts qu qv b_law b_places b_broad b_horses b_blinds b_besides b_tideCount b_cartCount b_due b_pairs b_pull b_strength b_back b_moods b_tides b_carts u v) (W_X0b_au6_av6 cI cZ cII qb qb_pull qb_strength qb_back qb_moods qb_tides qb_carts qu qv b_law b_places b_broad b_horses b_blinds b_besides b_tideCount b_cartCount b_due b_pairs b_pull b_strength b_back b_moods b_tides b_carts u v') sz) 0 0 (va_A (W_X0b_au6_av6 cI cZ cII qb qb_pull qb_strength qb_back qb_moods qb_tides qb_carts qu qv b_law b_places b_broad b_horses b_blinds b_besides b_tideCount b_cartCount b_due b_pairs b_pull b_strength b_back b_moods b_tides b_carts u v) sz) := by
  refine Met.ofW (cc := cX0_refresh) (maxL := 5) (ret := none) (by decide) rfl ?_
  intro p e s m args below meth c s₁ B hml hv
  obtain ⟨rfl, hsz, hP, hK, hD0⟩ := hv
  have hx := B.exec
  have hb := B.bytes
  have hr := B.returns
  have hts := atoms_spec (ws := wM yX0_refresh cX0_refresh 5 none) B.pre
  have hown : s.vm.findClass RX0 = some m.cls := findClass_of_methodNamed B.named
  have hlocks := B.notSynchronized
  subst hsz
  have hD := hD0.self (sz := s.heap.size)
  obtain ⟨A, hAe⟩ : ∃ A, A = va_A (W_X0b_au6_av6 cI cZ cII qb qb_pull qb_strength qb_back qb_moods qb_tides qb_carts qu qv b_law b_places b_broad b_horses b_blinds b_besides b_tideCount b_cartCount b_due b_pairs b_pull b_strength b_back b_moods b_tides b_carts u v) s.heap.size := ⟨_, rfl⟩
  rw [← hAe] at hD
  have hA : ∀ q : Nat, s.heap.size ≤ q → A q := fun q h => by rw [hAe]; exact Or.inr h
  have hS : va_S A s.heap s.heap [] := va_S.rf
  have hl := lv_entry ([.ref qb, .ref qu, .int n2, .ref qv]) (n := 5) (Nat.le_of_ble_eq_true rfl)
  rw [lg_entry_eq]
  generalize (lg_sl ([.ref qb, .ref qu, .int n2, .ref qv]) ++ List.replicate (5 - (lg_sl ([.ref qb, .ref qu, .int n2, .ref qv])).length) Slot.unset).toArray = ls at hl ⊢
  have hl : lv_has ls 5 [(0, .ref qb), (1, .ref qu), (2, .int n2), (3, .ref qv)] := hl
  generalize ([.ref qb, .ref qu, .int n2, .ref qv] : List Value).toArray = args at hts ⊢
  have hw : ∀ w ∈ wsL_law, w.before args s = true := fun w h => hts w (List.mem_cons_of_mem _ h)
  refine pg_start (fun Q hQ => ?_)
  have RET : ∀ (H : Heap) (locs : List Loc) (ls : Array Slot) (pc : Nat) (x0 : Nat → Int32) , decode cX0_refresh pc = .ok (.return_, 1) → va_P (dC, dI) vwCl (W_X0b_au6_av6 cI cZ cII qb qb_pull qb_strength qb_back qb_moods qb_tides qb_carts qu qv b_law b_places b_broad b_horses b_blinds b_besides b_tideCount b_cartCount b_due b_pairs b_pull b_strength b_back b_moods b_tides b_carts u x0) H → va_D A (W_X0b_au6_av6 cI cZ cII qb qb_pull qb_strength qb_back qb_moods qb_tides qb_carts qu qv b_law b_places b_broad b_horses b_blinds b_besides b_tideCount b_cartCount b_due b_pairs b_pull b_strength b_back b_moods b_tides b_carts u x0) → va_S A s.heap H locs → (some (x0) : Option ((Nat → Int32))) = some (v') → W p l e rm_X0_refresh s m args below meth c H locs 0 0 Q (F0 m pc ls []) := by
    intro H locs ls pc x0 hd hP hD hS he
    subst hAe; subst hQ
    obtain rfl := Option.some.inj he
    exact pg_vret hx hb hr hlocks hK hP hD hS hd
  unfold f_X0_refresh at hf
  refine lv_iconst (v := (0 : Int32)) hx hb dX0_refresh_0 (by decide) ?_
  refine lv_istore (lv' := [(4, .int (0 : Int32)), (0, .ref qb), (1, .ref qu), (2, .int n2), (3, .ref qv)]) hx hb dX0_refresh_1 hl (by decide) rfl (fun ls hl => ?_)
  obtain ⟨K53_1, hK53_1, hf⟩ := jn1_s hf
  have WK53_1 : ∀ (v_1 : Nat → Int32) (H : Heap) (locs : List Loc) (ls : Array Slot), va_P (dC, dI) vwCl (W_X0b_au6_av6 cI cZ cII qb qb_pull qb_strength qb_back qb_moods qb_tides qb_carts qu qv b_law b_places b_broad b_horses b_blinds b_besides b_tideCount b_cartCount b_due b_pairs b_pull b_strength b_back b_moods b_tides b_carts u v_1) H → va_D A (W_X0b_au6_av6 cI cZ cII qb qb_pull qb_strength qb_back qb_moods qb_tides qb_carts qu qv b_law b_places b_broad b_horses b_blinds b_besides b_tideCount b_cartCount b_due b_pairs b_pull b_strength b_back b_moods b_tides b_carts u v_1) → va_S A s.heap H locs → lv_has ls 5 [] → K53_1 v_1 = some (v') → W p l e rm_X0_refresh s m args below meth c H locs 0 0 Q (F0 m 53 ls []) := by
    intro v_1 H locs ls hP hD hS hl hf
    have hf := hK53_1 _ hf
    exact RET _ _ _ _ _ dX0_refresh_53 hP hD hS hf
  obtain ⟨B2, hB2, hf⟩ := lq2_n hf
  have WL2 : ∀ (n9 : Nat) (y4_2 : Int32) (v_2 : Nat → Int32) (H : Heap) (locs : List Loc) (ls : Array Slot), va_P (dC, dI) vwCl (W_X0b_au6_av6 cI cZ cII qb qb_pull qb_strength qb_back qb_moods qb_tides qb_carts qu qv b_law b_places b_broad b_horses b_blinds b_besides b_tideCount b_cartCount b_due b_pairs b_pull b_strength b_back b_moods b_tides b_carts u v_2) H → va_D A (W_X0b_au6_av6 cI cZ cII qb qb_pull qb_strength qb_back qb_moods qb_tides qb_carts qu qv b_law b_places b_broad b_horses b_blinds b_besides b_tideCount b_cartCount b_due b_pairs b_pull b_strength b_back b_moods b_tides b_carts u v_2) → va_S A s.heap H locs → lv_has ls 5 [(0, .ref qb), (1, .ref qu), (2, .int n2), (3, .ref qv), (4, .int y4_2)] → lq2 B2 n9 y4_2 v_2 = some (v') → W p l e rm_X0_refresh s m args below meth c H locs 0 0 Q (F0 m 3 ls []) := by
    intro n9
    induction n9 with
    | zero => intro y4_2 v_2 H locs ls hP hD hS hl hf; cases hf
    | succ n9 ih =>
      intro y4_2 v_2 H locs ls hP hD hS hl hf
      obtain ⟨rec2, hrec2, hf⟩ := lq2_s hf
      have hf := hB2 rec2 _ _ hf
      refine lv_iload hx hb dX0_refresh_3 (lv_at hl 4 rfl) ?_
      refine lv_aload_n hx hb dX0_refresh_5 rfl (lv_at hl 0 rfl) ?_
      refine va_get (D := (dC, dI)) (ci := 0) (v := .int b_horses) (C := RX0) (T := TX0) (N := 16) hx hb hw inlX0 hown hK hP 0 rfl rfl 3 (by decide) (hw _ mw_8_22) (fun _ h9 => h9) rfl dX0_refresh_6 ?_
      refine lv_icmp_ge (tgt := 53) hx hb dX0_refresh_9 (by decide) (fun h9 => ?_) (fun h9 => ?_)
      · have hf := pg_t h9 hf
        exact WK53_1 _ _ _ _ hP hD hS (lv_sub hl [] rfl) hf
      · have hf := pg_f h9 hf
        refine lv_iload hx hb dX0_refresh_12 (lv_at hl 4 rfl) ?_
        refine lv_bipush (v := (6 : Int32)) hx hb dX0_refresh_14 (by decide) ?_
        refine lv_icmp_ge (tgt := 53) hx hb dX0_refresh_16 (by decide) (fun h9 => ?_) (fun h9 => ?_)
        · have hf := pg_t h9 hf
          exact WK53_1 _ _ _ _ hP hD hS (lv_sub hl [] rfl) hf
        · have hf := pg_f h9 hf
          refine lv_aload_n hx hb dX0_refresh_19 rfl (lv_at hl 3 rfl) ?_
          refine lv_iload hx hb dX0_refresh_20 (lv_at hl 4 rfl) ?_
          refine lv_aload_n hx hb dX0_refresh_22 rfl (lv_at hl 0 rfl) ?_
          refine va_get (D := (dC, dI)) (ci := 0) (v := .ref qb_strength) (C := RX0) (T := TX0) (N := 16) hx hb hw inlX0 hown hK hP 0 rfl rfl 11 (by decide) (hw _ mw_3_5) (fun _ h9 => h9) rfl dX0_refresh_23 ?_
          refine lv_iload hx hb dX0_refresh_26 (lv_at hl 4 rfl) ?_
          obtain ⟨hi3, hf⟩ := pg_chk hf
          refine va_iald hx hb hK hP 2 0 rfl rfl hi3 dX0_refresh_28 ?_
          refine lv_aload_n hx hb dX0_refresh_29 rfl (lv_at hl 1 rfl) ?_
          refine lv_iload hx hb dX0_refresh_30 (lv_at hl 4 rfl) ?_
          refine va_iald hx hb hK hP 7 0 rfl rfl hi3 dX0_refresh_32 ?_
          refine lv_aload_n hx hb dX0_refresh_33 rfl (lv_at hl 0 rfl) ?_
          refine va_get (D := (dC, dI)) (ci := 0) (v := .ref qb_back) (C := RX0) (T := TX0) (N := 16) hx hb hw inlX0 hown hK hP 0 rfl rfl 12 (by decide) (hw _ mw_3_6) (fun _ h9 => h9) rfl dX0_refresh_34 ?_
          refine lv_iload hx hb dX0_refresh_37 (lv_at hl 4 rfl) ?_
          refine va_iald hx hb hK hP 3 0 rfl rfl hi3 dX0_refresh_39 ?_
          refine lv_iload_n hx hb dX0_refresh_40 rfl (lv_at hl 2 rfl) ?_
          refine lv_imul hx hb dX0_refresh_41 ?_
          refine lv_iadd hx hb dX0_refresh_42 ?_
          refine va_mmin hx hb (hml.trans hl.1.symm) hown (hw _ mw_32_17) (hw _ mw_28_19) (hw _ mw_18_1) (hw _ mw_28_20) (Nat.le_of_ble_eq_true rfl) (Nat.le_of_ble_eq_true rfl) (Nat.zero_le _) (Nat.zero_le _) dX0_refresh_43 ?_
          refine va_iast hx hb hK hP hD hS 8 0 rfl rfl hi3 dX0_refresh_46 (fun H locs hP hD hS => ?_)
          have hP : va_P (dC, dI) vwCl (W_X0b_au6_av6 cI cZ cII qb qb_pull qb_strength qb_back qb_moods qb_tides qb_carts qu qv b_law b_places b_broad b_horses b_blinds b_besides b_tideCount b_cartCount b_due b_pairs b_pull b_strength b_back b_moods b_tides b_carts u (upd v_2 (y4_2).toNatClampNeg (if ((u (y4_2).toNatClampNeg) + ((b_back (y4_2).toNatClampNeg) * n2)) < (b_strength (y4_2).toNatClampNeg) then ((u (y4_2).toNatClampNeg) + ((b_back (y4_2).toNatClampNeg) * n2)) else (b_strength (y4_2).toNatClampNeg)))) H := hP
          have hD : va_D A (W_X0b_au6_av6 cI cZ cII qb qb_pull qb_strength qb_back qb_moods qb_tides qb_carts qu qv b_law b_places b_broad b_horses b_blinds b_besides b_tideCount b_cartCount b_due b_pairs b_pull b_strength b_back b_moods b_tides b_carts u (upd v_2 (y4_2).toNatClampNeg (if ((u (y4_2).toNatClampNeg) + ((b_back (y4_2).toNatClampNeg) * n2)) < (b_strength (y4_2).toNatClampNeg) then ((u (y4_2).toNatClampNeg) + ((b_back (y4_2).toNatClampNeg) * n2)) else (b_strength (y4_2).toNatClampNeg)))) := hD
          refine lv_iinc (v := (y4_2 + (1 : Int32))) (lv' := [(4, .int (y4_2 + (1 : Int32))), (0, .ref qb), (1, .ref qu), (2, .int n2), (3, .ref qv)]) hx hb dX0_refresh_47 hl (k := 4) rfl rfl (by decide) rfl (fun ls hl => ?_)
          refine lv_goto (tgt := 3) hx hb dX0_refresh_50 (by decide) ?_
          exact ih _ _ _ _ _ hP hD hS (lv_sub hl [1, 2, 3, 4, 0] rfl) (hrec2 _ _ hf)
  exact WL2 fu _ _ _ _ _ hP hD hS (lv_sub hl [1, 2, 3, 4, 0] rfl) hf
def f_X0_addHorse (n1 : Int32) (n2 : Int32) (n3 : Int32) (b_horses : Int32) (b_pull : Nat → Int32) (b_strength : Nat → Int32) (b_back : Nat → Int32) : Option (Int32 × (Nat → Int32) × (Nat → Int32) × (Nat → Int32)) :=
  if (6 : Int32) ≤ b_horses then
    some (b_horses, b_pull, b_strength, b_back)
  else
    if b_horses < 0 ∨ 6 ≤ (b_horses).toNatClampNeg then none else
    some ((b_horses + (1 : Int32)), (upd b_pull (b_horses).toNatClampNeg n1), (upd b_strength (b_horses).toNatClampNeg n2), (upd b_back (b_horses).toNatClampNeg n3))
abbrev rm_X0_addHorse : Room := { frames := 0, cells := 0, slots := 0, locals := 0 }
theorem dk_X0_addHorse : yX0_addHorse.cls = RX0 ∧ yX0_addHorse.cls ≠ "java/lang/invoke/MethodHandle" ∧ yX0_addHorse.cls ≠ "java/lang/invoke/VarHandle" ∧ (parseMethodDescriptor yX0_addHorse.desc).map (fun d => d.parameters.length) = some 3 := by decide +kernel
set_option maxHeartbeats 4000000 in
set_option maxRecDepth 100000 in
theorem c_X0_addHorse (l : Launch) (dC : Nat → ClassId) (dI : Nat → Nat → Nat) (cI cZ cII : ClassId) (qb qb_pull qb_strength qb_back qb_moods qb_tides qb_carts : Nat) (sz : Nat) (b_law : Int32) (b_places : Int32) (b_broad : Int32) (b_horses : Int32) (b_blinds : Int32) (b_besides : Int32) (b_tideCount : Int32) (b_cartCount : Int32) (b_due : Int32) (b_pairs : Int64) (b_pull : Nat → Int32) (b_strength : Nat → Int32) (b_back : Nat → Int32) (b_moods : Nat → Int32) (b_tides : Nat → Int32) (b_carts : Nat → Int32) (n1 : Int32) (n2 : Int32) (n3 : Int32) (b_horses' : Int32) (b_pull' : Nat → Int32) (b_strength' : Nat → Int32) (b_back' : Nat → Int32) (hf : f_X0_addHorse n1 n2 n3 b_horses b_pull b_strength b_back = some (b_horses', b_pull', b_strength', b_back')) : Met l yX0_addHorse (wM yX0_addHorse cX0_addHorse 4 none) rm_X0_addHorse (PreW (dC, dI) (tyA cI cZ cII) (W_X0b cI cZ cII qb qb_pull qb_strength qb_back qb_moods qb_tides qb_carts b_law b_places b_broad b_horses b_blinds b_besides b_tideCount b_cartCount b_due b_pairs b_pull b_strength b_back b_moods b_tides b_carts) sz [.ref qb, .int n1, .int n2, .int n3]) (PostV (dC, dI) (tyA cI cZ cII) (W_X0b cI cZ cII qb qb_pull qb_strength qb_back qb_moods qb_tides qb_carts b_law b_places b_broad b_horses b_blinds b_besides b_tideCount b_cartCount b_due b_pairs b_pull b_strength b_back b_moods b_tides b_carts) (W_X0b cI cZ cII qb qb_pull qb_strength qb_back qb_moods qb_tides qb_carts b_law b_places b_broad b_horses' b_blinds b_besides b_tideCount b_cartCount b_due b_pairs b_pull' b_strength' b_back' b_moods b_tides b_carts) sz) 0 0 (va_A (W_X0b cI cZ cII qb qb_pull qb_strength qb_back qb_moods qb_tides qb_carts b_law b_places b_broad b_horses b_blinds b_besides b_tideCount b_cartCount b_due b_pairs b_pull b_strength b_back b_moods b_tides b_carts) sz) := by
  refine Met.ofW (cc := cX0_addHorse) (maxL := 4) (ret := none) (by decide) rfl ?_
  intro p e s m args below meth c s₁ B hml hv
  obtain ⟨rfl, hsz, hP, hK, hD0⟩ := hv
  have hx := B.exec
  have hb := B.bytes
  have hr := B.returns
  have hts := atoms_spec (ws := wM yX0_addHorse cX0_addHorse 4 none) B.pre
  have hown : s.vm.findClass RX0 = some m.cls := findClass_of_methodNamed B.named
  have hlocks := B.notSynchronized
  subst hsz
  have hD := hD0.self (sz := s.heap.size)
  obtain ⟨A, hAe⟩ : ∃ A, A = va_A (W_X0b cI cZ cII qb qb_pull qb_strength qb_back qb_moods qb_tides qb_carts b_law b_places b_broad b_horses b_blinds b_besides b_tideCount b_cartCount b_due b_pairs b_pull b_strength b_back b_moods b_tides b_carts) s.heap.size := ⟨_, rfl⟩
  rw [← hAe] at hD
  have hA : ∀ q : Nat, s.heap.size ≤ q → A q := fun q h => by rw [hAe]; exact Or.inr h
  have hS : va_S A s.heap s.heap [] := va_S.rf
  have hl := lv_entry ([.ref qb, .int n1, .int n2, .int n3]) (n := 4) (Nat.le_of_ble_eq_true rfl)
  rw [lg_entry_eq]
  generalize (lg_sl ([.ref qb, .int n1, .int n2, .int n3]) ++ List.replicate (4 - (lg_sl ([.ref qb, .int n1, .int n2, .int n3])).length) Slot.unset).toArray = ls at hl ⊢
  have hl : lv_has ls 4 [(0, .ref qb), (1, .int n1), (2, .int n2), (3, .int n3)] := hl
  generalize ([.ref qb, .int n1, .int n2, .int n3] : List Value).toArray = args at hts ⊢
  have hw : ∀ w ∈ wsL_law, w.before args s = true := fun w h => hts w (List.mem_cons_of_mem _ h)
  refine pg_start (fun Q hQ => ?_)
  have RET : ∀ (H : Heap) (locs : List Loc) (ls : Array Slot) (pc : Nat) (x0 : Int32) (x1 : Nat → Int32) (x2 : Nat → Int32) (x3 : Nat → Int32) , decode cX0_addHorse pc = .ok (.return_, 1) → va_P (dC, dI) vwCl (W_X0b cI cZ cII qb qb_pull qb_strength qb_back qb_moods qb_tides qb_carts b_law b_places b_broad x0 b_blinds b_besides b_tideCount b_cartCount b_due b_pairs x1 x2 x3 b_moods b_tides b_carts) H → va_D A (W_X0b cI cZ cII qb qb_pull qb_strength qb_back qb_moods qb_tides qb_carts b_law b_places b_broad x0 b_blinds b_besides b_tideCount b_cartCount b_due b_pairs x1 x2 x3 b_moods b_tides b_carts) → va_S A s.heap H locs → (some (x0, x1, x2, x3) : Option (Int32 × (Nat → Int32) × (Nat → Int32) × (Nat → Int32))) = some (b_horses', b_pull', b_strength', b_back') → W p l e rm_X0_addHorse s m args below meth c H locs 0 0 Q (F0 m pc ls []) := by
    intro H locs ls pc x0 x1 x2 x3 hd hP hD hS he
    subst hAe; subst hQ
    simp only [Option.some.injEq, Prod.mk.injEq] at he
    obtain ⟨rfl, rfl, rfl, rfl⟩ := he
    exact pg_vret hx hb hr hlocks hK hP hD hS hd
  unfold f_X0_addHorse at hf
  refine lv_aload_n hx hb dX0_addHorse_0 rfl (lv_at hl 0 rfl) ?_
  refine va_get (D := (dC, dI)) (ci := 0) (v := .int b_horses) (C := RX0) (T := TX0) (N := 16) hx hb hw inlX0 hown hK hP 0 rfl rfl 3 (by decide) (hw _ mw_8_22) (fun _ h9 => h9) rfl dX0_addHorse_1 ?_
  refine lv_bipush (v := (6 : Int32)) hx hb dX0_addHorse_4 (by decide) ?_
  refine lv_icmp_ge (tgt := 49) hx hb dX0_addHorse_6 (by decide) (fun h9 => ?_) (fun h9 => ?_)
  · have hf := pg_t h9 hf
    exact RET _ _ _ _ _ _ _ _ dX0_addHorse_49 hP hD hS hf
  · have hf := pg_f h9 hf
    refine lv_aload_n hx hb dX0_addHorse_9 rfl (lv_at hl 0 rfl) ?_
    refine va_get (D := (dC, dI)) (ci := 0) (v := .ref qb_pull) (C := RX0) (T := TX0) (N := 16) hx hb hw inlX0 hown hK hP 0 rfl rfl 10 (by decide) (hw _ mw_3_4) (fun _ h9 => h9) rfl dX0_addHorse_10 ?_
    refine lv_aload_n hx hb dX0_addHorse_13 rfl (lv_at hl 0 rfl) ?_
    refine va_get (D := (dC, dI)) (ci := 0) (v := .int b_horses) (C := RX0) (T := TX0) (N := 16) hx hb hw inlX0 hown hK hP 0 rfl rfl 3 (by decide) (hw _ mw_8_22) (fun _ h9 => h9) rfl dX0_addHorse_14 ?_
    refine lv_iload_n hx hb dX0_addHorse_17 rfl (lv_at hl 1 rfl) ?_
    obtain ⟨hi1, hf⟩ := pg_chk hf
    refine va_iast hx hb hK hP hD hS 1 0 rfl rfl hi1 dX0_addHorse_18 (fun H locs hP hD hS => ?_)
    have hP : va_P (dC, dI) vwCl (W_X0b cI cZ cII qb qb_pull qb_strength qb_back qb_moods qb_tides qb_carts b_law b_places b_broad b_horses b_blinds b_besides b_tideCount b_cartCount b_due b_pairs (upd b_pull (b_horses).toNatClampNeg n1) b_strength b_back b_moods b_tides b_carts) H := hP
    have hD : va_D A (W_X0b cI cZ cII qb qb_pull qb_strength qb_back qb_moods qb_tides qb_carts b_law b_places b_broad b_horses b_blinds b_besides b_tideCount b_cartCount b_due b_pairs (upd b_pull (b_horses).toNatClampNeg n1) b_strength b_back b_moods b_tides b_carts) := hD
    refine lv_aload_n hx hb dX0_addHorse_19 rfl (lv_at hl 0 rfl) ?_
    refine va_get (D := (dC, dI)) (ci := 0) (v := .ref qb_strength) (C := RX0) (T := TX0) (N := 16) hx hb hw inlX0 hown hK hP 0 rfl rfl 11 (by decide) (hw _ mw_3_5) (fun _ h9 => h9) rfl dX0_addHorse_20 ?_
    refine lv_aload_n hx hb dX0_addHorse_23 rfl (lv_at hl 0 rfl) ?_
    refine va_get (D := (dC, dI)) (ci := 0) (v := .int b_horses) (C := RX0) (T := TX0) (N := 16) hx hb hw inlX0 hown hK hP 0 rfl rfl 3 (by decide) (hw _ mw_8_22) (fun _ h9 => h9) rfl dX0_addHorse_24 ?_
    refine lv_iload_n hx hb dX0_addHorse_27 rfl (lv_at hl 2 rfl) ?_
    refine va_iast hx hb hK hP hD hS 2 0 rfl rfl hi1 dX0_addHorse_28 (fun H locs hP hD hS => ?_)
    have hP : va_P (dC, dI) vwCl (W_X0b cI cZ cII qb qb_pull qb_strength qb_back qb_moods qb_tides qb_carts b_law b_places b_broad b_horses b_blinds b_besides b_tideCount b_cartCount b_due b_pairs (upd b_pull (b_horses).toNatClampNeg n1) (upd b_strength (b_horses).toNatClampNeg n2) b_back b_moods b_tides b_carts) H := hP
    have hD : va_D A (W_X0b cI cZ cII qb qb_pull qb_strength qb_back qb_moods qb_tides qb_carts b_law b_places b_broad b_horses b_blinds b_besides b_tideCount b_cartCount b_due b_pairs (upd b_pull (b_horses).toNatClampNeg n1) (upd b_strength (b_horses).toNatClampNeg n2) b_back b_moods b_tides b_carts) := hD
    refine lv_aload_n hx hb dX0_addHorse_29 rfl (lv_at hl 0 rfl) ?_
    refine va_get (D := (dC, dI)) (ci := 0) (v := .ref qb_back) (C := RX0) (T := TX0) (N := 16) hx hb hw inlX0 hown hK hP 0 rfl rfl 12 (by decide) (hw _ mw_3_6) (fun _ h9 => h9) rfl dX0_addHorse_30 ?_
    refine lv_aload_n hx hb dX0_addHorse_33 rfl (lv_at hl 0 rfl) ?_
    refine va_get (D := (dC, dI)) (ci := 0) (v := .int b_horses) (C := RX0) (T := TX0) (N := 16) hx hb hw inlX0 hown hK hP 0 rfl rfl 3 (by decide) (hw _ mw_8_22) (fun _ h9 => h9) rfl dX0_addHorse_34 ?_
    refine lv_iload_n hx hb dX0_addHorse_37 rfl (lv_at hl 3 rfl) ?_
    refine va_iast hx hb hK hP hD hS 3 0 rfl rfl hi1 dX0_addHorse_38 (fun H locs hP hD hS => ?_)
    have hP : va_P (dC, dI) vwCl (W_X0b cI cZ cII qb qb_pull qb_strength qb_back qb_moods qb_tides qb_carts b_law b_places b_broad b_horses b_blinds b_besides b_tideCount b_cartCount b_due b_pairs (upd b_pull (b_horses).toNatClampNeg n1) (upd b_strength (b_horses).toNatClampNeg n2) (upd b_back (b_horses).toNatClampNeg n3) b_moods b_tides b_carts) H := hP
    have hD : va_D A (W_X0b cI cZ cII qb qb_pull qb_strength qb_back qb_moods qb_tides qb_carts b_law b_places b_broad b_horses b_blinds b_besides b_tideCount b_cartCount b_due b_pairs (upd b_pull (b_horses).toNatClampNeg n1) (upd b_strength (b_horses).toNatClampNeg n2) (upd b_back (b_horses).toNatClampNeg n3) b_moods b_tides b_carts) := hD
    refine lv_aload_n hx hb dX0_addHorse_39 rfl (lv_at hl 0 rfl) ?_
    refine lv_dup hx hb dX0_addHorse_40 rfl ?_
    refine va_get (D := (dC, dI)) (ci := 0) (v := .int b_horses) (C := RX0) (T := TX0) (N := 16) hx hb hw inlX0 hown hK hP 0 rfl rfl 3 (by decide) (hw _ mw_8_22) (fun _ h9 => h9) rfl dX0_addHorse_41 ?_
    refine lv_iconst (v := (1 : Int32)) hx hb dX0_addHorse_44 (by decide) ?_
    refine lv_iadd hx hb dX0_addHorse_45 ?_
    refine va_put (D := (dC, dI)) (ci := 0) (v := .int (b_horses + (1 : Int32))) (ty := .int) (C := RX0) (T := TX0) (N := 16) hx hb hw inlX0 tyX0 tyX0_ok nmX0 hown hK hP hD hS 0 rfl rfl 3 (by decide) (hw _ mw_8_22) (fun _ h9 => h9) rfl (by decide +kernel) rfl rfl (Nat.le_of_ble_eq_true rfl) dX0_addHorse_46 (fun H locs hP hD hS => ?_)
    have hP : va_P (dC, dI) vwCl (W_X0b cI cZ cII qb qb_pull qb_strength qb_back qb_moods qb_tides qb_carts b_law b_places b_broad (b_horses + (1 : Int32)) b_blinds b_besides b_tideCount b_cartCount b_due b_pairs (upd b_pull (b_horses).toNatClampNeg n1) (upd b_strength (b_horses).toNatClampNeg n2) (upd b_back (b_horses).toNatClampNeg n3) b_moods b_tides b_carts) H := hP
    have hD : va_D A (W_X0b cI cZ cII qb qb_pull qb_strength qb_back qb_moods qb_tides qb_carts b_law b_places b_broad (b_horses + (1 : Int32)) b_blinds b_besides b_tideCount b_cartCount b_due b_pairs (upd b_pull (b_horses).toNatClampNeg n1) (upd b_strength (b_horses).toNatClampNeg n2) (upd b_back (b_horses).toNatClampNeg n3) b_moods b_tides b_carts) := hD
    exact RET _ _ _ _ _ _ _ _ dX0_addHorse_49 hP hD hS hf
def f_X0_addBeside (n1 : Int32) (n2 : Int32) (n3 : Int32) (b_horses : Int32) (b_besides : Int32) (b_pairs : Int64) (b_moods : Nat → Int32) : Option (Int32 × Int64 × (Nat → Int32)) :=
  bn1 (f_X0_hasHorse n1 b_horses) (fun (r_1 : Int32) =>
    if r_1 = 0 then
      some (b_besides, b_pairs, b_moods)
    else
      bn1 (f_X0_hasHorse n2 b_horses) (fun (r_2 : Int32) =>
        if r_2 = 0 then
          some (b_besides, b_pairs, b_moods)
        else
          if ((n1 * (6 : Int32)) + n2) < 0 ∨ 36 ≤ (((n1 * (6 : Int32)) + n2)).toNatClampNeg then none else
          some ((b_besides + (1 : Int32)), (b_pairs ||| ((1 : Int64) <<< ((((n1 * (6 : Int32)) + n2)).toInt64 &&& 63))), (upd b_moods (((n1 * (6 : Int32)) + n2)).toNatClampNeg n3))
      )
  )
abbrev rm_X0_addBeside : Room := { frames := 1, cells := 0, slots := 0, locals := 21 }
theorem dk_X0_addBeside : yX0_addBeside.cls = RX0 ∧ yX0_addBeside.cls ≠ "java/lang/invoke/MethodHandle" ∧ yX0_addBeside.cls ≠ "java/lang/invoke/VarHandle" ∧ (parseMethodDescriptor yX0_addBeside.desc).map (fun d => d.parameters.length) = some 3 := by decide +kernel
set_option maxHeartbeats 4000000 in
set_option maxRecDepth 100000 in
theorem c_X0_addBeside (l : Launch) (dC : Nat → ClassId) (dI : Nat → Nat → Nat) (cI cZ cII : ClassId) (qb qb_pull qb_strength qb_back qb_moods qb_tides qb_carts : Nat) (sz : Nat) (b_law : Int32) (b_places : Int32) (b_broad : Int32) (b_horses : Int32) (b_blinds : Int32) (b_besides : Int32) (b_tideCount : Int32) (b_cartCount : Int32) (b_due : Int32) (b_pairs : Int64) (b_pull : Nat → Int32) (b_strength : Nat → Int32) (b_back : Nat → Int32) (b_moods : Nat → Int32) (b_tides : Nat → Int32) (b_carts : Nat → Int32) (n1 : Int32) (n2 : Int32) (n3 : Int32) (b_besides' : Int32) (b_pairs' : Int64) (b_moods' : Nat → Int32) (hf : f_X0_addBeside n1 n2 n3 b_horses b_besides b_pairs b_moods = some (b_besides', b_pairs', b_moods')) : Met l yX0_addBeside (wM yX0_addBeside cX0_addBeside 4 none) rm_X0_addBeside (PreW (dC, dI) (tyA cI cZ cII) (W_X0b cI cZ cII qb qb_pull qb_strength qb_back qb_moods qb_tides qb_carts b_law b_places b_broad b_horses b_blinds b_besides b_tideCount b_cartCount b_due b_pairs b_pull b_strength b_back b_moods b_tides b_carts) sz [.ref qb, .int n1, .int n2, .int n3]) (PostV (dC, dI) (tyA cI cZ cII) (W_X0b cI cZ cII qb qb_pull qb_strength qb_back qb_moods qb_tides qb_carts b_law b_places b_broad b_horses b_blinds b_besides b_tideCount b_cartCount b_due b_pairs b_pull b_strength b_back b_moods b_tides b_carts) (W_X0b cI cZ cII qb qb_pull qb_strength qb_back qb_moods qb_tides qb_carts b_law b_places b_broad b_horses b_blinds b_besides' b_tideCount b_cartCount b_due b_pairs' b_pull b_strength b_back b_moods' b_tides b_carts) sz) 0 0 (va_A (W_X0b cI cZ cII qb qb_pull qb_strength qb_back qb_moods qb_tides qb_carts b_law b_places b_broad b_horses b_blinds b_besides b_tideCount b_cartCount b_due b_pairs b_pull b_strength b_back b_moods b_tides b_carts) sz) := by
  refine Met.ofW (cc := cX0_addBeside) (maxL := 4) (ret := none) (by decide) rfl ?_
  intro p e s m args below meth c s₁ B hml hv
  obtain ⟨rfl, hsz, hP, hK, hD0⟩ := hv
  have hx := B.exec
  have hb := B.bytes
  have hr := B.returns
  have hts := atoms_spec (ws := wM yX0_addBeside cX0_addBeside 4 none) B.pre
  have hown : s.vm.findClass RX0 = some m.cls := findClass_of_methodNamed B.named
  have hlocks := B.notSynchronized
  subst hsz
  have hD := hD0.self (sz := s.heap.size)
  obtain ⟨A, hAe⟩ : ∃ A, A = va_A (W_X0b cI cZ cII qb qb_pull qb_strength qb_back qb_moods qb_tides qb_carts b_law b_places b_broad b_horses b_blinds b_besides b_tideCount b_cartCount b_due b_pairs b_pull b_strength b_back b_moods b_tides b_carts) s.heap.size := ⟨_, rfl⟩
  rw [← hAe] at hD
  have hA : ∀ q : Nat, s.heap.size ≤ q → A q := fun q h => by rw [hAe]; exact Or.inr h
  have hS : va_S A s.heap s.heap [] := va_S.rf
  have hl := lv_entry ([.ref qb, .int n1, .int n2, .int n3]) (n := 4) (Nat.le_of_ble_eq_true rfl)
  rw [lg_entry_eq]
  generalize (lg_sl ([.ref qb, .int n1, .int n2, .int n3]) ++ List.replicate (4 - (lg_sl ([.ref qb, .int n1, .int n2, .int n3])).length) Slot.unset).toArray = ls at hl ⊢
  have hl : lv_has ls 4 [(0, .ref qb), (1, .int n1), (2, .int n2), (3, .int n3)] := hl
  generalize ([.ref qb, .int n1, .int n2, .int n3] : List Value).toArray = args at hts ⊢
  have hw : ∀ w ∈ wsL_law, w.before args s = true := fun w h => hts w (List.mem_cons_of_mem _ h)
  refine pg_start (fun Q hQ => ?_)
  have RET : ∀ (H : Heap) (locs : List Loc) (ls : Array Slot) (pc : Nat) (x0 : Int32) (x1 : Int64) (x2 : Nat → Int32) , decode cX0_addBeside pc = .ok (.return_, 1) → va_P (dC, dI) vwCl (W_X0b cI cZ cII qb qb_pull qb_strength qb_back qb_moods qb_tides qb_carts b_law b_places b_broad b_horses b_blinds x0 b_tideCount b_cartCount b_due x1 b_pull b_strength b_back x2 b_tides b_carts) H → va_D A (W_X0b cI cZ cII qb qb_pull qb_strength qb_back qb_moods qb_tides qb_carts b_law b_places b_broad b_horses b_blinds x0 b_tideCount b_cartCount b_due x1 b_pull b_strength b_back x2 b_tides b_carts) → va_S A s.heap H locs → (some (x0, x1, x2) : Option (Int32 × Int64 × (Nat → Int32))) = some (b_besides', b_pairs', b_moods') → W p l e rm_X0_addBeside s m args below meth c H locs 0 0 Q (F0 m pc ls []) := by
    intro H locs ls pc x0 x1 x2 hd hP hD hS he
    subst hAe; subst hQ
    simp only [Option.some.injEq, Prod.mk.injEq] at he
    obtain ⟨rfl, rfl, rfl⟩ := he
    exact pg_vret hx hb hr hlocks hK hP hD hS hd
  unfold f_X0_addBeside at hf
  refine lv_aload_n hx hb dX0_addBeside_0 rfl (lv_at hl 0 rfl) ?_
  refine lv_iload_n hx hb dX0_addBeside_1 rfl (lv_at hl 1 rfl) ?_
  obtain ⟨r_1, hc, hf⟩ := bn1_s hf
  refine pg_cVi (As := [.int n1]) (rest := []) (wf := (W_X0b cI cZ cII qb qb_pull qb_strength qb_back qb_moods qb_tides qb_carts b_law b_places b_broad b_horses b_blinds b_besides b_tideCount b_cartCount b_due b_pairs b_pull b_strength b_back b_moods b_tides b_carts)) ⟨hx, hb, hml, hown, hw⟩ (c_X0_hasHorse l dC dI cI cZ cII qb qb_pull qb_strength qb_back qb_moods qb_tides qb_carts s.heap.size b_law b_places b_broad b_horses b_blinds b_besides b_tideCount b_cartCount b_due b_pairs b_pull b_strength b_back b_moods b_tides b_carts n1 r_1 hc) (cwV 1 hts (wM_V mw_15_5 mw_15_6 mw_15_7 mw_1_15 mw_15_8) rfl rfl rfl dk_X0_hasHorse ⟨Nat.le_of_ble_eq_true rfl, Nat.le_of_ble_eq_true rfl⟩) hK hP hD hS hA 0 0 rfl rfl rfl [0, 1, 2, 3, 4, 5, 6] [] [0, 1, 2, 3, 4, 5, 6] (plC_1 cI cZ cII qb qb_pull qb_strength qb_back qb_moods qb_tides qb_carts b_law b_places b_broad b_horses b_blinds b_besides b_tideCount b_cartCount b_due b_pairs b_pull b_strength b_back b_moods b_tides b_carts) rfl (plF_1 cI cZ cII qb qb_pull qb_strength qb_back qb_moods qb_tides qb_carts b_law b_places b_broad b_horses b_blinds b_besides b_tideCount b_cartCount b_due b_pairs b_pull b_strength b_back b_moods b_tides b_carts b_law b_places b_broad b_horses b_blinds b_besides b_tideCount b_cartCount b_due b_pairs b_pull b_strength b_back b_moods b_tides b_carts) (by decide) rfl hl.1 rfl (Nat.le_of_ble_eq_true rfl) dX0_addBeside_2 ⟨Nat.zero_le _, Nat.zero_le _⟩ (fun H locs hP hD hS => ?_)
  refine lv_if_eq (tgt := 55) hx hb dX0_addBeside_5 (by decide) (fun h9 => ?_) (fun h9 => ?_)
  · have hf := pg_t h9 hf
    exact RET _ _ _ _ _ _ _ dX0_addBeside_55 hP hD hS hf
  · have hf := pg_f h9 hf
    refine lv_aload_n hx hb dX0_addBeside_8 rfl (lv_at hl 0 rfl) ?_
    refine lv_iload_n hx hb dX0_addBeside_9 rfl (lv_at hl 2 rfl) ?_
    obtain ⟨r_2, hc, hf⟩ := bn1_s hf
    refine pg_cVi (As := [.int n2]) (rest := []) (wf := (W_X0b cI cZ cII qb qb_pull qb_strength qb_back qb_moods qb_tides qb_carts b_law b_places b_broad b_horses b_blinds b_besides b_tideCount b_cartCount b_due b_pairs b_pull b_strength b_back b_moods b_tides b_carts)) ⟨hx, hb, hml, hown, hw⟩ (c_X0_hasHorse l dC dI cI cZ cII qb qb_pull qb_strength qb_back qb_moods qb_tides qb_carts H.size b_law b_places b_broad b_horses b_blinds b_besides b_tideCount b_cartCount b_due b_pairs b_pull b_strength b_back b_moods b_tides b_carts n2 r_2 hc) (cwV 1 hts (wM_V mw_15_5 mw_15_6 mw_15_7 mw_1_15 mw_15_8) rfl rfl rfl dk_X0_hasHorse ⟨Nat.le_of_ble_eq_true rfl, Nat.le_of_ble_eq_true rfl⟩) hK hP hD hS hA 0 0 rfl rfl rfl [0, 1, 2, 3, 4, 5, 6] [] [0, 1, 2, 3, 4, 5, 6] (plC_1 cI cZ cII qb qb_pull qb_strength qb_back qb_moods qb_tides qb_carts b_law b_places b_broad b_horses b_blinds b_besides b_tideCount b_cartCount b_due b_pairs b_pull b_strength b_back b_moods b_tides b_carts) rfl (plF_1 cI cZ cII qb qb_pull qb_strength qb_back qb_moods qb_tides qb_carts b_law b_places b_broad b_horses b_blinds b_besides b_tideCount b_cartCount b_due b_pairs b_pull b_strength b_back b_moods b_tides b_carts b_law b_places b_broad b_horses b_blinds b_besides b_tideCount b_cartCount b_due b_pairs b_pull b_strength b_back b_moods b_tides b_carts) (by decide) rfl hl.1 rfl (Nat.le_of_ble_eq_true rfl) dX0_addBeside_10 ⟨Nat.zero_le _, Nat.zero_le _⟩ (fun H locs hP hD hS => ?_)
    refine lv_if_eq (tgt := 55) hx hb dX0_addBeside_13 (by decide) (fun h9 => ?_) (fun h9 => ?_)
    · have hf := pg_t h9 hf
      exact RET _ _ _ _ _ _ _ dX0_addBeside_55 hP hD hS hf
    · have hf := pg_f h9 hf
      refine lv_aload_n hx hb dX0_addBeside_16 rfl (lv_at hl 0 rfl) ?_
      refine va_get (D := (dC, dI)) (ci := 0) (v := .ref qb_moods) (C := RX0) (T := TX0) (N := 16) hx hb hw inlX0 hown hK hP 0 rfl rfl 13 (by decide) (hw _ mw_3_7) (fun _ h9 => h9) rfl dX0_addBeside_17 ?_
      refine lv_iload_n hx hb dX0_addBeside_20 rfl (lv_at hl 1 rfl) ?_
      refine lv_bipush (v := (6 : Int32)) hx hb dX0_addBeside_21 (by decide) ?_
      refine lv_imul hx hb dX0_addBeside_23 ?_
      refine lv_iload_n hx hb dX0_addBeside_24 rfl (lv_at hl 2 rfl) ?_
      refine lv_iadd hx hb dX0_addBeside_25 ?_
      refine lv_iload_n hx hb dX0_addBeside_26 rfl (lv_at hl 3 rfl) ?_
      obtain ⟨hi3, hf⟩ := pg_chk hf
      refine va_iast hx hb hK hP hD hS 4 0 rfl rfl hi3 dX0_addBeside_27 (fun H locs hP hD hS => ?_)
      have hP : va_P (dC, dI) vwCl (W_X0b cI cZ cII qb qb_pull qb_strength qb_back qb_moods qb_tides qb_carts b_law b_places b_broad b_horses b_blinds b_besides b_tideCount b_cartCount b_due b_pairs b_pull b_strength b_back (upd b_moods (((n1 * (6 : Int32)) + n2)).toNatClampNeg n3) b_tides b_carts) H := hP
      have hD : va_D A (W_X0b cI cZ cII qb qb_pull qb_strength qb_back qb_moods qb_tides qb_carts b_law b_places b_broad b_horses b_blinds b_besides b_tideCount b_cartCount b_due b_pairs b_pull b_strength b_back (upd b_moods (((n1 * (6 : Int32)) + n2)).toNatClampNeg n3) b_tides b_carts) := hD
      refine lv_aload_n hx hb dX0_addBeside_28 rfl (lv_at hl 0 rfl) ?_
      refine lv_dup hx hb dX0_addBeside_29 rfl ?_
      refine va_get (D := (dC, dI)) (ci := 0) (v := .long b_pairs) (C := RX0) (T := TX0) (N := 16) hx hb hw inlX0 hown hK hP 0 rfl rfl 9 (by decide) (hw _ mw_9_4) (fun _ h9 => h9) rfl dX0_addBeside_30 ?_
      refine lv_lconst (v := (1 : Int64)) hx hb dX0_addBeside_33 (by decide) ?_
      refine lv_iload_n hx hb dX0_addBeside_34 rfl (lv_at hl 1 rfl) ?_
      refine lv_bipush (v := (6 : Int32)) hx hb dX0_addBeside_35 (by decide) ?_
      refine lv_imul hx hb dX0_addBeside_37 ?_
      refine lv_iload_n hx hb dX0_addBeside_38 rfl (lv_at hl 2 rfl) ?_
      refine lv_iadd hx hb dX0_addBeside_39 ?_
      refine lv_lshl hx hb dX0_addBeside_40 rfl ?_
      refine lv_lor hx hb dX0_addBeside_41 ?_
      refine va_put (D := (dC, dI)) (ci := 0) (v := .long (b_pairs ||| ((1 : Int64) <<< ((((n1 * (6 : Int32)) + n2)).toInt64 &&& 63)))) (ty := .long) (C := RX0) (T := TX0) (N := 16) hx hb hw inlX0 tyX0 tyX0_ok nmX0 hown hK hP hD hS 0 rfl rfl 9 (by decide) (hw _ mw_9_4) (fun _ h9 => h9) rfl (by decide +kernel) rfl rfl (Nat.le_of_ble_eq_true rfl) dX0_addBeside_42 (fun H locs hP hD hS => ?_)
      have hP : va_P (dC, dI) vwCl (W_X0b cI cZ cII qb qb_pull qb_strength qb_back qb_moods qb_tides qb_carts b_law b_places b_broad b_horses b_blinds b_besides b_tideCount b_cartCount b_due (b_pairs ||| ((1 : Int64) <<< ((((n1 * (6 : Int32)) + n2)).toInt64 &&& 63))) b_pull b_strength b_back (upd b_moods (((n1 * (6 : Int32)) + n2)).toNatClampNeg n3) b_tides b_carts) H := hP
      have hD : va_D A (W_X0b cI cZ cII qb qb_pull qb_strength qb_back qb_moods qb_tides qb_carts b_law b_places b_broad b_horses b_blinds b_besides b_tideCount b_cartCount b_due (b_pairs ||| ((1 : Int64) <<< ((((n1 * (6 : Int32)) + n2)).toInt64 &&& 63))) b_pull b_strength b_back (upd b_moods (((n1 * (6 : Int32)) + n2)).toNatClampNeg n3) b_tides b_carts) := hD
      refine lv_aload_n hx hb dX0_addBeside_45 rfl (lv_at hl 0 rfl) ?_
      refine lv_dup hx hb dX0_addBeside_46 rfl ?_
      refine va_get (D := (dC, dI)) (ci := 0) (v := .int b_besides) (C := RX0) (T := TX0) (N := 16) hx hb hw inlX0 hown hK hP 0 rfl rfl 5 (by decide) (hw _ mw_9_0) (fun _ h9 => h9) rfl dX0_addBeside_47 ?_
      refine lv_iconst (v := (1 : Int32)) hx hb dX0_addBeside_50 (by decide) ?_
      refine lv_iadd hx hb dX0_addBeside_51 ?_
      refine va_put (D := (dC, dI)) (ci := 0) (v := .int (b_besides + (1 : Int32))) (ty := .int) (C := RX0) (T := TX0) (N := 16) hx hb hw inlX0 tyX0 tyX0_ok nmX0 hown hK hP hD hS 0 rfl rfl 5 (by decide) (hw _ mw_9_0) (fun _ h9 => h9) rfl (by decide +kernel) rfl rfl (Nat.le_of_ble_eq_true rfl) dX0_addBeside_52 (fun H locs hP hD hS => ?_)
      have hP : va_P (dC, dI) vwCl (W_X0b cI cZ cII qb qb_pull qb_strength qb_back qb_moods qb_tides qb_carts b_law b_places b_broad b_horses b_blinds (b_besides + (1 : Int32)) b_tideCount b_cartCount b_due (b_pairs ||| ((1 : Int64) <<< ((((n1 * (6 : Int32)) + n2)).toInt64 &&& 63))) b_pull b_strength b_back (upd b_moods (((n1 * (6 : Int32)) + n2)).toNatClampNeg n3) b_tides b_carts) H := hP
      have hD : va_D A (W_X0b cI cZ cII qb qb_pull qb_strength qb_back qb_moods qb_tides qb_carts b_law b_places b_broad b_horses b_blinds (b_besides + (1 : Int32)) b_tideCount b_cartCount b_due (b_pairs ||| ((1 : Int64) <<< ((((n1 * (6 : Int32)) + n2)).toInt64 &&& 63))) b_pull b_strength b_back (upd b_moods (((n1 * (6 : Int32)) + n2)).toNatClampNeg n3) b_tides b_carts) := hD
      exact RET _ _ _ _ _ _ _ dX0_addBeside_55 hP hD hS hf
def f_X0_addTide (n1 : Int32) (b_tideCount : Int32) (b_tides : Nat → Int32) : Option (Int32 × (Nat → Int32)) :=
  if (12 : Int32) ≤ b_tideCount then
    some (b_tideCount, b_tides)
  else
    if b_tideCount < 0 ∨ 12 ≤ (b_tideCount).toNatClampNeg then none else
    some ((b_tideCount + (1 : Int32)), (upd b_tides (b_tideCount).toNatClampNeg n1))
abbrev rm_X0_addTide : Room := { frames := 0, cells := 0, slots := 0, locals := 0 }
theorem dk_X0_addTide : yX0_addTide.cls = RX0 ∧ yX0_addTide.cls ≠ "java/lang/invoke/MethodHandle" ∧ yX0_addTide.cls ≠ "java/lang/invoke/VarHandle" ∧ (parseMethodDescriptor yX0_addTide.desc).map (fun d => d.parameters.length) = some 1 := by decide +kernel
set_option maxHeartbeats 4000000 in
set_option maxRecDepth 100000 in
theorem c_X0_addTide (l : Launch) (dC : Nat → ClassId) (dI : Nat → Nat → Nat) (cI cZ cII : ClassId) (qb qb_pull qb_strength qb_back qb_moods qb_tides qb_carts : Nat) (sz : Nat) (b_law : Int32) (b_places : Int32) (b_broad : Int32) (b_horses : Int32) (b_blinds : Int32) (b_besides : Int32) (b_tideCount : Int32) (b_cartCount : Int32) (b_due : Int32) (b_pairs : Int64) (b_pull : Nat → Int32) (b_strength : Nat → Int32) (b_back : Nat → Int32) (b_moods : Nat → Int32) (b_tides : Nat → Int32) (b_carts : Nat → Int32) (n1 : Int32) (b_tideCount' : Int32) (b_tides' : Nat → Int32) (hf : f_X0_addTide n1 b_tideCount b_tides = some (b_tideCount', b_tides')) : Met l yX0_addTide (wM yX0_addTide cX0_addTide 2 none) rm_X0_addTide (PreW (dC, dI) (tyA cI cZ cII) (W_X0b cI cZ cII qb qb_pull qb_strength qb_back qb_moods qb_tides qb_carts b_law b_places b_broad b_horses b_blinds b_besides b_tideCount b_cartCount b_due b_pairs b_pull b_strength b_back b_moods b_tides b_carts) sz [.ref qb, .int n1]) (PostV (dC, dI) (tyA cI cZ cII) (W_X0b cI cZ cII qb qb_pull qb_strength qb_back qb_moods qb_tides qb_carts b_law b_places b_broad b_horses b_blinds b_besides b_tideCount b_cartCount b_due b_pairs b_pull b_strength b_back b_moods b_tides b_carts) (W_X0b cI cZ cII qb qb_pull qb_strength qb_back qb_moods qb_tides qb_carts b_law b_places b_broad b_horses b_blinds b_besides b_tideCount' b_cartCount b_due b_pairs b_pull b_strength b_back b_moods b_tides' b_carts) sz) 0 0 (va_A (W_X0b cI cZ cII qb qb_pull qb_strength qb_back qb_moods qb_tides qb_carts b_law b_places b_broad b_horses b_blinds b_besides b_tideCount b_cartCount b_due b_pairs b_pull b_strength b_back b_moods b_tides b_carts) sz) := by
  refine Met.ofW (cc := cX0_addTide) (maxL := 2) (ret := none) (by decide) rfl ?_
  intro p e s m args below meth c s₁ B hml hv
  obtain ⟨rfl, hsz, hP, hK, hD0⟩ := hv
  have hx := B.exec
  have hb := B.bytes
  have hr := B.returns
  have hts := atoms_spec (ws := wM yX0_addTide cX0_addTide 2 none) B.pre
  have hown : s.vm.findClass RX0 = some m.cls := findClass_of_methodNamed B.named
  have hlocks := B.notSynchronized
  subst hsz
  have hD := hD0.self (sz := s.heap.size)
  obtain ⟨A, hAe⟩ : ∃ A, A = va_A (W_X0b cI cZ cII qb qb_pull qb_strength qb_back qb_moods qb_tides qb_carts b_law b_places b_broad b_horses b_blinds b_besides b_tideCount b_cartCount b_due b_pairs b_pull b_strength b_back b_moods b_tides b_carts) s.heap.size := ⟨_, rfl⟩
  rw [← hAe] at hD
  have hA : ∀ q : Nat, s.heap.size ≤ q → A q := fun q h => by rw [hAe]; exact Or.inr h
  have hS : va_S A s.heap s.heap [] := va_S.rf
  have hl := lv_entry ([.ref qb, .int n1]) (n := 2) (Nat.le_of_ble_eq_true rfl)
  rw [lg_entry_eq]
  generalize (lg_sl ([.ref qb, .int n1]) ++ List.replicate (2 - (lg_sl ([.ref qb, .int n1])).length) Slot.unset).toArray = ls at hl ⊢
  have hl : lv_has ls 2 [(0, .ref qb), (1, .int n1)] := hl
  generalize ([.ref qb, .int n1] : List Value).toArray = args at hts ⊢
  have hw : ∀ w ∈ wsL_law, w.before args s = true := fun w h => hts w (List.mem_cons_of_mem _ h)
  refine pg_start (fun Q hQ => ?_)
  have RET : ∀ (H : Heap) (locs : List Loc) (ls : Array Slot) (pc : Nat) (x0 : Int32) (x1 : Nat → Int32) , decode cX0_addTide pc = .ok (.return_, 1) → va_P (dC, dI) vwCl (W_X0b cI cZ cII qb qb_pull qb_strength qb_back qb_moods qb_tides qb_carts b_law b_places b_broad b_horses b_blinds b_besides x0 b_cartCount b_due b_pairs b_pull b_strength b_back b_moods x1 b_carts) H → va_D A (W_X0b cI cZ cII qb qb_pull qb_strength qb_back qb_moods qb_tides qb_carts b_law b_places b_broad b_horses b_blinds b_besides x0 b_cartCount b_due b_pairs b_pull b_strength b_back b_moods x1 b_carts) → va_S A s.heap H locs → (some (x0, x1) : Option (Int32 × (Nat → Int32))) = some (b_tideCount', b_tides') → W p l e rm_X0_addTide s m args below meth c H locs 0 0 Q (F0 m pc ls []) := by
    intro H locs ls pc x0 x1 hd hP hD hS he
    subst hAe; subst hQ
    simp only [Option.some.injEq, Prod.mk.injEq] at he
    obtain ⟨rfl, rfl⟩ := he
    exact pg_vret hx hb hr hlocks hK hP hD hS hd
  unfold f_X0_addTide at hf
  refine lv_aload_n hx hb dX0_addTide_0 rfl (lv_at hl 0 rfl) ?_
  refine va_get (D := (dC, dI)) (ci := 0) (v := .int b_tideCount) (C := RX0) (T := TX0) (N := 16) hx hb hw inlX0 hown hK hP 0 rfl rfl 6 (by decide) (hw _ mw_9_1) (fun _ h9 => h9) rfl dX0_addTide_1 ?_
  refine lv_bipush (v := (12 : Int32)) hx hb dX0_addTide_4 (by decide) ?_
  refine lv_icmp_ge (tgt := 29) hx hb dX0_addTide_6 (by decide) (fun h9 => ?_) (fun h9 => ?_)
  · have hf := pg_t h9 hf
    exact RET _ _ _ _ _ _ dX0_addTide_29 hP hD hS hf
  · have hf := pg_f h9 hf
    refine lv_aload_n hx hb dX0_addTide_9 rfl (lv_at hl 0 rfl) ?_
    refine va_get (D := (dC, dI)) (ci := 0) (v := .ref qb_tides) (C := RX0) (T := TX0) (N := 16) hx hb hw inlX0 hown hK hP 0 rfl rfl 14 (by decide) (hw _ mw_3_8) (fun _ h9 => h9) rfl dX0_addTide_10 ?_
    refine lv_aload_n hx hb dX0_addTide_13 rfl (lv_at hl 0 rfl) ?_
    refine va_get (D := (dC, dI)) (ci := 0) (v := .int b_tideCount) (C := RX0) (T := TX0) (N := 16) hx hb hw inlX0 hown hK hP 0 rfl rfl 6 (by decide) (hw _ mw_9_1) (fun _ h9 => h9) rfl dX0_addTide_14 ?_
    refine lv_iload_n hx hb dX0_addTide_17 rfl (lv_at hl 1 rfl) ?_
    obtain ⟨hi1, hf⟩ := pg_chk hf
    refine va_iast hx hb hK hP hD hS 5 0 rfl rfl hi1 dX0_addTide_18 (fun H locs hP hD hS => ?_)
    have hP : va_P (dC, dI) vwCl (W_X0b cI cZ cII qb qb_pull qb_strength qb_back qb_moods qb_tides qb_carts b_law b_places b_broad b_horses b_blinds b_besides b_tideCount b_cartCount b_due b_pairs b_pull b_strength b_back b_moods (upd b_tides (b_tideCount).toNatClampNeg n1) b_carts) H := hP
    have hD : va_D A (W_X0b cI cZ cII qb qb_pull qb_strength qb_back qb_moods qb_tides qb_carts b_law b_places b_broad b_horses b_blinds b_besides b_tideCount b_cartCount b_due b_pairs b_pull b_strength b_back b_moods (upd b_tides (b_tideCount).toNatClampNeg n1) b_carts) := hD
    refine lv_aload_n hx hb dX0_addTide_19 rfl (lv_at hl 0 rfl) ?_
    refine lv_dup hx hb dX0_addTide_20 rfl ?_
    refine va_get (D := (dC, dI)) (ci := 0) (v := .int b_tideCount) (C := RX0) (T := TX0) (N := 16) hx hb hw inlX0 hown hK hP 0 rfl rfl 6 (by decide) (hw _ mw_9_1) (fun _ h9 => h9) rfl dX0_addTide_21 ?_
    refine lv_iconst (v := (1 : Int32)) hx hb dX0_addTide_24 (by decide) ?_
    refine lv_iadd hx hb dX0_addTide_25 ?_
    refine va_put (D := (dC, dI)) (ci := 0) (v := .int (b_tideCount + (1 : Int32))) (ty := .int) (C := RX0) (T := TX0) (N := 16) hx hb hw inlX0 tyX0 tyX0_ok nmX0 hown hK hP hD hS 0 rfl rfl 6 (by decide) (hw _ mw_9_1) (fun _ h9 => h9) rfl (by decide +kernel) rfl rfl (Nat.le_of_ble_eq_true rfl) dX0_addTide_26 (fun H locs hP hD hS => ?_)
    have hP : va_P (dC, dI) vwCl (W_X0b cI cZ cII qb qb_pull qb_strength qb_back qb_moods qb_tides qb_carts b_law b_places b_broad b_horses b_blinds b_besides (b_tideCount + (1 : Int32)) b_cartCount b_due b_pairs b_pull b_strength b_back b_moods (upd b_tides (b_tideCount).toNatClampNeg n1) b_carts) H := hP
    have hD : va_D A (W_X0b cI cZ cII qb qb_pull qb_strength qb_back qb_moods qb_tides qb_carts b_law b_places b_broad b_horses b_blinds b_besides (b_tideCount + (1 : Int32)) b_cartCount b_due b_pairs b_pull b_strength b_back b_moods (upd b_tides (b_tideCount).toNatClampNeg n1) b_carts) := hD
    exact RET _ _ _ _ _ _ dX0_addTide_29 hP hD hS hf
def f_X0_addCart (n1 : Int32) (b_cartCount : Int32) (b_carts : Nat → Int32) : Option (Int32 × (Nat → Int32)) :=
  if (4 : Int32) ≤ b_cartCount then
    some (b_cartCount, b_carts)
  else
    if b_cartCount < 0 ∨ 4 ≤ (b_cartCount).toNatClampNeg then none else
    some ((b_cartCount + (1 : Int32)), (upd b_carts (b_cartCount).toNatClampNeg n1))
abbrev rm_X0_addCart : Room := { frames := 0, cells := 0, slots := 0, locals := 0 }
theorem dk_X0_addCart : yX0_addCart.cls = RX0 ∧ yX0_addCart.cls ≠ "java/lang/invoke/MethodHandle" ∧ yX0_addCart.cls ≠ "java/lang/invoke/VarHandle" ∧ (parseMethodDescriptor yX0_addCart.desc).map (fun d => d.parameters.length) = some 1 := by decide +kernel
set_option maxHeartbeats 4000000 in
set_option maxRecDepth 100000 in
theorem c_X0_addCart (l : Launch) (dC : Nat → ClassId) (dI : Nat → Nat → Nat) (cI cZ cII : ClassId) (qb qb_pull qb_strength qb_back qb_moods qb_tides qb_carts : Nat) (sz : Nat) (b_law : Int32) (b_places : Int32) (b_broad : Int32) (b_horses : Int32) (b_blinds : Int32) (b_besides : Int32) (b_tideCount : Int32) (b_cartCount : Int32) (b_due : Int32) (b_pairs : Int64) (b_pull : Nat → Int32) (b_strength : Nat → Int32) (b_back : Nat → Int32) (b_moods : Nat → Int32) (b_tides : Nat → Int32) (b_carts : Nat → Int32) (n1 : Int32) (b_cartCount' : Int32) (b_carts' : Nat → Int32) (hf : f_X0_addCart n1 b_cartCount b_carts = some (b_cartCount', b_carts')) : Met l yX0_addCart (wM yX0_addCart cX0_addCart 2 none) rm_X0_addCart (PreW (dC, dI) (tyA cI cZ cII) (W_X0b cI cZ cII qb qb_pull qb_strength qb_back qb_moods qb_tides qb_carts b_law b_places b_broad b_horses b_blinds b_besides b_tideCount b_cartCount b_due b_pairs b_pull b_strength b_back b_moods b_tides b_carts) sz [.ref qb, .int n1]) (PostV (dC, dI) (tyA cI cZ cII) (W_X0b cI cZ cII qb qb_pull qb_strength qb_back qb_moods qb_tides qb_carts b_law b_places b_broad b_horses b_blinds b_besides b_tideCount b_cartCount b_due b_pairs b_pull b_strength b_back b_moods b_tides b_carts) (W_X0b cI cZ cII qb qb_pull qb_strength qb_back qb_moods qb_tides qb_carts b_law b_places b_broad b_horses b_blinds b_besides b_tideCount b_cartCount' b_due b_pairs b_pull b_strength b_back b_moods b_tides b_carts') sz) 0 0 (va_A (W_X0b cI cZ cII qb qb_pull qb_strength qb_back qb_moods qb_tides qb_carts b_law b_places b_broad b_horses b_blinds b_besides b_tideCount b_cartCount b_due b_pairs b_pull b_strength b_back b_moods b_tides b_carts) sz) := by
  refine Met.ofW (cc := cX0_addCart) (maxL := 2) (ret := none) (by decide) rfl ?_
  intro p e s m args below meth c s₁ B hml hv
  obtain ⟨rfl, hsz, hP, hK, hD0⟩ := hv
  have hx := B.exec
  have hb := B.bytes
  have hr := B.returns
  have hts := atoms_spec (ws := wM yX0_addCart cX0_addCart 2 none) B.pre
  have hown : s.vm.findClass RX0 = some m.cls := findClass_of_methodNamed B.named
  have hlocks := B.notSynchronized
  subst hsz
  have hD := hD0.self (sz := s.heap.size)
  obtain ⟨A, hAe⟩ : ∃ A, A = va_A (W_X0b cI cZ cII qb qb_pull qb_strength qb_back qb_moods qb_tides qb_carts b_law b_places b_broad b_horses b_blinds b_besides b_tideCount b_cartCount b_due b_pairs b_pull b_strength b_back b_moods b_tides b_carts) s.heap.size := ⟨_, rfl⟩
  rw [← hAe] at hD
  have hA : ∀ q : Nat, s.heap.size ≤ q → A q := fun q h => by rw [hAe]; exact Or.inr h
  have hS : va_S A s.heap s.heap [] := va_S.rf
  have hl := lv_entry ([.ref qb, .int n1]) (n := 2) (Nat.le_of_ble_eq_true rfl)
  rw [lg_entry_eq]
  generalize (lg_sl ([.ref qb, .int n1]) ++ List.replicate (2 - (lg_sl ([.ref qb, .int n1])).length) Slot.unset).toArray = ls at hl ⊢
  have hl : lv_has ls 2 [(0, .ref qb), (1, .int n1)] := hl
  generalize ([.ref qb, .int n1] : List Value).toArray = args at hts ⊢
  have hw : ∀ w ∈ wsL_law, w.before args s = true := fun w h => hts w (List.mem_cons_of_mem _ h)
  refine pg_start (fun Q hQ => ?_)
  have RET : ∀ (H : Heap) (locs : List Loc) (ls : Array Slot) (pc : Nat) (x0 : Int32) (x1 : Nat → Int32) , decode cX0_addCart pc = .ok (.return_, 1) → va_P (dC, dI) vwCl (W_X0b cI cZ cII qb qb_pull qb_strength qb_back qb_moods qb_tides qb_carts b_law b_places b_broad b_horses b_blinds b_besides b_tideCount x0 b_due b_pairs b_pull b_strength b_back b_moods b_tides x1) H → va_D A (W_X0b cI cZ cII qb qb_pull qb_strength qb_back qb_moods qb_tides qb_carts b_law b_places b_broad b_horses b_blinds b_besides b_tideCount x0 b_due b_pairs b_pull b_strength b_back b_moods b_tides x1) → va_S A s.heap H locs → (some (x0, x1) : Option (Int32 × (Nat → Int32))) = some (b_cartCount', b_carts') → W p l e rm_X0_addCart s m args below meth c H locs 0 0 Q (F0 m pc ls []) := by
    intro H locs ls pc x0 x1 hd hP hD hS he
    subst hAe; subst hQ
    simp only [Option.some.injEq, Prod.mk.injEq] at he
    obtain ⟨rfl, rfl⟩ := he
    exact pg_vret hx hb hr hlocks hK hP hD hS hd
  unfold f_X0_addCart at hf
  refine lv_aload_n hx hb dX0_addCart_0 rfl (lv_at hl 0 rfl) ?_
  refine va_get (D := (dC, dI)) (ci := 0) (v := .int b_cartCount) (C := RX0) (T := TX0) (N := 16) hx hb hw inlX0 hown hK hP 0 rfl rfl 7 (by decide) (hw _ mw_9_2) (fun _ h9 => h9) rfl dX0_addCart_1 ?_
  refine lv_iconst (v := (4 : Int32)) hx hb dX0_addCart_4 (by decide) ?_
  refine lv_icmp_ge (tgt := 28) hx hb dX0_addCart_5 (by decide) (fun h9 => ?_) (fun h9 => ?_)
  · have hf := pg_t h9 hf
    exact RET _ _ _ _ _ _ dX0_addCart_28 hP hD hS hf
  · have hf := pg_f h9 hf
    refine lv_aload_n hx hb dX0_addCart_8 rfl (lv_at hl 0 rfl) ?_
    refine va_get (D := (dC, dI)) (ci := 0) (v := .ref qb_carts) (C := RX0) (T := TX0) (N := 16) hx hb hw inlX0 hown hK hP 0 rfl rfl 15 (by decide) (hw _ mw_3_9) (fun _ h9 => h9) rfl dX0_addCart_9 ?_
    refine lv_aload_n hx hb dX0_addCart_12 rfl (lv_at hl 0 rfl) ?_
    refine va_get (D := (dC, dI)) (ci := 0) (v := .int b_cartCount) (C := RX0) (T := TX0) (N := 16) hx hb hw inlX0 hown hK hP 0 rfl rfl 7 (by decide) (hw _ mw_9_2) (fun _ h9 => h9) rfl dX0_addCart_13 ?_
    refine lv_iload_n hx hb dX0_addCart_16 rfl (lv_at hl 1 rfl) ?_
    obtain ⟨hi1, hf⟩ := pg_chk hf
    refine va_iast hx hb hK hP hD hS 6 0 rfl rfl hi1 dX0_addCart_17 (fun H locs hP hD hS => ?_)
    have hP : va_P (dC, dI) vwCl (W_X0b cI cZ cII qb qb_pull qb_strength qb_back qb_moods qb_tides qb_carts b_law b_places b_broad b_horses b_blinds b_besides b_tideCount b_cartCount b_due b_pairs b_pull b_strength b_back b_moods b_tides (upd b_carts (b_cartCount).toNatClampNeg n1)) H := hP
    have hD : va_D A (W_X0b cI cZ cII qb qb_pull qb_strength qb_back qb_moods qb_tides qb_carts b_law b_places b_broad b_horses b_blinds b_besides b_tideCount b_cartCount b_due b_pairs b_pull b_strength b_back b_moods b_tides (upd b_carts (b_cartCount).toNatClampNeg n1)) := hD
    refine lv_aload_n hx hb dX0_addCart_18 rfl (lv_at hl 0 rfl) ?_
    refine lv_dup hx hb dX0_addCart_19 rfl ?_
    refine va_get (D := (dC, dI)) (ci := 0) (v := .int b_cartCount) (C := RX0) (T := TX0) (N := 16) hx hb hw inlX0 hown hK hP 0 rfl rfl 7 (by decide) (hw _ mw_9_2) (fun _ h9 => h9) rfl dX0_addCart_20 ?_
    refine lv_iconst (v := (1 : Int32)) hx hb dX0_addCart_23 (by decide) ?_
    refine lv_iadd hx hb dX0_addCart_24 ?_
    refine va_put (D := (dC, dI)) (ci := 0) (v := .int (b_cartCount + (1 : Int32))) (ty := .int) (C := RX0) (T := TX0) (N := 16) hx hb hw inlX0 tyX0 tyX0_ok nmX0 hown hK hP hD hS 0 rfl rfl 7 (by decide) (hw _ mw_9_2) (fun _ h9 => h9) rfl (by decide +kernel) rfl rfl (Nat.le_of_ble_eq_true rfl) dX0_addCart_25 (fun H locs hP hD hS => ?_)
    have hP : va_P (dC, dI) vwCl (W_X0b cI cZ cII qb qb_pull qb_strength qb_back qb_moods qb_tides qb_carts b_law b_places b_broad b_horses b_blinds b_besides b_tideCount (b_cartCount + (1 : Int32)) b_due b_pairs b_pull b_strength b_back b_moods b_tides (upd b_carts (b_cartCount).toNatClampNeg n1)) H := hP
    have hD : va_D A (W_X0b cI cZ cII qb qb_pull qb_strength qb_back qb_moods qb_tides qb_carts b_law b_places b_broad b_horses b_blinds b_besides b_tideCount (b_cartCount + (1 : Int32)) b_due b_pairs b_pull b_strength b_back b_moods b_tides (upd b_carts (b_cartCount).toNatClampNeg n1)) := hD
    exact RET _ _ _ _ _ _ dX0_addCart_28 hP hD hS hf
