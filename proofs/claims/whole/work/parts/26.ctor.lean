theorem hi_X1_init_X1 : ∀ w ∈ wsX10, w ∈ wsX1_init := by decide +kernel
theorem hc_X1_init_0 : Cond.methodLink RX1 3 objectInit ∈ wsX1_init := by decide +kernel
theorem hc_X1_init_1 : Cond.instanceMethod objectInit ∈ wsX1_init := by decide +kernel
theorem hc_X1_init_2 : Cond.code objectInit ⟨#[0xb1]⟩ 1 none ∈ wsX1_init := by decide +kernel
theorem hc_X1_init_3 : Cond.arrayClass .int ∈ wsX1_init := by decide +kernel
theorem hc_X1_init_4 : Cond.fieldLink RX1 9 "BuddyFiles$Disk" "cells" "[I" ∈ wsX1_init := by decide +kernel
abbrev rm_X1_init : Room := { frames := 1, cells := 1, slots := 332, locals := 12 }
set_option maxHeartbeats 4000000 in
set_option maxRecDepth 100000 in
theorem k_X1_init (l : Launch) (dC : Nat → ClassId) (dI : Nat → Nat → Nat) (A_d : Nat) (sz : Nat)   : Met l yX1_init wsX1_init rm_X1_init (va_Pc [.ref A_d] (fun U => U.heap.size = sz ∧ va_P (dC, dI) vwCl [(A_d, .inr (0, [.null]))] U.heap ∧ va_K (dC, dI) vwCl [] U ∧ va_D (fun _ => True) [(A_d, .inr (0, [.null]))])) (va_Qv (fun (_ : Unit) => True) (fun _ t => ∃ (A_da : Nat) (K_da : ClassId), va_P (dC, dI) vwCl [(A_d, .inr (0, [.ref A_da])), (A_da, .inl (K_da, 332, .inl (fun _ => (0 : Int32))))] t.heap ∧ va_K (dC, dI) vwCl [(K_da, .int)] t ∧ va_D (va_A [(A_d, .inr (0, [.null]))] sz) [(A_d, .inr (0, [.ref A_da])), (A_da, .inl (K_da, 332, .inl (fun _ => (0 : Int32))))]) (va_A [(A_d, .inr (0, [.null]))] sz)) 1 332 (va_A [(A_d, .inr (0, [.null]))] sz) := by
  refine Met.ofW (cc := cX1_init) (maxL := 1) (ret := none) (by decide) rfl ?_
  intro p e s m args below meth c s₁ B hml hv
  obtain ⟨rfl, hsz, hP, hK, hD0⟩ := hv
  have hx := B.exec
  have hb := B.bytes
  have hr := B.returns
  have hts := atoms_spec (ws := wsX1_init) B.pre
  have hown : s.vm.findClass RX1 = some m.cls := findClass_of_methodNamed B.named
  have hlocks := B.notSynchronized
  have hin : meth.name = "<init>" := (name_of_methodNamed B.named B.method).1
  subst hsz
  have hD := hD0.self (sz := s.heap.size)
  generalize hAe : va_A [(A_d, .inr (0, [.null]))] s.heap.size = A at hD ⊢
  have hA : ∀ q : Nat, s.heap.size ≤ q → A q := fun q h => by rw [← hAe]; exact Or.inr h
  have hS : va_S A s.heap s.heap [] := va_S.rf
  have hP : va_P (dC, dI) vwCl [(A_d, .inr (0, [.null]))] s.heap := hP
  have hl := lv_entry ([.ref A_d]) (n := 1) (Nat.le_of_ble_eq_true rfl)
  rw [lg_entry_eq]
  generalize (lg_sl ([.ref A_d]) ++ List.replicate (1 - (lg_sl ([.ref A_d])).length) Slot.unset).toArray = ls at hl ⊢
  have hl : lv_has ls 1 [(0, .ref A_d)] := hl
  refine lv_aload_n hx hb dX1_init_0 rfl (lv_at hl 0 rfl) ?_
  refine W.objInit hx hb hown (hts (Cond.methodLink RX1 3 objectInit) hc_X1_init_0) (hts (Cond.instanceMethod objectInit) hc_X1_init_1) (hts (Cond.code objectInit ⟨#[0xb1]⟩ 1 none) hc_X1_init_2) rfl (by rw [hml]; exact hl.1) rfl dX1_init_1 (Nat.le_of_ble_eq_true rfl) (Nat.le_of_ble_eq_true rfl) ?_
  refine W.eq (g2 := F0 m 4 ls []) rfl ?_
  refine lv_aload_n hx hb dX1_init_4 rfl (lv_at hl 0 rfl) ?_
  refine lv_sipush (v := 332) hx hb dX1_init_5 (by decide) ?_
  refine va_newa (atype := .int) (ty := .int) (a0 := (332, .inl (fun _ => (0 : Int32)))) (N' := 332) hx hb (hts (Cond.arrayClass .int) hc_X1_init_3) rfl hK hP hD hS hA (fun _ => rfl) (by decide) rfl (by decide) (Nat.le_of_ble_eq_true rfl) (Nat.le_of_ble_eq_true rfl) dX1_init_8 (fun A_da K_da HA_da hK hP hD hS => ?_)
  have hP : va_P (dC, dI) vwCl [(A_d, .inr (0, [.null])), (A_da, .inl (K_da, 332, .inl (fun _ => (0 : Int32))))] HA_da := hP
  have hD : va_D A [(A_d, .inr (0, [.null])), (A_da, .inl (K_da, 332, .inl (fun _ => (0 : Int32))))] := hD
  have hK : va_K (dC, dI) vwCl [(K_da, .int)] s := hK
  refine W.widen (k := 1) (n := 332) (Nat.le_of_ble_eq_true rfl) (Nat.le_of_ble_eq_true rfl) ?_
  refine va_putF (D := (dC, dI)) (ci := 0) (v := .ref A_da) (ty := .array .int) (C := RX1) (T := TX1) (N := 1) hx hb hts hi_X1_init_X1 tyX1 tyX1_ok nmX1 hown hK hP hD hS 0 rfl rfl 0 (by decide) (hts (Cond.fieldLink RX1 9 "BuddyFiles$Disk" "cells" "[I") hc_X1_init_4) (fun _ h9 => h9) rfl hin rfl (by decide +kernel) rfl rfl (Nat.le_of_ble_eq_true rfl) dX1_init_10 (fun H1 locs1 hP hD hS => ?_)
  have hP : va_P (dC, dI) vwCl [(A_d, .inr (0, [.ref A_da])), (A_da, .inl (K_da, 332, .inl (fun _ => (0 : Int32))))] H1 := hP
  have hD : va_D A [(A_d, .inr (0, [.ref A_da])), (A_da, .inl (K_da, 332, .inl (fun _ => (0 : Int32))))] := hD
  exact W.vret hx hb hr (fun t ht hW => ⟨⟨(), rfl, trivial, A_da, K_da, by rw [ht]; exact hP, va_K.moved hW.alike hK, hD⟩, hS.F ht⟩) hS.2.2 dX1_init_13
theorem hi_X2_init_X2 : ∀ w ∈ wsX20, w ∈ wsX2_init := by decide +kernel
theorem hc_X2_init_0 : Cond.methodLink RX2 3 objectInit ∈ wsX2_init := by decide +kernel
theorem hc_X2_init_1 : Cond.instanceMethod objectInit ∈ wsX2_init := by decide +kernel
theorem hc_X2_init_2 : Cond.code objectInit ⟨#[0xb1]⟩ 1 none ∈ wsX2_init := by decide +kernel
theorem hc_X2_init_3 : Cond.arrayClass .int ∈ wsX2_init := by decide +kernel
theorem hc_X2_init_4 : Cond.fieldLink RX2 9 "BuddyFiles$Home" "cells" "[I" ∈ wsX2_init := by decide +kernel
abbrev rm_X2_init : Room := { frames := 1, cells := 1, slots := 110, locals := 12 }
set_option maxHeartbeats 4000000 in
set_option maxRecDepth 100000 in
theorem k_X2_init (l : Launch) (dC : Nat → ClassId) (dI : Nat → Nat → Nat) (A_h : Nat) (sz : Nat)   : Met l yX2_init wsX2_init rm_X2_init (va_Pc [.ref A_h] (fun U => U.heap.size = sz ∧ va_P (dC, dI) vwCl [(A_h, .inr (1, [.null]))] U.heap ∧ va_K (dC, dI) vwCl [] U ∧ va_D (fun _ => True) [(A_h, .inr (1, [.null]))])) (va_Qv (fun (_ : Unit) => True) (fun _ t => ∃ (A_a : Nat) (K_a : ClassId), va_P (dC, dI) vwCl [(A_h, .inr (1, [.ref A_a])), (A_a, .inl (K_a, 110, .inl (fun _ => (0 : Int32))))] t.heap ∧ va_K (dC, dI) vwCl [(K_a, .int)] t ∧ va_D (va_A [(A_h, .inr (1, [.null]))] sz) [(A_h, .inr (1, [.ref A_a])), (A_a, .inl (K_a, 110, .inl (fun _ => (0 : Int32))))]) (va_A [(A_h, .inr (1, [.null]))] sz)) 1 110 (va_A [(A_h, .inr (1, [.null]))] sz) := by
  refine Met.ofW (cc := cX2_init) (maxL := 1) (ret := none) (by decide) rfl ?_
  intro p e s m args below meth c s₁ B hml hv
  obtain ⟨rfl, hsz, hP, hK, hD0⟩ := hv
  have hx := B.exec
  have hb := B.bytes
  have hr := B.returns
  have hts := atoms_spec (ws := wsX2_init) B.pre
  have hown : s.vm.findClass RX2 = some m.cls := findClass_of_methodNamed B.named
  have hlocks := B.notSynchronized
  have hin : meth.name = "<init>" := (name_of_methodNamed B.named B.method).1
  subst hsz
  have hD := hD0.self (sz := s.heap.size)
  generalize hAe : va_A [(A_h, .inr (1, [.null]))] s.heap.size = A at hD ⊢
  have hA : ∀ q : Nat, s.heap.size ≤ q → A q := fun q h => by rw [← hAe]; exact Or.inr h
  have hS : va_S A s.heap s.heap [] := va_S.rf
  have hP : va_P (dC, dI) vwCl [(A_h, .inr (1, [.null]))] s.heap := hP
  have hl := lv_entry ([.ref A_h]) (n := 1) (Nat.le_of_ble_eq_true rfl)
  rw [lg_entry_eq]
  generalize (lg_sl ([.ref A_h]) ++ List.replicate (1 - (lg_sl ([.ref A_h])).length) Slot.unset).toArray = ls at hl ⊢
  have hl : lv_has ls 1 [(0, .ref A_h)] := hl
  refine lv_aload_n hx hb dX2_init_0 rfl (lv_at hl 0 rfl) ?_
  refine W.objInit hx hb hown (hts (Cond.methodLink RX2 3 objectInit) hc_X2_init_0) (hts (Cond.instanceMethod objectInit) hc_X2_init_1) (hts (Cond.code objectInit ⟨#[0xb1]⟩ 1 none) hc_X2_init_2) rfl (by rw [hml]; exact hl.1) rfl dX2_init_1 (Nat.le_of_ble_eq_true rfl) (Nat.le_of_ble_eq_true rfl) ?_
  refine W.eq (g2 := F0 m 4 ls []) rfl ?_
  refine lv_aload_n hx hb dX2_init_4 rfl (lv_at hl 0 rfl) ?_
  refine lv_bipush (v := 110) hx hb dX2_init_5 (by decide) ?_
  refine va_newa (atype := .int) (ty := .int) (a0 := (110, .inl (fun _ => (0 : Int32)))) (N' := 110) hx hb (hts (Cond.arrayClass .int) hc_X2_init_3) rfl hK hP hD hS hA (fun _ => rfl) (by decide) rfl (by decide) (Nat.le_of_ble_eq_true rfl) (Nat.le_of_ble_eq_true rfl) dX2_init_7 (fun A_a K_a HA_a hK hP hD hS => ?_)
  have hP : va_P (dC, dI) vwCl [(A_h, .inr (1, [.null])), (A_a, .inl (K_a, 110, .inl (fun _ => (0 : Int32))))] HA_a := hP
  have hD : va_D A [(A_h, .inr (1, [.null])), (A_a, .inl (K_a, 110, .inl (fun _ => (0 : Int32))))] := hD
  have hK : va_K (dC, dI) vwCl [(K_a, .int)] s := hK
  refine W.widen (k := 1) (n := 110) (Nat.le_of_ble_eq_true rfl) (Nat.le_of_ble_eq_true rfl) ?_
  refine va_putF (D := (dC, dI)) (ci := 1) (v := .ref A_a) (ty := .array .int) (C := RX2) (T := TX2) (N := 1) hx hb hts hi_X2_init_X2 tyX2 tyX2_ok nmX2 hown hK hP hD hS 0 rfl rfl 0 (by decide) (hts (Cond.fieldLink RX2 9 "BuddyFiles$Home" "cells" "[I") hc_X2_init_4) (fun _ h9 => h9) rfl hin rfl (by decide +kernel) rfl rfl (Nat.le_of_ble_eq_true rfl) dX2_init_9 (fun H1 locs1 hP hD hS => ?_)
  have hP : va_P (dC, dI) vwCl [(A_h, .inr (1, [.ref A_a])), (A_a, .inl (K_a, 110, .inl (fun _ => (0 : Int32))))] H1 := hP
  have hD : va_D A [(A_h, .inr (1, [.ref A_a])), (A_a, .inl (K_a, 110, .inl (fun _ => (0 : Int32))))] := hD
  exact W.vret hx hb hr (fun t ht hW => ⟨⟨(), rfl, trivial, A_a, K_a, by rw [ht]; exact hP, va_K.moved hW.alike hK, hD⟩, hS.F ht⟩) hS.2.2 dX2_init_12
theorem hi_X4_init_X1 : ∀ w ∈ wsX10, w ∈ wsX4_init := by decide +kernel
theorem hi_X4_init_X2 : ∀ w ∈ wsX20, w ∈ wsX4_init := by decide +kernel
theorem hi_X4_init_X4 : ∀ w ∈ wsX40, w ∈ wsX4_init := by decide +kernel
theorem hc_X4_init_0 : Cond.methodLink RX4 1 objectInit ∈ wsX4_init := by decide +kernel
theorem hc_X4_init_1 : Cond.instanceMethod objectInit ∈ wsX4_init := by decide +kernel
theorem hc_X4_init_2 : Cond.code objectInit ⟨#[0xb1]⟩ 1 none ∈ wsX4_init := by decide +kernel
theorem hc_X4_init_3 : Cond.classLink RX4 7 RX1 ∈ wsX4_init := by decide +kernel
theorem hc_X4_init_4 : Cond.instantiable RX1 1 ∈ wsX4_init := by decide +kernel
theorem hc_X4_init_5 : Cond.initialized RX1 ∈ wsX4_init := by decide +kernel
theorem hc_X4_init_6 : Cond.instanceMethod yX1_init ∈ wsX4_init := by decide +kernel
theorem hc_X4_init_7 : Cond.fieldLink RX4 10 "BuddyFiles" "disk" "LBuddyFiles$Disk;" ∈ wsX4_init := by decide +kernel
theorem hc_X4_init_8 : Cond.classLink RX4 16 RX2 ∈ wsX4_init := by decide +kernel
theorem hc_X4_init_9 : Cond.instantiable RX2 1 ∈ wsX4_init := by decide +kernel
theorem hc_X4_init_10 : Cond.initialized RX2 ∈ wsX4_init := by decide +kernel
theorem hc_X4_init_11 : Cond.instanceMethod yX2_init ∈ wsX4_init := by decide +kernel
theorem hc_X4_init_12 : Cond.fieldLink RX4 19 "BuddyFiles" "memory" "LBuddyFiles$Home;" ∈ wsX4_init := by decide +kernel
theorem hc_X4_init_13 : Cond.fieldLink RX4 23 "BuddyFiles" "judged" "LBuddyFiles$Home;" ∈ wsX4_init := by decide +kernel
theorem hc_X4_init_14 : Cond.arrayClass .int ∈ wsX4_init := by decide +kernel
theorem hc_X4_init_15 : Cond.fieldLink RX4 26 "BuddyFiles" "slotOfHandle" "[I" ∈ wsX4_init := by decide +kernel
abbrev rm_X4_init : Room := { frames := 3, cells := 7, slots := 559, locals := 101 }
set_option maxHeartbeats 4000000 in
set_option maxRecDepth 100000 in
theorem k_X4_init (l : Launch) (dC : Nat → ClassId) (dI : Nat → Nat → Nat) (A_x : Nat) (sz : Nat) (o_ha : Nat → Int32) (o_da : Nat → Int32) (o_ma : Nat → Int32) (o_up : Int32) (o_fu : Int32) (hm : m_X4_startAfresh (fun _ => (0 : Int32)) (fun _ => (0 : Int32)) (fun _ => (0 : Int32)) 0 0 = some (o_ha, o_da, o_ma, o_up, o_fu)) : Met l yX4_init wsX4_init rm_X4_init (va_Pc [.ref A_x] (fun U => U.heap.size = sz ∧ va_P (dC, dI) vwCl [(A_x, .inr (2, [.null, .null, .null, .null, .int 0, .int 0]))] U.heap ∧ va_K (dC, dI) vwCl [] U ∧ va_D (fun _ => True) [(A_x, .inr (2, [.null, .null, .null, .null, .int 0, .int 0]))] ∧ va_Nw (.methodLinkNest RX4 9 yX1_init "BuddyFiles") U ∧ va_Nw (.methodLinkNest RX4 18 yX2_init "BuddyFiles") U)) (va_Qv (fun (_ : Unit) => True) (fun _ t => ∃ (A_d : Nat) (A_mh : Nat) (A_jh : Nat) (A_ha : Nat) (A_da : Nat) (A_ma : Nat) (A_ja : Nat) (K_ha : ClassId) (K_da : ClassId) (K_ma : ClassId) (K_ja : ClassId), va_P (dC, dI) vwCl (wB A_x A_d A_mh A_jh A_ha A_da A_ma A_ja K_ha K_da K_ma K_ja o_ha o_da o_ma (fun _ => (0 : Int32)) o_up o_fu) t.heap ∧ va_K (dC, dI) vwCl (tB K_ha K_da K_ma K_ja) t ∧ va_D (va_A [(A_x, .inr (2, [.null, .null, .null, .null, .int 0, .int 0]))] sz) (wB A_x A_d A_mh A_jh A_ha A_da A_ma A_ja K_ha K_da K_ma K_ja o_ha o_da o_ma (fun _ => (0 : Int32)) o_up o_fu)) (va_A [(A_x, .inr (2, [.null, .null, .null, .null, .int 0, .int 0]))] sz)) 7 559 (va_A [(A_x, .inr (2, [.null, .null, .null, .null, .int 0, .int 0]))] sz) := by
  refine Met.ofW (cc := cX4_init) (maxL := 1) (ret := none) (by decide) rfl ?_
  intro p e s m args below meth c s₁ B hml hv
  obtain ⟨rfl, hsz, hP, hK, hD0, hn9, hn18⟩ := hv
  have hx := B.exec
  have hb := B.bytes
  have hr := B.returns
  have hts := atoms_spec (ws := wsX4_init) B.pre
  have hown : s.vm.findClass RX4 = some m.cls := findClass_of_methodNamed B.named
  have hlocks := B.notSynchronized
  have hin : meth.name = "<init>" := (name_of_methodNamed B.named B.method).1
  subst hsz
  have hD := hD0.self (sz := s.heap.size)
  generalize hAe : va_A [(A_x, .inr (2, [.null, .null, .null, .null, .int 0, .int 0]))] s.heap.size = A at hD ⊢
  have hA : ∀ q : Nat, s.heap.size ≤ q → A q := fun q h => by rw [← hAe]; exact Or.inr h
  have hS : va_S A s.heap s.heap [] := va_S.rf
  have hP : va_P (dC, dI) vwCl [(A_x, .inr (2, [.null, .null, .null, .null, .int 0, .int 0]))] s.heap := hP
  have hl := lv_entry ([.ref A_x]) (n := 1) (Nat.le_of_ble_eq_true rfl)
  rw [lg_entry_eq]
  generalize (lg_sl ([.ref A_x]) ++ List.replicate (1 - (lg_sl ([.ref A_x])).length) Slot.unset).toArray = ls at hl ⊢
  have hl : lv_has ls 1 [(0, .ref A_x)] := hl
  refine lv_aload_n hx hb dX4_init_0 rfl (lv_at hl 0 rfl) ?_
  refine W.objInit hx hb hown (hts (Cond.methodLink RX4 1 objectInit) hc_X4_init_0) (hts (Cond.instanceMethod objectInit) hc_X4_init_1) (hts (Cond.code objectInit ⟨#[0xb1]⟩ 1 none) hc_X4_init_2) rfl (by rw [hml]; exact hl.1) rfl dX4_init_1 (Nat.le_of_ble_eq_true rfl) (Nat.le_of_ble_eq_true rfl) ?_
  refine W.eq (g2 := F0 m 4 ls []) rfl ?_
  refine lv_aload_n hx hb dX4_init_4 rfl (lv_at hl 0 rfl) ?_
  refine va_new (ci := 0) (fs := [.null]) (C := RX1) (T := TX1) (N := 1) hx hb hts hi_X4_init_X1 tyX1 tyX1_ok hown (hts (Cond.classLink RX4 7 RX1) hc_X4_init_3) (hts (Cond.instantiable RX1 1) hc_X4_init_4) (hts (Cond.initialized RX1) hc_X4_init_5) hK hP hD hS hA rfl (fun j hj => by rcases (show j = 0 by omega) with rfl <;> rfl) (Nat.le_of_ble_eq_true rfl) (Nat.le_of_ble_eq_true rfl) dX4_init_5 (fun A_d HA_d hP hD hS => ?_)
  have hP : va_P (dC, dI) vwCl [(A_x, .inr (2, [.null, .null, .null, .null, .int 0, .int 0])), (A_d, .inr (0, [.null]))] HA_d := hP
  have hD : va_D A [(A_x, .inr (2, [.null, .null, .null, .null, .int 0, .int 0])), (A_d, .inr (0, [.null]))] := hD
  refine W.widen (k := 1) (n := 1) (Nat.le_of_ble_eq_true rfl) (Nat.le_of_ble_eq_true rfl) ?_
  refine lv_dup hx hb dX4_init_8 rfl ?_
  have hPc := hP.sub (ws' := [(A_d, .inr (0, [.null]))]) [1] rfl
  have hDc := hD.sub (ws' := [(A_d, .inr (0, [.null]))]) [1] (by decide) rfl
  have hKc := hK.sub (tys' := []) [] rfl
  have hFc := va_free (wc := [(A_d, .inr (0, [.null]))]) hD hS hA [1] rfl
  refine va_callv (va_runIN (As := []) (rest := [.ref A_d, .ref A_x]) ⟨hx, hb, hml, hown, hts⟩ (k_X1_init l dC dI A_d HA_d.size) ⟨va_cnB (host := "BuddyFiles") 0 hts gX4_init_X1_init_n9 rfl rfl rfl hn9 (hts (Cond.initialized RX1) hc_X4_init_5) (by decide +kernel) ⟨Nat.le_of_ble_eq_true rfl, Nat.le_of_ble_eq_true rfl⟩, rfl, (hts (Cond.instanceMethod yX1_init) hc_X4_init_6)⟩ ⟨w_blW, fun U hU hW => ⟨rfl, by rw [hU], by rw [hU]; exact hPc, va_K.moved hW.alike hKc, hDc.weaken (fun _ _ _ _ => trivial)⟩⟩ rfl rfl hl.1 rfl (lv_room (Nat.le_of_ble_eq_true rfl)) dX4_init_9 ⟨Nat.le_of_ble_eq_true rfl, Nat.le_of_ble_eq_true rfl⟩) hS (fun q _ h => hFc q h) hFc (fun _ t HA_da locsA_da ht hvm _ hB hz1 hk1 hS => ?_)
  obtain ⟨A_da, K_da, hP1, hK1, hD1⟩ := hB
  rw [ht] at hP1
  have hK1 := va_K.moved hvm.symm hK1
  obtain ⟨hP, hD⟩ := va_join (wr := [(A_x, .inr (2, [.null, .null, .null, .null, .int 0, .int 0]))]) (w1 := [(A_d, .inr (0, [.ref A_da])), (A_da, .inl (K_da, 332, .inl (fun _ => (0 : Int32))))]) hP hD [1] [0] rfl rfl (by decide) (by decide) hk1 hFc hP1 hD1
  have hP : va_P (dC, dI) vwCl [(A_x, .inr (2, [.null, .null, .null, .null, .int 0, .int 0])), (A_d, .inr (0, [.ref A_da])), (A_da, .inl (K_da, 332, .inl (fun _ => (0 : Int32))))] HA_da := hP
  have hD : va_D A [(A_x, .inr (2, [.null, .null, .null, .null, .int 0, .int 0])), (A_d, .inr (0, [.ref A_da])), (A_da, .inl (K_da, 332, .inl (fun _ => (0 : Int32))))] := hD
  have hK : va_K (dC, dI) vwCl [(K_da, .int)] s := hK.app hK1
  refine W.widen (k := 2) (n := 333) (Nat.le_of_ble_eq_true rfl) (Nat.le_of_ble_eq_true rfl) ?_
  refine va_putF (D := (dC, dI)) (ci := 2) (v := .ref A_d) (ty := .object "BuddyFiles$Disk") (C := RX4) (T := TX4) (N := 6) hx hb hts hi_X4_init_X4 tyX4 tyX4_ok nmX4 hown hK hP hD hS 0 rfl rfl 0 (by decide) (hts (Cond.fieldLink RX4 10 "BuddyFiles" "disk" "LBuddyFiles$Disk;") hc_X4_init_7) (fun _ h9 => h9) rfl hin rfl (by decide +kernel) rfl rfl (Nat.le_of_ble_eq_true rfl) dX4_init_12 (fun H1 locs1 hP hD hS => ?_)
  have hP : va_P (dC, dI) vwCl [(A_x, .inr (2, [.ref A_d, .null, .null, .null, .int 0, .int 0])), (A_d, .inr (0, [.ref A_da])), (A_da, .inl (K_da, 332, .inl (fun _ => (0 : Int32))))] H1 := hP
  have hD : va_D A [(A_x, .inr (2, [.ref A_d, .null, .null, .null, .int 0, .int 0])), (A_d, .inr (0, [.ref A_da])), (A_da, .inl (K_da, 332, .inl (fun _ => (0 : Int32))))] := hD
  refine lv_aload_n hx hb dX4_init_15 rfl (lv_at hl 0 rfl) ?_
  refine va_new (ci := 1) (fs := [.null]) (C := RX2) (T := TX2) (N := 1) hx hb hts hi_X4_init_X2 tyX2 tyX2_ok hown (hts (Cond.classLink RX4 16 RX2) hc_X4_init_8) (hts (Cond.instantiable RX2 1) hc_X4_init_9) (hts (Cond.initialized RX2) hc_X4_init_10) hK hP hD hS hA rfl (fun j hj => by rcases (show j = 0 by omega) with rfl <;> rfl) (Nat.le_of_ble_eq_true rfl) (Nat.le_of_ble_eq_true rfl) dX4_init_16 (fun A_mh HA_mh hP hD hS => ?_)
  have hP : va_P (dC, dI) vwCl [(A_x, .inr (2, [.ref A_d, .null, .null, .null, .int 0, .int 0])), (A_d, .inr (0, [.ref A_da])), (A_da, .inl (K_da, 332, .inl (fun _ => (0 : Int32)))), (A_mh, .inr (1, [.null]))] HA_mh := hP
  have hD : va_D A [(A_x, .inr (2, [.ref A_d, .null, .null, .null, .int 0, .int 0])), (A_d, .inr (0, [.ref A_da])), (A_da, .inl (K_da, 332, .inl (fun _ => (0 : Int32)))), (A_mh, .inr (1, [.null]))] := hD
  refine W.widen (k := 3) (n := 334) (Nat.le_of_ble_eq_true rfl) (Nat.le_of_ble_eq_true rfl) ?_
  refine lv_dup hx hb dX4_init_19 rfl ?_
  have hPc := hP.sub (ws' := [(A_mh, .inr (1, [.null]))]) [3] rfl
  have hDc := hD.sub (ws' := [(A_mh, .inr (1, [.null]))]) [3] (by decide) rfl
  have hKc := hK.sub (tys' := []) [] rfl
  have hFc := va_free (wc := [(A_mh, .inr (1, [.null]))]) hD hS hA [3] rfl
  refine va_callv (va_runIN (As := []) (rest := [.ref A_mh, .ref A_x]) ⟨hx, hb, hml, hown, hts⟩ (k_X2_init l dC dI A_mh HA_mh.size) ⟨va_cnB (host := "BuddyFiles") 0 hts gX4_init_X2_init_n18 rfl rfl rfl hn18 (hts (Cond.initialized RX2) hc_X4_init_10) (by decide +kernel) ⟨Nat.le_of_ble_eq_true rfl, Nat.le_of_ble_eq_true rfl⟩, rfl, (hts (Cond.instanceMethod yX2_init) hc_X4_init_11)⟩ ⟨w_blW, fun U hU hW => ⟨rfl, by rw [hU], by rw [hU]; exact hPc, va_K.moved hW.alike hKc, hDc.weaken (fun _ _ _ _ => trivial)⟩⟩ rfl rfl hl.1 rfl (lv_room (Nat.le_of_ble_eq_true rfl)) dX4_init_20 ⟨Nat.le_of_ble_eq_true rfl, Nat.le_of_ble_eq_true rfl⟩) hS (fun q _ h => hFc q h) hFc (fun _ t HA_ma locsA_ma ht hvm _ hB hz1 hk1 hS => ?_)
  obtain ⟨A_ma, K_ma, hP1, hK1, hD1⟩ := hB
  rw [ht] at hP1
  have hK1 := va_K.moved hvm.symm hK1
  obtain ⟨hP, hD⟩ := va_join (wr := [(A_x, .inr (2, [.ref A_d, .null, .null, .null, .int 0, .int 0])), (A_d, .inr (0, [.ref A_da])), (A_da, .inl (K_da, 332, .inl (fun _ => (0 : Int32))))]) (w1 := [(A_mh, .inr (1, [.ref A_ma])), (A_ma, .inl (K_ma, 110, .inl (fun _ => (0 : Int32))))]) hP hD [3] [0, 1, 2] rfl rfl (by decide) (by decide) hk1 hFc hP1 hD1
  have hP : va_P (dC, dI) vwCl [(A_x, .inr (2, [.ref A_d, .null, .null, .null, .int 0, .int 0])), (A_d, .inr (0, [.ref A_da])), (A_da, .inl (K_da, 332, .inl (fun _ => (0 : Int32)))), (A_mh, .inr (1, [.ref A_ma])), (A_ma, .inl (K_ma, 110, .inl (fun _ => (0 : Int32))))] HA_ma := hP
  have hD : va_D A [(A_x, .inr (2, [.ref A_d, .null, .null, .null, .int 0, .int 0])), (A_d, .inr (0, [.ref A_da])), (A_da, .inl (K_da, 332, .inl (fun _ => (0 : Int32)))), (A_mh, .inr (1, [.ref A_ma])), (A_ma, .inl (K_ma, 110, .inl (fun _ => (0 : Int32))))] := hD
  have hK : va_K (dC, dI) vwCl [(K_da, .int), (K_ma, .int)] s := hK.app hK1
  refine W.widen (k := 4) (n := 444) (Nat.le_of_ble_eq_true rfl) (Nat.le_of_ble_eq_true rfl) ?_
  refine va_putF (D := (dC, dI)) (ci := 2) (v := .ref A_mh) (ty := .object "BuddyFiles$Home") (C := RX4) (T := TX4) (N := 6) hx hb hts hi_X4_init_X4 tyX4 tyX4_ok nmX4 hown hK hP hD hS 0 rfl rfl 1 (by decide) (hts (Cond.fieldLink RX4 19 "BuddyFiles" "memory" "LBuddyFiles$Home;") hc_X4_init_12) (fun _ h9 => h9) rfl hin rfl (by decide +kernel) rfl rfl (Nat.le_of_ble_eq_true rfl) dX4_init_23 (fun H2 locs2 hP hD hS => ?_)
  have hP : va_P (dC, dI) vwCl [(A_x, .inr (2, [.ref A_d, .ref A_mh, .null, .null, .int 0, .int 0])), (A_d, .inr (0, [.ref A_da])), (A_da, .inl (K_da, 332, .inl (fun _ => (0 : Int32)))), (A_mh, .inr (1, [.ref A_ma])), (A_ma, .inl (K_ma, 110, .inl (fun _ => (0 : Int32))))] H2 := hP
  have hD : va_D A [(A_x, .inr (2, [.ref A_d, .ref A_mh, .null, .null, .int 0, .int 0])), (A_d, .inr (0, [.ref A_da])), (A_da, .inl (K_da, 332, .inl (fun _ => (0 : Int32)))), (A_mh, .inr (1, [.ref A_ma])), (A_ma, .inl (K_ma, 110, .inl (fun _ => (0 : Int32))))] := hD
  refine lv_aload_n hx hb dX4_init_26 rfl (lv_at hl 0 rfl) ?_
  refine va_new (ci := 1) (fs := [.null]) (C := RX2) (T := TX2) (N := 1) hx hb hts hi_X4_init_X2 tyX2 tyX2_ok hown (hts (Cond.classLink RX4 16 RX2) hc_X4_init_8) (hts (Cond.instantiable RX2 1) hc_X4_init_9) (hts (Cond.initialized RX2) hc_X4_init_10) hK hP hD hS hA rfl (fun j hj => by rcases (show j = 0 by omega) with rfl <;> rfl) (Nat.le_of_ble_eq_true rfl) (Nat.le_of_ble_eq_true rfl) dX4_init_27 (fun A_jh HA_jh hP hD hS => ?_)
  have hP : va_P (dC, dI) vwCl [(A_x, .inr (2, [.ref A_d, .ref A_mh, .null, .null, .int 0, .int 0])), (A_d, .inr (0, [.ref A_da])), (A_da, .inl (K_da, 332, .inl (fun _ => (0 : Int32)))), (A_mh, .inr (1, [.ref A_ma])), (A_ma, .inl (K_ma, 110, .inl (fun _ => (0 : Int32)))), (A_jh, .inr (1, [.null]))] HA_jh := hP
  have hD : va_D A [(A_x, .inr (2, [.ref A_d, .ref A_mh, .null, .null, .int 0, .int 0])), (A_d, .inr (0, [.ref A_da])), (A_da, .inl (K_da, 332, .inl (fun _ => (0 : Int32)))), (A_mh, .inr (1, [.ref A_ma])), (A_ma, .inl (K_ma, 110, .inl (fun _ => (0 : Int32)))), (A_jh, .inr (1, [.null]))] := hD
  refine W.widen (k := 5) (n := 445) (Nat.le_of_ble_eq_true rfl) (Nat.le_of_ble_eq_true rfl) ?_
  refine lv_dup hx hb dX4_init_30 rfl ?_
  have hPc := hP.sub (ws' := [(A_jh, .inr (1, [.null]))]) [5] rfl
  have hDc := hD.sub (ws' := [(A_jh, .inr (1, [.null]))]) [5] (by decide) rfl
  have hKc := hK.sub (tys' := []) [] rfl
  have hFc := va_free (wc := [(A_jh, .inr (1, [.null]))]) hD hS hA [5] rfl
  refine va_callv (va_runIN (As := []) (rest := [.ref A_jh, .ref A_x]) ⟨hx, hb, hml, hown, hts⟩ (k_X2_init l dC dI A_jh HA_jh.size) ⟨va_cnB (host := "BuddyFiles") 0 hts gX4_init_X2_init_n18 rfl rfl rfl hn18 (hts (Cond.initialized RX2) hc_X4_init_10) (by decide +kernel) ⟨Nat.le_of_ble_eq_true rfl, Nat.le_of_ble_eq_true rfl⟩, rfl, (hts (Cond.instanceMethod yX2_init) hc_X4_init_11)⟩ ⟨w_blW, fun U hU hW => ⟨rfl, by rw [hU], by rw [hU]; exact hPc, va_K.moved hW.alike hKc, hDc.weaken (fun _ _ _ _ => trivial)⟩⟩ rfl rfl hl.1 rfl (lv_room (Nat.le_of_ble_eq_true rfl)) dX4_init_31 ⟨Nat.le_of_ble_eq_true rfl, Nat.le_of_ble_eq_true rfl⟩) hS (fun q _ h => hFc q h) hFc (fun _ t HA_ja locsA_ja ht hvm _ hB hz1 hk1 hS => ?_)
  obtain ⟨A_ja, K_ja, hP1, hK1, hD1⟩ := hB
  rw [ht] at hP1
  have hK1 := va_K.moved hvm.symm hK1
  obtain ⟨hP, hD⟩ := va_join (wr := [(A_x, .inr (2, [.ref A_d, .ref A_mh, .null, .null, .int 0, .int 0])), (A_d, .inr (0, [.ref A_da])), (A_da, .inl (K_da, 332, .inl (fun _ => (0 : Int32)))), (A_mh, .inr (1, [.ref A_ma])), (A_ma, .inl (K_ma, 110, .inl (fun _ => (0 : Int32))))]) (w1 := [(A_jh, .inr (1, [.ref A_ja])), (A_ja, .inl (K_ja, 110, .inl (fun _ => (0 : Int32))))]) hP hD [5] [0, 1, 2, 3, 4] rfl rfl (by decide) (by decide) hk1 hFc hP1 hD1
  have hP : va_P (dC, dI) vwCl [(A_x, .inr (2, [.ref A_d, .ref A_mh, .null, .null, .int 0, .int 0])), (A_d, .inr (0, [.ref A_da])), (A_da, .inl (K_da, 332, .inl (fun _ => (0 : Int32)))), (A_mh, .inr (1, [.ref A_ma])), (A_ma, .inl (K_ma, 110, .inl (fun _ => (0 : Int32)))), (A_jh, .inr (1, [.ref A_ja])), (A_ja, .inl (K_ja, 110, .inl (fun _ => (0 : Int32))))] HA_ja := hP
  have hD : va_D A [(A_x, .inr (2, [.ref A_d, .ref A_mh, .null, .null, .int 0, .int 0])), (A_d, .inr (0, [.ref A_da])), (A_da, .inl (K_da, 332, .inl (fun _ => (0 : Int32)))), (A_mh, .inr (1, [.ref A_ma])), (A_ma, .inl (K_ma, 110, .inl (fun _ => (0 : Int32)))), (A_jh, .inr (1, [.ref A_ja])), (A_ja, .inl (K_ja, 110, .inl (fun _ => (0 : Int32))))] := hD
  have hK : va_K (dC, dI) vwCl [(K_da, .int), (K_ma, .int), (K_ja, .int)] s := hK.app hK1
  refine W.widen (k := 6) (n := 555) (Nat.le_of_ble_eq_true rfl) (Nat.le_of_ble_eq_true rfl) ?_
  refine va_putF (D := (dC, dI)) (ci := 2) (v := .ref A_jh) (ty := .object "BuddyFiles$Home") (C := RX4) (T := TX4) (N := 6) hx hb hts hi_X4_init_X4 tyX4 tyX4_ok nmX4 hown hK hP hD hS 0 rfl rfl 2 (by decide) (hts (Cond.fieldLink RX4 23 "BuddyFiles" "judged" "LBuddyFiles$Home;") hc_X4_init_13) (fun _ h9 => h9) rfl hin rfl (by decide +kernel) rfl rfl (Nat.le_of_ble_eq_true rfl) dX4_init_34 (fun H3 locs3 hP hD hS => ?_)
  have hP : va_P (dC, dI) vwCl [(A_x, .inr (2, [.ref A_d, .ref A_mh, .ref A_jh, .null, .int 0, .int 0])), (A_d, .inr (0, [.ref A_da])), (A_da, .inl (K_da, 332, .inl (fun _ => (0 : Int32)))), (A_mh, .inr (1, [.ref A_ma])), (A_ma, .inl (K_ma, 110, .inl (fun _ => (0 : Int32)))), (A_jh, .inr (1, [.ref A_ja])), (A_ja, .inl (K_ja, 110, .inl (fun _ => (0 : Int32))))] H3 := hP
  have hD : va_D A [(A_x, .inr (2, [.ref A_d, .ref A_mh, .ref A_jh, .null, .int 0, .int 0])), (A_d, .inr (0, [.ref A_da])), (A_da, .inl (K_da, 332, .inl (fun _ => (0 : Int32)))), (A_mh, .inr (1, [.ref A_ma])), (A_ma, .inl (K_ma, 110, .inl (fun _ => (0 : Int32)))), (A_jh, .inr (1, [.ref A_ja])), (A_ja, .inl (K_ja, 110, .inl (fun _ => (0 : Int32))))] := hD
  refine lv_aload_n hx hb dX4_init_37 rfl (lv_at hl 0 rfl) ?_
  refine lv_iconst (v := 4) hx hb dX4_init_38 (by decide) ?_
  refine va_newa (atype := .int) (ty := .int) (a0 := (4, .inl (fun _ => (0 : Int32)))) (N' := 4) hx hb (hts (Cond.arrayClass .int) hc_X4_init_14) rfl hK hP hD hS hA (fun _ => rfl) (by decide) rfl (by decide) (Nat.le_of_ble_eq_true rfl) (Nat.le_of_ble_eq_true rfl) dX4_init_39 (fun A_ha K_ha HA_ha hK hP hD hS => ?_)
  have hP : va_P (dC, dI) vwCl [(A_x, .inr (2, [.ref A_d, .ref A_mh, .ref A_jh, .null, .int 0, .int 0])), (A_d, .inr (0, [.ref A_da])), (A_da, .inl (K_da, 332, .inl (fun _ => (0 : Int32)))), (A_mh, .inr (1, [.ref A_ma])), (A_ma, .inl (K_ma, 110, .inl (fun _ => (0 : Int32)))), (A_jh, .inr (1, [.ref A_ja])), (A_ja, .inl (K_ja, 110, .inl (fun _ => (0 : Int32)))), (A_ha, .inl (K_ha, 4, .inl (fun _ => (0 : Int32))))] HA_ha := hP
  have hD : va_D A [(A_x, .inr (2, [.ref A_d, .ref A_mh, .ref A_jh, .null, .int 0, .int 0])), (A_d, .inr (0, [.ref A_da])), (A_da, .inl (K_da, 332, .inl (fun _ => (0 : Int32)))), (A_mh, .inr (1, [.ref A_ma])), (A_ma, .inl (K_ma, 110, .inl (fun _ => (0 : Int32)))), (A_jh, .inr (1, [.ref A_ja])), (A_ja, .inl (K_ja, 110, .inl (fun _ => (0 : Int32)))), (A_ha, .inl (K_ha, 4, .inl (fun _ => (0 : Int32))))] := hD
  have hK : va_K (dC, dI) vwCl [(K_da, .int), (K_ma, .int), (K_ja, .int), (K_ha, .int)] s := hK
  refine W.widen (k := 7) (n := 559) (Nat.le_of_ble_eq_true rfl) (Nat.le_of_ble_eq_true rfl) ?_
  refine va_putF (D := (dC, dI)) (ci := 2) (v := .ref A_ha) (ty := .array .int) (C := RX4) (T := TX4) (N := 6) hx hb hts hi_X4_init_X4 tyX4 tyX4_ok nmX4 hown hK hP hD hS 0 rfl rfl 3 (by decide) (hts (Cond.fieldLink RX4 26 "BuddyFiles" "slotOfHandle" "[I") hc_X4_init_15) (fun _ h9 => h9) rfl hin rfl (by decide +kernel) rfl rfl (Nat.le_of_ble_eq_true rfl) dX4_init_41 (fun H4 locs4 hP hD hS => ?_)
  have hP : va_P (dC, dI) vwCl [(A_x, .inr (2, [.ref A_d, .ref A_mh, .ref A_jh, .ref A_ha, .int 0, .int 0])), (A_d, .inr (0, [.ref A_da])), (A_da, .inl (K_da, 332, .inl (fun _ => (0 : Int32)))), (A_mh, .inr (1, [.ref A_ma])), (A_ma, .inl (K_ma, 110, .inl (fun _ => (0 : Int32)))), (A_jh, .inr (1, [.ref A_ja])), (A_ja, .inl (K_ja, 110, .inl (fun _ => (0 : Int32)))), (A_ha, .inl (K_ha, 4, .inl (fun _ => (0 : Int32))))] H4 := hP
  have hD : va_D A [(A_x, .inr (2, [.ref A_d, .ref A_mh, .ref A_jh, .ref A_ha, .int 0, .int 0])), (A_d, .inr (0, [.ref A_da])), (A_da, .inl (K_da, 332, .inl (fun _ => (0 : Int32)))), (A_mh, .inr (1, [.ref A_ma])), (A_ma, .inl (K_ma, 110, .inl (fun _ => (0 : Int32)))), (A_jh, .inr (1, [.ref A_ja])), (A_ja, .inl (K_ja, 110, .inl (fun _ => (0 : Int32)))), (A_ha, .inl (K_ha, 4, .inl (fun _ => (0 : Int32))))] := hD
  refine lv_aload_n hx hb dX4_init_44 rfl (lv_at hl 0 rfl) ?_
  have hP : va_P (dC, dI) vwCl (wB A_x A_d A_mh A_jh A_ha A_da A_ma A_ja K_ha K_da K_ma K_ja (fun _ => (0 : Int32)) (fun _ => (0 : Int32)) (fun _ => (0 : Int32)) (fun _ => (0 : Int32)) 0 0) H4 := hP.sub [0, 1, 3, 5, 7, 2, 4, 6] rfl
  have hD : va_D A (wB A_x A_d A_mh A_jh A_ha A_da A_ma A_ja K_ha K_da K_ma K_ja (fun _ => (0 : Int32)) (fun _ => (0 : Int32)) (fun _ => (0 : Int32)) (fun _ => (0 : Int32)) 0 0) := hD.sub [0, 1, 3, 5, 7, 2, 4, 6] (by decide) rfl
  have hK : va_K (dC, dI) vwCl (tB K_ha K_da K_ma K_ja) s := hK.sub [3, 0, 1, 2] rfl
  have hFc := va_free (wc := (wB A_x A_d A_mh A_jh A_ha A_da A_ma A_ja K_ha K_da K_ma K_ja (fun _ => (0 : Int32)) (fun _ => (0 : Int32)) (fun _ => (0 : Int32)) (fun _ => (0 : Int32)) 0 0)) hD hS hA [0, 1, 2, 3, 4, 5, 6, 7] rfl
  refine va_callv (va_runV (As := []) (rest := []) ⟨hx, hb, hml, hown, hts⟩ (k_X4_startAfresh l dC dI A_x A_d A_mh A_jh A_ha A_da A_ma A_ja K_ha K_da K_ma K_ja (fun _ => (0 : Int32)) (fun _ => (0 : Int32)) (fun _ => (0 : Int32)) (fun _ => (0 : Int32)) 0 0 H4.size o_ha o_da o_ma o_up o_fu hm) (cwV 0 hts gX4_init_X4_startAfresh rfl rfl rfl (by decide +kernel) ⟨Nat.le_of_ble_eq_true rfl, Nat.le_of_ble_eq_true rfl⟩) ⟨w_blW, va_recv hK hP (ci := 2) (q0 := 0) rfl rfl, fun U hU hW => ⟨rfl, by rw [hU], by rw [hU]; exact hP, va_K.moved hW.alike hK, hD.weaken (fun _ _ _ _ => trivial)⟩⟩ rfl rfl hl.1 rfl (lv_room (Nat.le_of_ble_eq_true rfl)) dX4_init_45 ⟨Nat.le_of_ble_eq_true rfl, Nat.le_of_ble_eq_true rfl⟩) hS (fun q _ h => hFc q h) hFc (fun _ t H9 locs9 ht hvm _ hB hz1 hk1 hS => ?_)
  refine W.widen (k := 7) (n := 559) (Nat.le_of_ble_eq_true rfl) (Nat.le_of_ble_eq_true rfl) ?_
  obtain ⟨hP1, hD1⟩ := hB
  rw [ht] at hP1
  obtain ⟨hP, hD⟩ := va_join (wr := []) (w1 := (wB A_x A_d A_mh A_jh A_ha A_da A_ma A_ja K_ha K_da K_ma K_ja o_ha o_da o_ma (fun _ => (0 : Int32)) o_up o_fu)) hP hD [0, 1, 2, 3, 4, 5, 6, 7] [] rfl rfl (by decide) (by decide) hk1 hFc hP1 hD1
  have hP : va_P (dC, dI) vwCl (wB A_x A_d A_mh A_jh A_ha A_da A_ma A_ja K_ha K_da K_ma K_ja o_ha o_da o_ma (fun _ => (0 : Int32)) o_up o_fu) H9 := hP
  have hD : va_D A (wB A_x A_d A_mh A_jh A_ha A_da A_ma A_ja K_ha K_da K_ma K_ja o_ha o_da o_ma (fun _ => (0 : Int32)) o_up o_fu) := hD
  exact W.vret hx hb hr (fun t ht hW => ⟨⟨(), rfl, trivial, A_d, A_mh, A_jh, A_ha, A_da, A_ma, A_ja, K_ha, K_da, K_ma, K_ja, by rw [ht]; exact hP, va_K.moved hW.alike hK, hD⟩, hS.F ht⟩) hS.2.2 dX4_init_48
theorem hi_X5_init_X5 : ∀ w ∈ wsX50, w ∈ wsX5_init := by decide +kernel
theorem hc_X5_init_0 : Cond.methodLink RX5 1 objectInit ∈ wsX5_init := by decide +kernel
theorem hc_X5_init_1 : Cond.instanceMethod objectInit ∈ wsX5_init := by decide +kernel
theorem hc_X5_init_2 : Cond.code objectInit ⟨#[0xb1]⟩ 1 none ∈ wsX5_init := by decide +kernel
theorem hc_X5_init_3 : Cond.arrayClass .int ∈ wsX5_init := by decide +kernel
theorem hc_X5_init_4 : Cond.fieldLink RX5 7 "BuddyFilesModel" "disk" "[I" ∈ wsX5_init := by decide +kernel
theorem hc_X5_init_5 : Cond.fieldLink RX5 13 "BuddyFilesModel" "mem" "[I" ∈ wsX5_init := by decide +kernel
theorem hc_X5_init_6 : Cond.fieldLink RX5 16 "BuddyFilesModel" "handle" "[I" ∈ wsX5_init := by decide +kernel
theorem hc_X5_init_7 : Cond.fieldLink RX5 19 "BuddyFilesModel" "home" "[I" ∈ wsX5_init := by decide +kernel
theorem hc_X5_init_8 : Cond.fieldLink RX5 22 "BuddyFilesModel" "times" "[I" ∈ wsX5_init := by decide +kernel
theorem hc_X5_init_9 : Cond.arrayClass .boolean ∈ wsX5_init := by decide +kernel
theorem hc_X5_init_10 : Cond.fieldLink RX5 25 "BuddyFilesModel" "belongs" "[Z" ∈ wsX5_init := by decide +kernel
theorem hc_X5_init_11 : Cond.fieldLink RX5 29 "BuddyFilesModel" "tryExtent" "[I" ∈ wsX5_init := by decide +kernel
theorem hc_X5_init_12 : Cond.fieldLink RX5 32 "BuddyFilesModel" "changed" "[I" ∈ wsX5_init := by decide +kernel
abbrev rm_X5_init : Room := { frames := 2, cells := 8, slots := 766, locals := 43 }
set_option maxHeartbeats 4000000 in
set_option maxRecDepth 100000 in
theorem k_X5_init (l : Launch) (dC : Nat → ClassId) (dI : Nat → Nat → Nat) (A_x : Nat) (sz : Nat) (o_da : Nat → Int32) (o_ma : Nat → Int32) (o_ha : Nat → Int32) (o_up : Int32) (o_fu : Int32) (hm : m_X5_format (fun _ => (0 : Int32)) (fun _ => (0 : Int32)) (fun _ => (0 : Int32)) 0 0 = some (o_da, o_ma, o_ha, o_up, o_fu)) : Met l yX5_init wsX5_init rm_X5_init (va_Pc [.ref A_x] (fun U => U.heap.size = sz ∧ va_P (dC, dI) vwCl [(A_x, .inr (3, [.null, .int 0, .int 0, .null, .null, .null, .null, .null, .int 0, .int 0, .null, .null]))] U.heap ∧ va_K (dC, dI) vwCl [] U ∧ va_D (fun _ => True) [(A_x, .inr (3, [.null, .int 0, .int 0, .null, .null, .null, .null, .null, .int 0, .int 0, .null, .null]))])) (va_Qv (fun (_ : Unit) => True) (fun _ t => ∃ (A_da : Nat) (A_ma : Nat) (A_ha : Nat) (A_ho : Nat) (A_ti : Nat) (A_be : Nat) (A_te : Nat) (A_ch : Nat) (K_da : ClassId) (K_ma : ClassId) (K_ha : ClassId) (K_ho : ClassId) (K_ti : ClassId) (K_be : ClassId) (K_te : ClassId) (K_ch : ClassId), va_P (dC, dI) vwCl (wM A_x A_da A_ma A_ha A_ho A_ti A_be A_te A_ch K_da K_ma K_ha K_ho K_ti K_be K_te K_ch o_da o_ma o_ha (fun _ => (0 : Int32)) (fun _ => (0 : Int32)) (fun _ => (0 : Int32)) (fun _ => (0 : Int32)) (fun _ => (0 : Int32)) o_up o_fu 0 0) t.heap ∧ va_K (dC, dI) vwCl (tM K_da K_ma K_ha K_ho K_ti K_be K_te K_ch) t ∧ va_D (va_A [(A_x, .inr (3, [.null, .int 0, .int 0, .null, .null, .null, .null, .null, .int 0, .int 0, .null, .null]))] sz) (wM A_x A_da A_ma A_ha A_ho A_ti A_be A_te A_ch K_da K_ma K_ha K_ho K_ti K_be K_te K_ch o_da o_ma o_ha (fun _ => (0 : Int32)) (fun _ => (0 : Int32)) (fun _ => (0 : Int32)) (fun _ => (0 : Int32)) (fun _ => (0 : Int32)) o_up o_fu 0 0)) (va_A [(A_x, .inr (3, [.null, .int 0, .int 0, .null, .null, .null, .null, .null, .int 0, .int 0, .null, .null]))] sz)) 8 766 (va_A [(A_x, .inr (3, [.null, .int 0, .int 0, .null, .null, .null, .null, .null, .int 0, .int 0, .null, .null]))] sz) := by
  refine Met.ofW (cc := cX5_init) (maxL := 1) (ret := none) (by decide) rfl ?_
  intro p e s m args below meth c s₁ B hml hv
  obtain ⟨rfl, hsz, hP, hK, hD0⟩ := hv
  have hx := B.exec
  have hb := B.bytes
  have hr := B.returns
  have hts := atoms_spec (ws := wsX5_init) B.pre
  have hown : s.vm.findClass RX5 = some m.cls := findClass_of_methodNamed B.named
  have hlocks := B.notSynchronized
  have hin : meth.name = "<init>" := (name_of_methodNamed B.named B.method).1
  subst hsz
  have hD := hD0.self (sz := s.heap.size)
  generalize hAe : va_A [(A_x, .inr (3, [.null, .int 0, .int 0, .null, .null, .null, .null, .null, .int 0, .int 0, .null, .null]))] s.heap.size = A at hD ⊢
  have hA : ∀ q : Nat, s.heap.size ≤ q → A q := fun q h => by rw [← hAe]; exact Or.inr h
  have hS : va_S A s.heap s.heap [] := va_S.rf
  have hP : va_P (dC, dI) vwCl [(A_x, .inr (3, [.null, .int 0, .int 0, .null, .null, .null, .null, .null, .int 0, .int 0, .null, .null]))] s.heap := hP
  have hl := lv_entry ([.ref A_x]) (n := 1) (Nat.le_of_ble_eq_true rfl)
  rw [lg_entry_eq]
  generalize (lg_sl ([.ref A_x]) ++ List.replicate (1 - (lg_sl ([.ref A_x])).length) Slot.unset).toArray = ls at hl ⊢
  have hl : lv_has ls 1 [(0, .ref A_x)] := hl
  refine lv_aload_n hx hb dX5_init_0 rfl (lv_at hl 0 rfl) ?_
  refine W.objInit hx hb hown (hts (Cond.methodLink RX5 1 objectInit) hc_X5_init_0) (hts (Cond.instanceMethod objectInit) hc_X5_init_1) (hts (Cond.code objectInit ⟨#[0xb1]⟩ 1 none) hc_X5_init_2) rfl (by rw [hml]; exact hl.1) rfl dX5_init_1 (Nat.le_of_ble_eq_true rfl) (Nat.le_of_ble_eq_true rfl) ?_
  refine W.eq (g2 := F0 m 4 ls []) rfl ?_
  refine lv_aload_n hx hb dX5_init_4 rfl (lv_at hl 0 rfl) ?_
  refine lv_sipush (v := 332) hx hb dX5_init_5 (by decide) ?_
  refine va_newa (atype := .int) (ty := .int) (a0 := (332, .inl (fun _ => (0 : Int32)))) (N' := 332) hx hb (hts (Cond.arrayClass .int) hc_X5_init_3) rfl hK hP hD hS hA (fun _ => rfl) (by decide) rfl (by decide) (Nat.le_of_ble_eq_true rfl) (Nat.le_of_ble_eq_true rfl) dX5_init_8 (fun A_da K_da HA_da hK hP hD hS => ?_)
  have hP : va_P (dC, dI) vwCl [(A_x, .inr (3, [.null, .int 0, .int 0, .null, .null, .null, .null, .null, .int 0, .int 0, .null, .null])), (A_da, .inl (K_da, 332, .inl (fun _ => (0 : Int32))))] HA_da := hP
  have hD : va_D A [(A_x, .inr (3, [.null, .int 0, .int 0, .null, .null, .null, .null, .null, .int 0, .int 0, .null, .null])), (A_da, .inl (K_da, 332, .inl (fun _ => (0 : Int32))))] := hD
  have hK : va_K (dC, dI) vwCl [(K_da, .int)] s := hK
  refine W.widen (k := 1) (n := 332) (Nat.le_of_ble_eq_true rfl) (Nat.le_of_ble_eq_true rfl) ?_
  refine va_put (D := (dC, dI)) (ci := 3) (v := .ref A_da) (ty := .array .int) (C := RX5) (T := TX5) (N := 12) hx hb hts hi_X5_init_X5 tyX5 tyX5_ok nmX5 hown hK hP hD hS 0 rfl rfl 0 (by decide) (hts (Cond.fieldLink RX5 7 "BuddyFilesModel" "disk" "[I") hc_X5_init_4) (fun _ h9 => h9) rfl (by decide +kernel) rfl rfl (Nat.le_of_ble_eq_true rfl) dX5_init_10 (fun H1 locs1 hP hD hS => ?_)
  have hP : va_P (dC, dI) vwCl [(A_x, .inr (3, [.ref A_da, .int 0, .int 0, .null, .null, .null, .null, .null, .int 0, .int 0, .null, .null])), (A_da, .inl (K_da, 332, .inl (fun _ => (0 : Int32))))] H1 := hP
  have hD : va_D A [(A_x, .inr (3, [.ref A_da, .int 0, .int 0, .null, .null, .null, .null, .null, .int 0, .int 0, .null, .null])), (A_da, .inl (K_da, 332, .inl (fun _ => (0 : Int32))))] := hD
  refine lv_aload_n hx hb dX5_init_13 rfl (lv_at hl 0 rfl) ?_
  refine lv_bipush (v := 110) hx hb dX5_init_14 (by decide) ?_
  refine va_newa (atype := .int) (ty := .int) (a0 := (110, .inl (fun _ => (0 : Int32)))) (N' := 110) hx hb (hts (Cond.arrayClass .int) hc_X5_init_3) rfl hK hP hD hS hA (fun _ => rfl) (by decide) rfl (by decide) (Nat.le_of_ble_eq_true rfl) (Nat.le_of_ble_eq_true rfl) dX5_init_16 (fun A_ma K_ma HA_ma hK hP hD hS => ?_)
  have hP : va_P (dC, dI) vwCl [(A_x, .inr (3, [.ref A_da, .int 0, .int 0, .null, .null, .null, .null, .null, .int 0, .int 0, .null, .null])), (A_da, .inl (K_da, 332, .inl (fun _ => (0 : Int32)))), (A_ma, .inl (K_ma, 110, .inl (fun _ => (0 : Int32))))] HA_ma := hP
  have hD : va_D A [(A_x, .inr (3, [.ref A_da, .int 0, .int 0, .null, .null, .null, .null, .null, .int 0, .int 0, .null, .null])), (A_da, .inl (K_da, 332, .inl (fun _ => (0 : Int32)))), (A_ma, .inl (K_ma, 110, .inl (fun _ => (0 : Int32))))] := hD
  have hK : va_K (dC, dI) vwCl [(K_da, .int), (K_ma, .int)] s := hK
  refine W.widen (k := 2) (n := 442) (Nat.le_of_ble_eq_true rfl) (Nat.le_of_ble_eq_true rfl) ?_
  refine va_put (D := (dC, dI)) (ci := 3) (v := .ref A_ma) (ty := .array .int) (C := RX5) (T := TX5) (N := 12) hx hb hts hi_X5_init_X5 tyX5 tyX5_ok nmX5 hown hK hP hD hS 0 rfl rfl 3 (by decide) (hts (Cond.fieldLink RX5 13 "BuddyFilesModel" "mem" "[I") hc_X5_init_5) (fun _ h9 => h9) rfl (by decide +kernel) rfl rfl (Nat.le_of_ble_eq_true rfl) dX5_init_18 (fun H2 locs2 hP hD hS => ?_)
  have hP : va_P (dC, dI) vwCl [(A_x, .inr (3, [.ref A_da, .int 0, .int 0, .ref A_ma, .null, .null, .null, .null, .int 0, .int 0, .null, .null])), (A_da, .inl (K_da, 332, .inl (fun _ => (0 : Int32)))), (A_ma, .inl (K_ma, 110, .inl (fun _ => (0 : Int32))))] H2 := hP
  have hD : va_D A [(A_x, .inr (3, [.ref A_da, .int 0, .int 0, .ref A_ma, .null, .null, .null, .null, .int 0, .int 0, .null, .null])), (A_da, .inl (K_da, 332, .inl (fun _ => (0 : Int32)))), (A_ma, .inl (K_ma, 110, .inl (fun _ => (0 : Int32))))] := hD
  refine lv_aload_n hx hb dX5_init_21 rfl (lv_at hl 0 rfl) ?_
  refine lv_iconst (v := 4) hx hb dX5_init_22 (by decide) ?_
  refine va_newa (atype := .int) (ty := .int) (a0 := (4, .inl (fun _ => (0 : Int32)))) (N' := 4) hx hb (hts (Cond.arrayClass .int) hc_X5_init_3) rfl hK hP hD hS hA (fun _ => rfl) (by decide) rfl (by decide) (Nat.le_of_ble_eq_true rfl) (Nat.le_of_ble_eq_true rfl) dX5_init_23 (fun A_ha K_ha HA_ha hK hP hD hS => ?_)
  have hP : va_P (dC, dI) vwCl [(A_x, .inr (3, [.ref A_da, .int 0, .int 0, .ref A_ma, .null, .null, .null, .null, .int 0, .int 0, .null, .null])), (A_da, .inl (K_da, 332, .inl (fun _ => (0 : Int32)))), (A_ma, .inl (K_ma, 110, .inl (fun _ => (0 : Int32)))), (A_ha, .inl (K_ha, 4, .inl (fun _ => (0 : Int32))))] HA_ha := hP
  have hD : va_D A [(A_x, .inr (3, [.ref A_da, .int 0, .int 0, .ref A_ma, .null, .null, .null, .null, .int 0, .int 0, .null, .null])), (A_da, .inl (K_da, 332, .inl (fun _ => (0 : Int32)))), (A_ma, .inl (K_ma, 110, .inl (fun _ => (0 : Int32)))), (A_ha, .inl (K_ha, 4, .inl (fun _ => (0 : Int32))))] := hD
  have hK : va_K (dC, dI) vwCl [(K_da, .int), (K_ma, .int), (K_ha, .int)] s := hK
  refine W.widen (k := 3) (n := 446) (Nat.le_of_ble_eq_true rfl) (Nat.le_of_ble_eq_true rfl) ?_
  refine va_put (D := (dC, dI)) (ci := 3) (v := .ref A_ha) (ty := .array .int) (C := RX5) (T := TX5) (N := 12) hx hb hts hi_X5_init_X5 tyX5 tyX5_ok nmX5 hown hK hP hD hS 0 rfl rfl 4 (by decide) (hts (Cond.fieldLink RX5 16 "BuddyFilesModel" "handle" "[I") hc_X5_init_6) (fun _ h9 => h9) rfl (by decide +kernel) rfl rfl (Nat.le_of_ble_eq_true rfl) dX5_init_25 (fun H3 locs3 hP hD hS => ?_)
  have hP : va_P (dC, dI) vwCl [(A_x, .inr (3, [.ref A_da, .int 0, .int 0, .ref A_ma, .ref A_ha, .null, .null, .null, .int 0, .int 0, .null, .null])), (A_da, .inl (K_da, 332, .inl (fun _ => (0 : Int32)))), (A_ma, .inl (K_ma, 110, .inl (fun _ => (0 : Int32)))), (A_ha, .inl (K_ha, 4, .inl (fun _ => (0 : Int32))))] H3 := hP
  have hD : va_D A [(A_x, .inr (3, [.ref A_da, .int 0, .int 0, .ref A_ma, .ref A_ha, .null, .null, .null, .int 0, .int 0, .null, .null])), (A_da, .inl (K_da, 332, .inl (fun _ => (0 : Int32)))), (A_ma, .inl (K_ma, 110, .inl (fun _ => (0 : Int32)))), (A_ha, .inl (K_ha, 4, .inl (fun _ => (0 : Int32))))] := hD
  refine lv_aload_n hx hb dX5_init_28 rfl (lv_at hl 0 rfl) ?_
  refine lv_bipush (v := 110) hx hb dX5_init_29 (by decide) ?_
  refine va_newa (atype := .int) (ty := .int) (a0 := (110, .inl (fun _ => (0 : Int32)))) (N' := 110) hx hb (hts (Cond.arrayClass .int) hc_X5_init_3) rfl hK hP hD hS hA (fun _ => rfl) (by decide) rfl (by decide) (Nat.le_of_ble_eq_true rfl) (Nat.le_of_ble_eq_true rfl) dX5_init_31 (fun A_ho K_ho HA_ho hK hP hD hS => ?_)
  have hP : va_P (dC, dI) vwCl [(A_x, .inr (3, [.ref A_da, .int 0, .int 0, .ref A_ma, .ref A_ha, .null, .null, .null, .int 0, .int 0, .null, .null])), (A_da, .inl (K_da, 332, .inl (fun _ => (0 : Int32)))), (A_ma, .inl (K_ma, 110, .inl (fun _ => (0 : Int32)))), (A_ha, .inl (K_ha, 4, .inl (fun _ => (0 : Int32)))), (A_ho, .inl (K_ho, 110, .inl (fun _ => (0 : Int32))))] HA_ho := hP
  have hD : va_D A [(A_x, .inr (3, [.ref A_da, .int 0, .int 0, .ref A_ma, .ref A_ha, .null, .null, .null, .int 0, .int 0, .null, .null])), (A_da, .inl (K_da, 332, .inl (fun _ => (0 : Int32)))), (A_ma, .inl (K_ma, 110, .inl (fun _ => (0 : Int32)))), (A_ha, .inl (K_ha, 4, .inl (fun _ => (0 : Int32)))), (A_ho, .inl (K_ho, 110, .inl (fun _ => (0 : Int32))))] := hD
  have hK : va_K (dC, dI) vwCl [(K_da, .int), (K_ma, .int), (K_ha, .int), (K_ho, .int)] s := hK
  refine W.widen (k := 4) (n := 556) (Nat.le_of_ble_eq_true rfl) (Nat.le_of_ble_eq_true rfl) ?_
  refine va_put (D := (dC, dI)) (ci := 3) (v := .ref A_ho) (ty := .array .int) (C := RX5) (T := TX5) (N := 12) hx hb hts hi_X5_init_X5 tyX5 tyX5_ok nmX5 hown hK hP hD hS 0 rfl rfl 5 (by decide) (hts (Cond.fieldLink RX5 19 "BuddyFilesModel" "home" "[I") hc_X5_init_7) (fun _ h9 => h9) rfl (by decide +kernel) rfl rfl (Nat.le_of_ble_eq_true rfl) dX5_init_33 (fun H4 locs4 hP hD hS => ?_)
  have hP : va_P (dC, dI) vwCl [(A_x, .inr (3, [.ref A_da, .int 0, .int 0, .ref A_ma, .ref A_ha, .ref A_ho, .null, .null, .int 0, .int 0, .null, .null])), (A_da, .inl (K_da, 332, .inl (fun _ => (0 : Int32)))), (A_ma, .inl (K_ma, 110, .inl (fun _ => (0 : Int32)))), (A_ha, .inl (K_ha, 4, .inl (fun _ => (0 : Int32)))), (A_ho, .inl (K_ho, 110, .inl (fun _ => (0 : Int32))))] H4 := hP
  have hD : va_D A [(A_x, .inr (3, [.ref A_da, .int 0, .int 0, .ref A_ma, .ref A_ha, .ref A_ho, .null, .null, .int 0, .int 0, .null, .null])), (A_da, .inl (K_da, 332, .inl (fun _ => (0 : Int32)))), (A_ma, .inl (K_ma, 110, .inl (fun _ => (0 : Int32)))), (A_ha, .inl (K_ha, 4, .inl (fun _ => (0 : Int32)))), (A_ho, .inl (K_ho, 110, .inl (fun _ => (0 : Int32))))] := hD
  refine lv_aload_n hx hb dX5_init_36 rfl (lv_at hl 0 rfl) ?_
  refine lv_bipush (v := 32) hx hb dX5_init_37 (by decide) ?_
  refine va_newa (atype := .int) (ty := .int) (a0 := (32, .inl (fun _ => (0 : Int32)))) (N' := 32) hx hb (hts (Cond.arrayClass .int) hc_X5_init_3) rfl hK hP hD hS hA (fun _ => rfl) (by decide) rfl (by decide) (Nat.le_of_ble_eq_true rfl) (Nat.le_of_ble_eq_true rfl) dX5_init_39 (fun A_ti K_ti HA_ti hK hP hD hS => ?_)
  have hP : va_P (dC, dI) vwCl [(A_x, .inr (3, [.ref A_da, .int 0, .int 0, .ref A_ma, .ref A_ha, .ref A_ho, .null, .null, .int 0, .int 0, .null, .null])), (A_da, .inl (K_da, 332, .inl (fun _ => (0 : Int32)))), (A_ma, .inl (K_ma, 110, .inl (fun _ => (0 : Int32)))), (A_ha, .inl (K_ha, 4, .inl (fun _ => (0 : Int32)))), (A_ho, .inl (K_ho, 110, .inl (fun _ => (0 : Int32)))), (A_ti, .inl (K_ti, 32, .inl (fun _ => (0 : Int32))))] HA_ti := hP
  have hD : va_D A [(A_x, .inr (3, [.ref A_da, .int 0, .int 0, .ref A_ma, .ref A_ha, .ref A_ho, .null, .null, .int 0, .int 0, .null, .null])), (A_da, .inl (K_da, 332, .inl (fun _ => (0 : Int32)))), (A_ma, .inl (K_ma, 110, .inl (fun _ => (0 : Int32)))), (A_ha, .inl (K_ha, 4, .inl (fun _ => (0 : Int32)))), (A_ho, .inl (K_ho, 110, .inl (fun _ => (0 : Int32)))), (A_ti, .inl (K_ti, 32, .inl (fun _ => (0 : Int32))))] := hD
  have hK : va_K (dC, dI) vwCl [(K_da, .int), (K_ma, .int), (K_ha, .int), (K_ho, .int), (K_ti, .int)] s := hK
  refine W.widen (k := 5) (n := 588) (Nat.le_of_ble_eq_true rfl) (Nat.le_of_ble_eq_true rfl) ?_
  refine va_put (D := (dC, dI)) (ci := 3) (v := .ref A_ti) (ty := .array .int) (C := RX5) (T := TX5) (N := 12) hx hb hts hi_X5_init_X5 tyX5 tyX5_ok nmX5 hown hK hP hD hS 0 rfl rfl 6 (by decide) (hts (Cond.fieldLink RX5 22 "BuddyFilesModel" "times" "[I") hc_X5_init_8) (fun _ h9 => h9) rfl (by decide +kernel) rfl rfl (Nat.le_of_ble_eq_true rfl) dX5_init_41 (fun H5 locs5 hP hD hS => ?_)
  have hP : va_P (dC, dI) vwCl [(A_x, .inr (3, [.ref A_da, .int 0, .int 0, .ref A_ma, .ref A_ha, .ref A_ho, .ref A_ti, .null, .int 0, .int 0, .null, .null])), (A_da, .inl (K_da, 332, .inl (fun _ => (0 : Int32)))), (A_ma, .inl (K_ma, 110, .inl (fun _ => (0 : Int32)))), (A_ha, .inl (K_ha, 4, .inl (fun _ => (0 : Int32)))), (A_ho, .inl (K_ho, 110, .inl (fun _ => (0 : Int32)))), (A_ti, .inl (K_ti, 32, .inl (fun _ => (0 : Int32))))] H5 := hP
  have hD : va_D A [(A_x, .inr (3, [.ref A_da, .int 0, .int 0, .ref A_ma, .ref A_ha, .ref A_ho, .ref A_ti, .null, .int 0, .int 0, .null, .null])), (A_da, .inl (K_da, 332, .inl (fun _ => (0 : Int32)))), (A_ma, .inl (K_ma, 110, .inl (fun _ => (0 : Int32)))), (A_ha, .inl (K_ha, 4, .inl (fun _ => (0 : Int32)))), (A_ho, .inl (K_ho, 110, .inl (fun _ => (0 : Int32)))), (A_ti, .inl (K_ti, 32, .inl (fun _ => (0 : Int32))))] := hD
  refine lv_aload_n hx hb dX5_init_44 rfl (lv_at hl 0 rfl) ?_
  refine lv_bipush (v := 64) hx hb dX5_init_45 (by decide) ?_
  refine va_newa (atype := .boolean) (ty := .boolean) (a0 := (64, .inl (fun _ => (0 : Int32)))) (N' := 64) hx hb (hts (Cond.arrayClass .boolean) hc_X5_init_9) rfl hK hP hD hS hA (fun _ => rfl) (by decide) rfl (by decide) (Nat.le_of_ble_eq_true rfl) (Nat.le_of_ble_eq_true rfl) dX5_init_47 (fun A_be K_be HA_be hK hP hD hS => ?_)
  have hP : va_P (dC, dI) vwCl [(A_x, .inr (3, [.ref A_da, .int 0, .int 0, .ref A_ma, .ref A_ha, .ref A_ho, .ref A_ti, .null, .int 0, .int 0, .null, .null])), (A_da, .inl (K_da, 332, .inl (fun _ => (0 : Int32)))), (A_ma, .inl (K_ma, 110, .inl (fun _ => (0 : Int32)))), (A_ha, .inl (K_ha, 4, .inl (fun _ => (0 : Int32)))), (A_ho, .inl (K_ho, 110, .inl (fun _ => (0 : Int32)))), (A_ti, .inl (K_ti, 32, .inl (fun _ => (0 : Int32)))), (A_be, .inl (K_be, 64, .inl (fun _ => (0 : Int32))))] HA_be := hP
  have hD : va_D A [(A_x, .inr (3, [.ref A_da, .int 0, .int 0, .ref A_ma, .ref A_ha, .ref A_ho, .ref A_ti, .null, .int 0, .int 0, .null, .null])), (A_da, .inl (K_da, 332, .inl (fun _ => (0 : Int32)))), (A_ma, .inl (K_ma, 110, .inl (fun _ => (0 : Int32)))), (A_ha, .inl (K_ha, 4, .inl (fun _ => (0 : Int32)))), (A_ho, .inl (K_ho, 110, .inl (fun _ => (0 : Int32)))), (A_ti, .inl (K_ti, 32, .inl (fun _ => (0 : Int32)))), (A_be, .inl (K_be, 64, .inl (fun _ => (0 : Int32))))] := hD
  have hK : va_K (dC, dI) vwCl [(K_da, .int), (K_ma, .int), (K_ha, .int), (K_ho, .int), (K_ti, .int), (K_be, .boolean)] s := hK
  refine W.widen (k := 6) (n := 652) (Nat.le_of_ble_eq_true rfl) (Nat.le_of_ble_eq_true rfl) ?_
  refine va_put (D := (dC, dI)) (ci := 3) (v := .ref A_be) (ty := .array .boolean) (C := RX5) (T := TX5) (N := 12) hx hb hts hi_X5_init_X5 tyX5 tyX5_ok nmX5 hown hK hP hD hS 0 rfl rfl 7 (by decide) (hts (Cond.fieldLink RX5 25 "BuddyFilesModel" "belongs" "[Z") hc_X5_init_10) (fun _ h9 => h9) rfl (by decide +kernel) rfl rfl (Nat.le_of_ble_eq_true rfl) dX5_init_49 (fun H6 locs6 hP hD hS => ?_)
  have hP : va_P (dC, dI) vwCl [(A_x, .inr (3, [.ref A_da, .int 0, .int 0, .ref A_ma, .ref A_ha, .ref A_ho, .ref A_ti, .ref A_be, .int 0, .int 0, .null, .null])), (A_da, .inl (K_da, 332, .inl (fun _ => (0 : Int32)))), (A_ma, .inl (K_ma, 110, .inl (fun _ => (0 : Int32)))), (A_ha, .inl (K_ha, 4, .inl (fun _ => (0 : Int32)))), (A_ho, .inl (K_ho, 110, .inl (fun _ => (0 : Int32)))), (A_ti, .inl (K_ti, 32, .inl (fun _ => (0 : Int32)))), (A_be, .inl (K_be, 64, .inl (fun _ => (0 : Int32))))] H6 := hP
  have hD : va_D A [(A_x, .inr (3, [.ref A_da, .int 0, .int 0, .ref A_ma, .ref A_ha, .ref A_ho, .ref A_ti, .ref A_be, .int 0, .int 0, .null, .null])), (A_da, .inl (K_da, 332, .inl (fun _ => (0 : Int32)))), (A_ma, .inl (K_ma, 110, .inl (fun _ => (0 : Int32)))), (A_ha, .inl (K_ha, 4, .inl (fun _ => (0 : Int32)))), (A_ho, .inl (K_ho, 110, .inl (fun _ => (0 : Int32)))), (A_ti, .inl (K_ti, 32, .inl (fun _ => (0 : Int32)))), (A_be, .inl (K_be, 64, .inl (fun _ => (0 : Int32))))] := hD
  refine lv_aload_n hx hb dX5_init_52 rfl (lv_at hl 0 rfl) ?_
  refine lv_iconst (v := 4) hx hb dX5_init_53 (by decide) ?_
  refine va_newa (atype := .int) (ty := .int) (a0 := (4, .inl (fun _ => (0 : Int32)))) (N' := 4) hx hb (hts (Cond.arrayClass .int) hc_X5_init_3) rfl hK hP hD hS hA (fun _ => rfl) (by decide) rfl (by decide) (Nat.le_of_ble_eq_true rfl) (Nat.le_of_ble_eq_true rfl) dX5_init_54 (fun A_te K_te HA_te hK hP hD hS => ?_)
  have hP : va_P (dC, dI) vwCl [(A_x, .inr (3, [.ref A_da, .int 0, .int 0, .ref A_ma, .ref A_ha, .ref A_ho, .ref A_ti, .ref A_be, .int 0, .int 0, .null, .null])), (A_da, .inl (K_da, 332, .inl (fun _ => (0 : Int32)))), (A_ma, .inl (K_ma, 110, .inl (fun _ => (0 : Int32)))), (A_ha, .inl (K_ha, 4, .inl (fun _ => (0 : Int32)))), (A_ho, .inl (K_ho, 110, .inl (fun _ => (0 : Int32)))), (A_ti, .inl (K_ti, 32, .inl (fun _ => (0 : Int32)))), (A_be, .inl (K_be, 64, .inl (fun _ => (0 : Int32)))), (A_te, .inl (K_te, 4, .inl (fun _ => (0 : Int32))))] HA_te := hP
  have hD : va_D A [(A_x, .inr (3, [.ref A_da, .int 0, .int 0, .ref A_ma, .ref A_ha, .ref A_ho, .ref A_ti, .ref A_be, .int 0, .int 0, .null, .null])), (A_da, .inl (K_da, 332, .inl (fun _ => (0 : Int32)))), (A_ma, .inl (K_ma, 110, .inl (fun _ => (0 : Int32)))), (A_ha, .inl (K_ha, 4, .inl (fun _ => (0 : Int32)))), (A_ho, .inl (K_ho, 110, .inl (fun _ => (0 : Int32)))), (A_ti, .inl (K_ti, 32, .inl (fun _ => (0 : Int32)))), (A_be, .inl (K_be, 64, .inl (fun _ => (0 : Int32)))), (A_te, .inl (K_te, 4, .inl (fun _ => (0 : Int32))))] := hD
  have hK : va_K (dC, dI) vwCl [(K_da, .int), (K_ma, .int), (K_ha, .int), (K_ho, .int), (K_ti, .int), (K_be, .boolean), (K_te, .int)] s := hK
  refine W.widen (k := 7) (n := 656) (Nat.le_of_ble_eq_true rfl) (Nat.le_of_ble_eq_true rfl) ?_
  refine va_put (D := (dC, dI)) (ci := 3) (v := .ref A_te) (ty := .array .int) (C := RX5) (T := TX5) (N := 12) hx hb hts hi_X5_init_X5 tyX5 tyX5_ok nmX5 hown hK hP hD hS 0 rfl rfl 10 (by decide) (hts (Cond.fieldLink RX5 29 "BuddyFilesModel" "tryExtent" "[I") hc_X5_init_11) (fun _ h9 => h9) rfl (by decide +kernel) rfl rfl (Nat.le_of_ble_eq_true rfl) dX5_init_56 (fun H7 locs7 hP hD hS => ?_)
  have hP : va_P (dC, dI) vwCl [(A_x, .inr (3, [.ref A_da, .int 0, .int 0, .ref A_ma, .ref A_ha, .ref A_ho, .ref A_ti, .ref A_be, .int 0, .int 0, .ref A_te, .null])), (A_da, .inl (K_da, 332, .inl (fun _ => (0 : Int32)))), (A_ma, .inl (K_ma, 110, .inl (fun _ => (0 : Int32)))), (A_ha, .inl (K_ha, 4, .inl (fun _ => (0 : Int32)))), (A_ho, .inl (K_ho, 110, .inl (fun _ => (0 : Int32)))), (A_ti, .inl (K_ti, 32, .inl (fun _ => (0 : Int32)))), (A_be, .inl (K_be, 64, .inl (fun _ => (0 : Int32)))), (A_te, .inl (K_te, 4, .inl (fun _ => (0 : Int32))))] H7 := hP
  have hD : va_D A [(A_x, .inr (3, [.ref A_da, .int 0, .int 0, .ref A_ma, .ref A_ha, .ref A_ho, .ref A_ti, .ref A_be, .int 0, .int 0, .ref A_te, .null])), (A_da, .inl (K_da, 332, .inl (fun _ => (0 : Int32)))), (A_ma, .inl (K_ma, 110, .inl (fun _ => (0 : Int32)))), (A_ha, .inl (K_ha, 4, .inl (fun _ => (0 : Int32)))), (A_ho, .inl (K_ho, 110, .inl (fun _ => (0 : Int32)))), (A_ti, .inl (K_ti, 32, .inl (fun _ => (0 : Int32)))), (A_be, .inl (K_be, 64, .inl (fun _ => (0 : Int32)))), (A_te, .inl (K_te, 4, .inl (fun _ => (0 : Int32))))] := hD
  refine lv_aload_n hx hb dX5_init_59 rfl (lv_at hl 0 rfl) ?_
  refine lv_bipush (v := 110) hx hb dX5_init_60 (by decide) ?_
  refine va_newa (atype := .int) (ty := .int) (a0 := (110, .inl (fun _ => (0 : Int32)))) (N' := 110) hx hb (hts (Cond.arrayClass .int) hc_X5_init_3) rfl hK hP hD hS hA (fun _ => rfl) (by decide) rfl (by decide) (Nat.le_of_ble_eq_true rfl) (Nat.le_of_ble_eq_true rfl) dX5_init_62 (fun A_ch K_ch HA_ch hK hP hD hS => ?_)
  have hP : va_P (dC, dI) vwCl [(A_x, .inr (3, [.ref A_da, .int 0, .int 0, .ref A_ma, .ref A_ha, .ref A_ho, .ref A_ti, .ref A_be, .int 0, .int 0, .ref A_te, .null])), (A_da, .inl (K_da, 332, .inl (fun _ => (0 : Int32)))), (A_ma, .inl (K_ma, 110, .inl (fun _ => (0 : Int32)))), (A_ha, .inl (K_ha, 4, .inl (fun _ => (0 : Int32)))), (A_ho, .inl (K_ho, 110, .inl (fun _ => (0 : Int32)))), (A_ti, .inl (K_ti, 32, .inl (fun _ => (0 : Int32)))), (A_be, .inl (K_be, 64, .inl (fun _ => (0 : Int32)))), (A_te, .inl (K_te, 4, .inl (fun _ => (0 : Int32)))), (A_ch, .inl (K_ch, 110, .inl (fun _ => (0 : Int32))))] HA_ch := hP
  have hD : va_D A [(A_x, .inr (3, [.ref A_da, .int 0, .int 0, .ref A_ma, .ref A_ha, .ref A_ho, .ref A_ti, .ref A_be, .int 0, .int 0, .ref A_te, .null])), (A_da, .inl (K_da, 332, .inl (fun _ => (0 : Int32)))), (A_ma, .inl (K_ma, 110, .inl (fun _ => (0 : Int32)))), (A_ha, .inl (K_ha, 4, .inl (fun _ => (0 : Int32)))), (A_ho, .inl (K_ho, 110, .inl (fun _ => (0 : Int32)))), (A_ti, .inl (K_ti, 32, .inl (fun _ => (0 : Int32)))), (A_be, .inl (K_be, 64, .inl (fun _ => (0 : Int32)))), (A_te, .inl (K_te, 4, .inl (fun _ => (0 : Int32)))), (A_ch, .inl (K_ch, 110, .inl (fun _ => (0 : Int32))))] := hD
  have hK : va_K (dC, dI) vwCl [(K_da, .int), (K_ma, .int), (K_ha, .int), (K_ho, .int), (K_ti, .int), (K_be, .boolean), (K_te, .int), (K_ch, .int)] s := hK
  refine W.widen (k := 8) (n := 766) (Nat.le_of_ble_eq_true rfl) (Nat.le_of_ble_eq_true rfl) ?_
  refine va_put (D := (dC, dI)) (ci := 3) (v := .ref A_ch) (ty := .array .int) (C := RX5) (T := TX5) (N := 12) hx hb hts hi_X5_init_X5 tyX5 tyX5_ok nmX5 hown hK hP hD hS 0 rfl rfl 11 (by decide) (hts (Cond.fieldLink RX5 32 "BuddyFilesModel" "changed" "[I") hc_X5_init_12) (fun _ h9 => h9) rfl (by decide +kernel) rfl rfl (Nat.le_of_ble_eq_true rfl) dX5_init_64 (fun H8 locs8 hP hD hS => ?_)
  have hP : va_P (dC, dI) vwCl [(A_x, .inr (3, [.ref A_da, .int 0, .int 0, .ref A_ma, .ref A_ha, .ref A_ho, .ref A_ti, .ref A_be, .int 0, .int 0, .ref A_te, .ref A_ch])), (A_da, .inl (K_da, 332, .inl (fun _ => (0 : Int32)))), (A_ma, .inl (K_ma, 110, .inl (fun _ => (0 : Int32)))), (A_ha, .inl (K_ha, 4, .inl (fun _ => (0 : Int32)))), (A_ho, .inl (K_ho, 110, .inl (fun _ => (0 : Int32)))), (A_ti, .inl (K_ti, 32, .inl (fun _ => (0 : Int32)))), (A_be, .inl (K_be, 64, .inl (fun _ => (0 : Int32)))), (A_te, .inl (K_te, 4, .inl (fun _ => (0 : Int32)))), (A_ch, .inl (K_ch, 110, .inl (fun _ => (0 : Int32))))] H8 := hP
  have hD : va_D A [(A_x, .inr (3, [.ref A_da, .int 0, .int 0, .ref A_ma, .ref A_ha, .ref A_ho, .ref A_ti, .ref A_be, .int 0, .int 0, .ref A_te, .ref A_ch])), (A_da, .inl (K_da, 332, .inl (fun _ => (0 : Int32)))), (A_ma, .inl (K_ma, 110, .inl (fun _ => (0 : Int32)))), (A_ha, .inl (K_ha, 4, .inl (fun _ => (0 : Int32)))), (A_ho, .inl (K_ho, 110, .inl (fun _ => (0 : Int32)))), (A_ti, .inl (K_ti, 32, .inl (fun _ => (0 : Int32)))), (A_be, .inl (K_be, 64, .inl (fun _ => (0 : Int32)))), (A_te, .inl (K_te, 4, .inl (fun _ => (0 : Int32)))), (A_ch, .inl (K_ch, 110, .inl (fun _ => (0 : Int32))))] := hD
  refine lv_aload_n hx hb dX5_init_67 rfl (lv_at hl 0 rfl) ?_
  have hP : va_P (dC, dI) vwCl (wM A_x A_da A_ma A_ha A_ho A_ti A_be A_te A_ch K_da K_ma K_ha K_ho K_ti K_be K_te K_ch (fun _ => (0 : Int32)) (fun _ => (0 : Int32)) (fun _ => (0 : Int32)) (fun _ => (0 : Int32)) (fun _ => (0 : Int32)) (fun _ => (0 : Int32)) (fun _ => (0 : Int32)) (fun _ => (0 : Int32)) 0 0 0 0) H8 := hP.sub [0, 1, 2, 3, 4, 5, 6, 7, 8] rfl
  have hD : va_D A (wM A_x A_da A_ma A_ha A_ho A_ti A_be A_te A_ch K_da K_ma K_ha K_ho K_ti K_be K_te K_ch (fun _ => (0 : Int32)) (fun _ => (0 : Int32)) (fun _ => (0 : Int32)) (fun _ => (0 : Int32)) (fun _ => (0 : Int32)) (fun _ => (0 : Int32)) (fun _ => (0 : Int32)) (fun _ => (0 : Int32)) 0 0 0 0) := hD.sub [0, 1, 2, 3, 4, 5, 6, 7, 8] (by decide) rfl
  have hK : va_K (dC, dI) vwCl (tM K_da K_ma K_ha K_ho K_ti K_be K_te K_ch) s := hK.sub [0, 1, 2, 3, 4, 5, 6, 7] rfl
  have hFc := va_free (wc := (wM A_x A_da A_ma A_ha A_ho A_ti A_be A_te A_ch K_da K_ma K_ha K_ho K_ti K_be K_te K_ch (fun _ => (0 : Int32)) (fun _ => (0 : Int32)) (fun _ => (0 : Int32)) (fun _ => (0 : Int32)) (fun _ => (0 : Int32)) (fun _ => (0 : Int32)) (fun _ => (0 : Int32)) (fun _ => (0 : Int32)) 0 0 0 0)) hD hS hA [0, 1, 2, 3, 4, 5, 6, 7, 8] rfl
  refine va_callv (va_runV (As := []) (rest := []) ⟨hx, hb, hml, hown, hts⟩ (k_X5_format l dC dI A_x A_da A_ma A_ha A_ho A_ti A_be A_te A_ch K_da K_ma K_ha K_ho K_ti K_be K_te K_ch (fun _ => (0 : Int32)) (fun _ => (0 : Int32)) (fun _ => (0 : Int32)) (fun _ => (0 : Int32)) (fun _ => (0 : Int32)) (fun _ => (0 : Int32)) (fun _ => (0 : Int32)) (fun _ => (0 : Int32)) 0 0 0 0 H8.size o_da o_ma o_ha o_up o_fu hm) (cwV 0 hts gX5_init_X5_format rfl rfl rfl (by decide +kernel) ⟨Nat.le_of_ble_eq_true rfl, Nat.le_of_ble_eq_true rfl⟩) ⟨w_blW, va_recv hK hP (ci := 3) (q0 := 0) rfl rfl, fun U hU hW => ⟨rfl, by rw [hU], by rw [hU]; exact hP, va_K.moved hW.alike hK, hD.weaken (fun _ _ _ _ => trivial)⟩⟩ rfl rfl hl.1 rfl (lv_room (Nat.le_of_ble_eq_true rfl)) dX5_init_68 ⟨Nat.le_of_ble_eq_true rfl, Nat.le_of_ble_eq_true rfl⟩) hS (fun q _ h => hFc q h) hFc (fun _ t H9 locs9 ht hvm _ hB hz1 hk1 hS => ?_)
  refine W.widen (k := 8) (n := 766) (Nat.le_of_ble_eq_true rfl) (Nat.le_of_ble_eq_true rfl) ?_
  obtain ⟨hP1, hD1⟩ := hB
  rw [ht] at hP1
  obtain ⟨hP, hD⟩ := va_join (wr := []) (w1 := (wM A_x A_da A_ma A_ha A_ho A_ti A_be A_te A_ch K_da K_ma K_ha K_ho K_ti K_be K_te K_ch o_da o_ma o_ha (fun _ => (0 : Int32)) (fun _ => (0 : Int32)) (fun _ => (0 : Int32)) (fun _ => (0 : Int32)) (fun _ => (0 : Int32)) o_up o_fu 0 0)) hP hD [0, 1, 2, 3, 4, 5, 6, 7, 8] [] rfl rfl (by decide) (by decide) hk1 hFc hP1 hD1
  have hP : va_P (dC, dI) vwCl (wM A_x A_da A_ma A_ha A_ho A_ti A_be A_te A_ch K_da K_ma K_ha K_ho K_ti K_be K_te K_ch o_da o_ma o_ha (fun _ => (0 : Int32)) (fun _ => (0 : Int32)) (fun _ => (0 : Int32)) (fun _ => (0 : Int32)) (fun _ => (0 : Int32)) o_up o_fu 0 0) H9 := hP
  have hD : va_D A (wM A_x A_da A_ma A_ha A_ho A_ti A_be A_te A_ch K_da K_ma K_ha K_ho K_ti K_be K_te K_ch o_da o_ma o_ha (fun _ => (0 : Int32)) (fun _ => (0 : Int32)) (fun _ => (0 : Int32)) (fun _ => (0 : Int32)) (fun _ => (0 : Int32)) o_up o_fu 0 0) := hD
  exact W.vret hx hb hr (fun t ht hW => ⟨⟨(), rfl, trivial, A_da, A_ma, A_ha, A_ho, A_ti, A_be, A_te, A_ch, K_da, K_ma, K_ha, K_ho, K_ti, K_be, K_te, K_ch, by rw [ht]; exact hP, va_K.moved hW.alike hK, hD⟩, hS.F ht⟩) hS.2.2 dX5_init_71
