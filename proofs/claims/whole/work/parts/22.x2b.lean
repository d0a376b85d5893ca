theorem hi_X2_copyFrom_X2 : ∀ w ∈ wsX20, w ∈ wsX2_copyFrom := by decide +kernel
theorem hk_X2_copyFrom_9 : Cond.fieldLink RX2 9 "BuddyFiles$Home" "cells" "[I" ∈ wsX2_copyFrom := by decide +kernel
theorem hy0_X2_copyFrom : Cond.methodLink RX2 15 arraycopyName ∈ wsX2_copyFrom := by decide +kernel
theorem hy1_X2_copyFrom : Cond.native arraycopyName ∈ wsX2_copyFrom := by decide +kernel
theorem hy2_X2_copyFrom : Cond.static arraycopyName ∈ wsX2_copyFrom := by decide +kernel
theorem hy3_X2_copyFrom : Cond.initialized "java/lang/System" ∈ wsX2_copyFrom := by decide +kernel
abbrev rm_X2_copyFrom : Room := { frames := 1, cells := 0, slots := 0, locals := 60 }
set_option maxHeartbeats 4000000 in
set_option maxRecDepth 100000 in
theorem k_X2_copyFrom (l : Launch) (dC : Nat → ClassId) (dI : Nat → Nat → Nat) (A_h A_a A_da : Nat) (K_a K_da : ClassId) (c_a c_da : Nat → Int32) (sz : Nat)  (o_a : (Nat → Int32)) (hm : m_X2_copyFrom c_a c_da = some o_a) : Met l yX2_copyFrom wsX2_copyFrom rm_X2_copyFrom (va_Pc [.ref A_h, .ref A_da] (fun U => U.heap.size = sz ∧ va_P (dC, dI) vwCl (wHD A_h A_a A_da K_a K_da c_a c_da) U.heap ∧ va_K (dC, dI) vwCl (tHD K_a K_da) U ∧ va_D (fun _ => True) (wHD A_h A_a A_da K_a K_da c_a c_da))) (va_Qv (fun (_ : Unit) => True) (fun _ t => va_P (dC, dI) vwCl (wHD A_h A_a A_da K_a K_da o_a c_da) t.heap ∧ va_D (va_A (wHD A_h A_a A_da K_a K_da c_a c_da) sz) (wHD A_h A_a A_da K_a K_da o_a c_da)) (va_A (wHD A_h A_a A_da K_a K_da c_a c_da) sz)) 0 0 (va_A (wHD A_h A_a A_da K_a K_da c_a c_da) sz) := by
  refine Met.ofW (cc := cX2_copyFrom) (maxL := 2) (ret := (none)) (by decide) rfl ?_
  intro p e s m args below meth c s₁ B hml hv
  obtain ⟨rfl, hsz, hP, hK, hD0⟩ := hv
  have hx := B.exec
  have hb := B.bytes
  have hr := B.returns
  have hts := atoms_spec (ws := wsX2_copyFrom) B.pre
  have hown : s.vm.findClass RX2 = some m.cls := findClass_of_methodNamed B.named
  have hlocks := B.notSynchronized
  subst hsz
  have hD := hD0.self (sz := s.heap.size)
  generalize hAe : va_A (wHD A_h A_a A_da K_a K_da c_a c_da) s.heap.size = A at hD ⊢
  have hA : ∀ q : Nat, s.heap.size ≤ q → A q := fun q h => by rw [← hAe]; exact Or.inr h
  have hS : va_S A s.heap s.heap [] := va_S.rf
  have hP : va_P (dC, dI) vwCl (wHD A_h A_a A_da K_a K_da c_a c_da) s.heap := hP
  have hl := lv_entry ([.ref A_h, .ref A_da]) (n := 2) (Nat.le_of_ble_eq_true rfl)
  rw [lg_entry_eq]
  generalize (lg_sl ([.ref A_h, .ref A_da]) ++ List.replicate (2 - (lg_sl ([.ref A_h, .ref A_da])).length) Slot.unset).toArray = ls at hl ⊢
  have hl : lv_has ls 2 [(0, .ref A_h), (1, .ref A_da)] := hl
  refine w_name (fun Q hQ => ?_)
  unfold m_X2_copyFrom at hm
  refine lv_aload_n hx hb dX2_copyFrom_0 rfl (lv_at hl 1 rfl) ?_
  refine lv_iconst (v := 0) hx hb dX2_copyFrom_1 (by decide) ?_
  refine lv_aload_n hx hb dX2_copyFrom_2 rfl (lv_at hl 0 rfl) ?_
  refine va_get (D := (dC, dI)) (ci := 1) (v := .ref A_a) (C := RX2) (T := TX2) (N := 1) hx hb hts hi_X2_copyFrom_X2 hown hK hP 0 rfl rfl 0 (by decide) (hts (Cond.fieldLink RX2 9 "BuddyFiles$Home" "cells" "[I") hk_X2_copyFrom_9) (fun _ h9 => h9) rfl dX2_copyFrom_3 ?_
  refine lv_iconst (v := 0) hx hb dX2_copyFrom_6 (by decide) ?_
  refine lv_bipush (v := 110) hx hb dX2_copyFrom_7 (by decide) ?_
  obtain ⟨f1, ex, hm⟩ := g_bind hm
  refine va_copyi (ty := .int) hx hb (hml.trans hl.1.symm) hown (hts (Cond.methodLink RX2 15 arraycopyName) hy0_X2_copyFrom) (hts (Cond.native arraycopyName) hy1_X2_copyFrom) (hts (Cond.static arraycopyName) hy2_X2_copyFrom) (hts (Cond.initialized "java/lang/System") hy3_X2_copyFrom) hK hP hD hS 2 1 1 0 rfl rfl rfl rfl rfl (by decide) (by decide) (by decide) (by decide) (by decide) (fun _ _ => rfl) (Nat.le_of_ble_eq_true rfl) (Nat.le_of_ble_eq_true rfl) dX2_copyFrom_9 (fun H2 locs2 hP hD hS => ?_)
  cases ex
  have hP : va_P (dC, dI) vwCl (wHD A_h A_a A_da K_a K_da (va_cpy c_da c_a 0 0 110) c_da) H2 := hP
  have hD : va_D A (wHD A_h A_a A_da K_a K_da (va_cpy c_da c_a 0 0 110) c_da) := hD
  cases hm
  subst hQ
  exact W.vret hx hb hr (fun t ht hW => ⟨⟨(), rfl, trivial, by rw [ht]; exact hP, hD⟩, hS.F ht⟩) hS.2.2 dX2_copyFrom_12
theorem hi_X2_putLength_X2 : ∀ w ∈ wsX20, w ∈ wsX2_putLength := by decide +kernel
theorem hk_X2_putLength_9 : Cond.fieldLink RX2 9 "BuddyFiles$Home" "cells" "[I" ∈ wsX2_putLength := by decide +kernel
abbrev rm_X2_putLength : Room := { frames := 0, cells := 0, slots := 0, locals := 0 }
set_option maxHeartbeats 4000000 in
set_option maxRecDepth 100000 in
theorem k_X2_putLength (l : Launch) (dC : Nat → ClassId) (dI : Nat → Nat → Nat) (A_h A_a : Nat) (K_a : ClassId) (c_a : Nat → Int32) (sz : Nat) (p1 : Int32) (p2 : Int32) (o_a : (Nat → Int32)) (hm : m_X2_putLength c_a p1 p2 = some o_a) : Met l yX2_putLength wsX2_putLength rm_X2_putLength (va_Pc [.ref A_h, .int p1, .int p2] (fun U => U.heap.size = sz ∧ va_P (dC, dI) vwCl (wH A_h A_a K_a c_a) U.heap ∧ va_K (dC, dI) vwCl (tH K_a) U ∧ va_D (fun _ => True) (wH A_h A_a K_a c_a))) (va_Qv (fun (_ : Unit) => True) (fun _ t => va_P (dC, dI) vwCl (wH A_h A_a K_a o_a) t.heap ∧ va_D (va_A (wH A_h A_a K_a c_a) sz) (wH A_h A_a K_a o_a)) (va_A (wH A_h A_a K_a c_a) sz)) 0 0 (va_A (wH A_h A_a K_a c_a) sz) := by
  refine Met.ofW (cc := cX2_putLength) (maxL := 3) (ret := (none)) (by decide) rfl ?_
  intro p e s m args below meth c s₁ B hml hv
  obtain ⟨rfl, hsz, hP, hK, hD0⟩ := hv
  have hx := B.exec
  have hb := B.bytes
  have hr := B.returns
  have hts := atoms_spec (ws := wsX2_putLength) B.pre
  have hown : s.vm.findClass RX2 = some m.cls := findClass_of_methodNamed B.named
  have hlocks := B.notSynchronized
  subst hsz
  have hD := hD0.self (sz := s.heap.size)
  generalize hAe : va_A (wH A_h A_a K_a c_a) s.heap.size = A at hD ⊢
  have hA : ∀ q : Nat, s.heap.size ≤ q → A q := fun q h => by rw [← hAe]; exact Or.inr h
  have hS : va_S A s.heap s.heap [] := va_S.rf
  have hP : va_P (dC, dI) vwCl (wH A_h A_a K_a c_a) s.heap := hP
  have hl := lv_entry ([.ref A_h, .int p1, .int p2]) (n := 3) (Nat.le_of_ble_eq_true rfl)
  rw [lg_entry_eq]
  generalize (lg_sl ([.ref A_h, .int p1, .int p2]) ++ List.replicate (3 - (lg_sl ([.ref A_h, .int p1, .int p2])).length) Slot.unset).toArray = ls at hl ⊢
  have hl : lv_has ls 3 [(0, .ref A_h), (1, .int p1), (2, .int p2)] := hl
  refine w_name (fun Q hQ => ?_)
  unfold m_X2_putLength at hm
  refine lv_aload_n hx hb dX2_putLength_0 rfl (lv_at hl 0 rfl) ?_
  refine va_get (D := (dC, dI)) (ci := 1) (v := .ref A_a) (C := RX2) (T := TX2) (N := 1) hx hb hts hi_X2_putLength_X2 hown hK hP 0 rfl rfl 0 (by decide) (hts (Cond.fieldLink RX2 9 "BuddyFiles$Home" "cells" "[I") hk_X2_putLength_9) (fun _ h9 => h9) rfl dX2_putLength_1 ?_
  refine lv_bipush (v := 7) hx hb dX2_putLength_4 (by decide) ?_
  refine lv_iload_n hx hb dX2_putLength_6 rfl (lv_at hl 1 rfl) ?_
  refine lv_imul hx hb dX2_putLength_7 ?_
  refine lv_iconst (v := 2) hx hb dX2_putLength_8 (by decide) ?_
  refine lv_iadd hx hb dX2_putLength_9 ?_
  refine lv_iload_n hx hb dX2_putLength_10 rfl (lv_at hl 2 rfl) ?_
  obtain ⟨f1, ex, hm⟩ := g_bind hm
  refine w_ast hx hb hK hP hD hS 1 0 rfl rfl ex dX2_putLength_11 (fun H2 locs2 hP hD hS => ?_)
  have hP : va_P (dC, dI) vwCl (wH A_h A_a K_a f1) H2 := hP
  have hD : va_D A (wH A_h A_a K_a f1) := hD
  cases hm
  subst hQ
  exact W.vret hx hb hr (fun t ht hW => ⟨⟨(), rfl, trivial, by rw [ht]; exact hP, hD⟩, hS.F ht⟩) hS.2.2 dX2_putLength_12
theorem hi_X2_putExtent_X2 : ∀ w ∈ wsX20, w ∈ wsX2_putExtent := by decide +kernel
theorem hk_X2_putExtent_9 : Cond.fieldLink RX2 9 "BuddyFiles$Home" "cells" "[I" ∈ wsX2_putExtent := by decide +kernel
abbrev rm_X2_putExtent : Room := { frames := 0, cells := 0, slots := 0, locals := 0 }
set_option maxHeartbeats 4000000 in
set_option maxRecDepth 100000 in
theorem k_X2_putExtent (l : Launch) (dC : Nat → ClassId) (dI : Nat → Nat → Nat) (A_h A_a : Nat) (K_a : ClassId) (c_a : Nat → Int32) (sz : Nat) (p1 : Int32) (p2 : Int32) (p3 : Int32) (o_a : (Nat → Int32)) (hm : m_X2_putExtent c_a p1 p2 p3 = some o_a) : Met l yX2_putExtent wsX2_putExtent rm_X2_putExtent (va_Pc [.ref A_h, .int p1, .int p2, .int p3] (fun U => U.heap.size = sz ∧ va_P (dC, dI) vwCl (wH A_h A_a K_a c_a) U.heap ∧ va_K (dC, dI) vwCl (tH K_a) U ∧ va_D (fun _ => True) (wH A_h A_a K_a c_a))) (va_Qv (fun (_ : Unit) => True) (fun _ t => va_P (dC, dI) vwCl (wH A_h A_a K_a o_a) t.heap ∧ va_D (va_A (wH A_h A_a K_a c_a) sz) (wH A_h A_a K_a o_a)) (va_A (wH A_h A_a K_a c_a) sz)) 0 0 (va_A (wH A_h A_a K_a c_a) sz) := by
  refine Met.ofW (cc := cX2_putExtent) (maxL := 4) (ret := (none)) (by decide) rfl ?_
  intro p e s m args below meth c s₁ B hml hv
  obtain ⟨rfl, hsz, hP, hK, hD0⟩ := hv
  have hx := B.exec
  have hb := B.bytes
  have hr := B.returns
  have hts := atoms_spec (ws := wsX2_putExtent) B.pre
  have hown : s.vm.findClass RX2 = some m.cls := findClass_of_methodNamed B.named
  have hlocks := B.notSynchronized
  subst hsz
  have hD := hD0.self (sz := s.heap.size)
  generalize hAe : va_A (wH A_h A_a K_a c_a) s.heap.size = A at hD ⊢
  have hA : ∀ q : Nat, s.heap.size ≤ q → A q := fun q h => by rw [← hAe]; exact Or.inr h
  have hS : va_S A s.heap s.heap [] := va_S.rf
  have hP : va_P (dC, dI) vwCl (wH A_h A_a K_a c_a) s.heap := hP
  have hl := lv_entry ([.ref A_h, .int p1, .int p2, .int p3]) (n := 4) (Nat.le_of_ble_eq_true rfl)
  rw [lg_entry_eq]
  generalize (lg_sl ([.ref A_h, .int p1, .int p2, .int p3]) ++ List.replicate (4 - (lg_sl ([.ref A_h, .int p1, .int p2, .int p3])).length) Slot.unset).toArray = ls at hl ⊢
  have hl : lv_has ls 4 [(0, .ref A_h), (1, .int p1), (2, .int p2), (3, .int p3)] := hl
  refine w_name (fun Q hQ => ?_)
  unfold m_X2_putExtent at hm
  refine lv_aload_n hx hb dX2_putExtent_0 rfl (lv_at hl 0 rfl) ?_
  refine va_get (D := (dC, dI)) (ci := 1) (v := .ref A_a) (C := RX2) (T := TX2) (N := 1) hx hb hts hi_X2_putExtent_X2 hown hK hP 0 rfl rfl 0 (by decide) (hts (Cond.fieldLink RX2 9 "BuddyFiles$Home" "cells" "[I") hk_X2_putExtent_9) (fun _ h9 => h9) rfl dX2_putExtent_1 ?_
  refine lv_bipush (v := 7) hx hb dX2_putExtent_4 (by decide) ?_
  refine lv_iload_n hx hb dX2_putExtent_6 rfl (lv_at hl 1 rfl) ?_
  refine lv_imul hx hb dX2_putExtent_7 ?_
  refine lv_iconst (v := 3) hx hb dX2_putExtent_8 (by decide) ?_
  refine lv_iadd hx hb dX2_putExtent_9 ?_
  refine lv_iload_n hx hb dX2_putExtent_10 rfl (lv_at hl 2 rfl) ?_
  refine lv_iadd hx hb dX2_putExtent_11 ?_
  refine lv_iload_n hx hb dX2_putExtent_12 rfl (lv_at hl 3 rfl) ?_
  obtain ⟨f1, ex, hm⟩ := g_bind hm
  refine w_ast hx hb hK hP hD hS 1 0 rfl rfl ex dX2_putExtent_13 (fun H2 locs2 hP hD hS => ?_)
  have hP : va_P (dC, dI) vwCl (wH A_h A_a K_a f1) H2 := hP
  have hD : va_D A (wH A_h A_a K_a f1) := hD
  cases hm
  subst hQ
  exact W.vret hx hb hr (fun t ht hW => ⟨⟨(), rfl, trivial, by rw [ht]; exact hP, hD⟩, hS.F ht⟩) hS.2.2 dX2_putExtent_14
theorem hi_X2_putQuota_X2 : ∀ w ∈ wsX20, w ∈ wsX2_putQuota := by decide +kernel
theorem hk_X2_putQuota_9 : Cond.fieldLink RX2 9 "BuddyFiles$Home" "cells" "[I" ∈ wsX2_putQuota := by decide +kernel
abbrev rm_X2_putQuota : Room := { frames := 0, cells := 0, slots := 0, locals := 0 }
set_option maxHeartbeats 4000000 in
set_option maxRecDepth 100000 in
theorem k_X2_putQuota (l : Launch) (dC : Nat → ClassId) (dI : Nat → Nat → Nat) (A_h A_a : Nat) (K_a : ClassId) (c_a : Nat → Int32) (sz : Nat) (p1 : Int32) (p2 : Int32) (o_a : (Nat → Int32)) (hm : m_X2_putQuota c_a p1 p2 = some o_a) : Met l yX2_putQuota wsX2_putQuota rm_X2_putQuota (va_Pc [.ref A_h, .int p1, .int p2] (fun U => U.heap.size = sz ∧ va_P (dC, dI) vwCl (wH A_h A_a K_a c_a) U.heap ∧ va_K (dC, dI) vwCl (tH K_a) U ∧ va_D (fun _ => True) (wH A_h A_a K_a c_a))) (va_Qv (fun (_ : Unit) => True) (fun _ t => va_P (dC, dI) vwCl (wH A_h A_a K_a o_a) t.heap ∧ va_D (va_A (wH A_h A_a K_a c_a) sz) (wH A_h A_a K_a o_a)) (va_A (wH A_h A_a K_a c_a) sz)) 0 0 (va_A (wH A_h A_a K_a c_a) sz) := by
  refine Met.ofW (cc := cX2_putQuota) (maxL := 3) (ret := (none)) (by decide) rfl ?_
  intro p e s m args below meth c s₁ B hml hv
  obtain ⟨rfl, hsz, hP, hK, hD0⟩ := hv
  have hx := B.exec
  have hb := B.bytes
  have hr := B.returns
  have hts := atoms_spec (ws := wsX2_putQuota) B.pre
  have hown : s.vm.findClass RX2 = some m.cls := findClass_of_methodNamed B.named
  have hlocks := B.notSynchronized
  subst hsz
  have hD := hD0.self (sz := s.heap.size)
  generalize hAe : va_A (wH A_h A_a K_a c_a) s.heap.size = A at hD ⊢
  have hA : ∀ q : Nat, s.heap.size ≤ q → A q := fun q h => by rw [← hAe]; exact Or.inr h
  have hS : va_S A s.heap s.heap [] := va_S.rf
  have hP : va_P (dC, dI) vwCl (wH A_h A_a K_a c_a) s.heap := hP
  have hl := lv_entry ([.ref A_h, .int p1, .int p2]) (n := 3) (Nat.le_of_ble_eq_true rfl)
  rw [lg_entry_eq]
  generalize (lg_sl ([.ref A_h, .int p1, .int p2]) ++ List.replicate (3 - (lg_sl ([.ref A_h, .int p1, .int p2])).length) Slot.unset).toArray = ls at hl ⊢
  have hl : lv_has ls 3 [(0, .ref A_h), (1, .int p1), (2, .int p2)] := hl
  refine w_name (fun Q hQ => ?_)
  unfold m_X2_putQuota at hm
  refine lv_aload_n hx hb dX2_putQuota_0 rfl (lv_at hl 0 rfl) ?_
  refine va_get (D := (dC, dI)) (ci := 1) (v := .ref A_a) (C := RX2) (T := TX2) (N := 1) hx hb hts hi_X2_putQuota_X2 hown hK hP 0 rfl rfl 0 (by decide) (hts (Cond.fieldLink RX2 9 "BuddyFiles$Home" "cells" "[I") hk_X2_putQuota_9) (fun _ h9 => h9) rfl dX2_putQuota_1 ?_
  refine lv_bipush (v := 42) hx hb dX2_putQuota_4 (by decide) ?_
  refine lv_iload_n hx hb dX2_putQuota_6 rfl (lv_at hl 1 rfl) ?_
  refine lv_iadd hx hb dX2_putQuota_7 ?_
  refine lv_iload_n hx hb dX2_putQuota_8 rfl (lv_at hl 2 rfl) ?_
  obtain ⟨f1, ex, hm⟩ := g_bind hm
  refine w_ast hx hb hK hP hD hS 1 0 rfl rfl ex dX2_putQuota_9 (fun H2 locs2 hP hD hS => ?_)
  have hP : va_P (dC, dI) vwCl (wH A_h A_a K_a f1) H2 := hP
  have hD : va_D A (wH A_h A_a K_a f1) := hD
  cases hm
  subst hQ
  exact W.vret hx hb hr (fun t ht hW => ⟨⟨(), rfl, trivial, by rw [ht]; exact hP, hD⟩, hS.F ht⟩) hS.2.2 dX2_putQuota_10
theorem hi_X2_nameFile_X2 : ∀ w ∈ wsX20, w ∈ wsX2_nameFile := by decide +kernel
theorem hk_X2_nameFile_9 : Cond.fieldLink RX2 9 "BuddyFiles$Home" "cells" "[I" ∈ wsX2_nameFile := by decide +kernel
abbrev rm_X2_nameFile : Room := { frames := 0, cells := 0, slots := 0, locals := 0 }
set_option maxHeartbeats 4000000 in
set_option maxRecDepth 100000 in
theorem k_X2_nameFile (l : Launch) (dC : Nat → ClassId) (dI : Nat → Nat → Nat) (A_h A_a : Nat) (K_a : ClassId) (c_a : Nat → Int32) (sz : Nat) (p1 : Int32) (p2 : Int32) (o_a : (Nat → Int32)) (hm : m_X2_nameFile c_a p1 p2 = some o_a) : Met l yX2_nameFile wsX2_nameFile rm_X2_nameFile (va_Pc [.ref A_h, .int p1, .int p2] (fun U => U.heap.size = sz ∧ va_P (dC, dI) vwCl (wH A_h A_a K_a c_a) U.heap ∧ va_K (dC, dI) vwCl (tH K_a) U ∧ va_D (fun _ => True) (wH A_h A_a K_a c_a))) (va_Qv (fun (_ : Unit) => True) (fun _ t => va_P (dC, dI) vwCl (wH A_h A_a K_a o_a) t.heap ∧ va_D (va_A (wH A_h A_a K_a c_a) sz) (wH A_h A_a K_a o_a)) (va_A (wH A_h A_a K_a c_a) sz)) 0 0 (va_A (wH A_h A_a K_a c_a) sz) := by
  refine Met.ofW (cc := cX2_nameFile) (maxL := 3) (ret := (none)) (by decide) rfl ?_
  intro p e s m args below meth c s₁ B hml hv
  obtain ⟨rfl, hsz, hP, hK, hD0⟩ := hv
  have hx := B.exec
  have hb := B.bytes
  have hr := B.returns
  have hts := atoms_spec (ws := wsX2_nameFile) B.pre
  have hown : s.vm.findClass RX2 = some m.cls := findClass_of_methodNamed B.named
  have hlocks := B.notSynchronized
  subst hsz
  have hD := hD0.self (sz := s.heap.size)
  generalize hAe : va_A (wH A_h A_a K_a c_a) s.heap.size = A at hD ⊢
  have hA : ∀ q : Nat, s.heap.size ≤ q → A q := fun q h => by rw [← hAe]; exact Or.inr h
  have hS : va_S A s.heap s.heap [] := va_S.rf
  have hP : va_P (dC, dI) vwCl (wH A_h A_a K_a c_a) s.heap := hP
  have hl := lv_entry ([.ref A_h, .int p1, .int p2]) (n := 3) (Nat.le_of_ble_eq_true rfl)
  rw [lg_entry_eq]
  generalize (lg_sl ([.ref A_h, .int p1, .int p2]) ++ List.replicate (3 - (lg_sl ([.ref A_h, .int p1, .int p2])).length) Slot.unset).toArray = ls at hl ⊢
  have hl : lv_has ls 3 [(0, .ref A_h), (1, .int p1), (2, .int p2)] := hl
  refine w_name (fun Q hQ => ?_)
  unfold m_X2_nameFile at hm
  refine lv_aload_n hx hb dX2_nameFile_0 rfl (lv_at hl 0 rfl) ?_
  refine va_get (D := (dC, dI)) (ci := 1) (v := .ref A_a) (C := RX2) (T := TX2) (N := 1) hx hb hts hi_X2_nameFile_X2 hown hK hP 0 rfl rfl 0 (by decide) (hts (Cond.fieldLink RX2 9 "BuddyFiles$Home" "cells" "[I") hk_X2_nameFile_9) (fun _ h9 => h9) rfl dX2_nameFile_1 ?_
  refine lv_bipush (v := 7) hx hb dX2_nameFile_4 (by decide) ?_
  refine lv_iload_n hx hb dX2_nameFile_6 rfl (lv_at hl 1 rfl) ?_
  refine lv_imul hx hb dX2_nameFile_7 ?_
  refine lv_iload_n hx hb dX2_nameFile_8 rfl (lv_at hl 2 rfl) ?_
  obtain ⟨f1, ex, hm⟩ := g_bind hm
  refine w_ast hx hb hK hP hD hS 1 0 rfl rfl ex dX2_nameFile_9 (fun H2 locs2 hP hD hS => ?_)
  have hP : va_P (dC, dI) vwCl (wH A_h A_a K_a f1) H2 := hP
  have hD : va_D A (wH A_h A_a K_a f1) := hD
  cases hm
  subst hQ
  exact W.vret hx hb hr (fun t ht hW => ⟨⟨(), rfl, trivial, by rw [ht]; exact hP, hD⟩, hS.F ht⟩) hS.2.2 dX2_nameFile_10
theorem hi_X2_makeFile_X2 : ∀ w ∈ wsX20, w ∈ wsX2_makeFile := by decide +kernel
theorem hk_X2_makeFile_9 : Cond.fieldLink RX2 9 "BuddyFiles$Home" "cells" "[I" ∈ wsX2_makeFile := by decide +kernel
abbrev rm_X2_makeFile : Room := { frames := 0, cells := 0, slots := 0, locals := 0 }
set_option maxHeartbeats 4000000 in
set_option maxRecDepth 100000 in
theorem k_X2_makeFile (l : Launch) (dC : Nat → ClassId) (dI : Nat → Nat → Nat) (A_h A_a : Nat) (K_a : ClassId) (c_a : Nat → Int32) (sz : Nat) (p1 : Int32) (p2 : Int32) (p3 : Int32) (o_a : (Nat → Int32)) (hm : m_X2_makeFile c_a p1 p2 p3 = some o_a) : Met l yX2_makeFile wsX2_makeFile rm_X2_makeFile (va_Pc [.ref A_h, .int p1, .int p2, .int p3] (fun U => U.heap.size = sz ∧ va_P (dC, dI) vwCl (wH A_h A_a K_a c_a) U.heap ∧ va_K (dC, dI) vwCl (tH K_a) U ∧ va_D (fun _ => True) (wH A_h A_a K_a c_a))) (va_Qv (fun (_ : Unit) => True) (fun _ t => va_P (dC, dI) vwCl (wH A_h A_a K_a o_a) t.heap ∧ va_D (va_A (wH A_h A_a K_a c_a) sz) (wH A_h A_a K_a o_a)) (va_A (wH A_h A_a K_a c_a) sz)) 0 0 (va_A (wH A_h A_a K_a c_a) sz) := by
  refine Met.ofW (cc := cX2_makeFile) (maxL := 4) (ret := (none)) (by decide) rfl ?_
  intro p e s m args below meth c s₁ B hml hv
  obtain ⟨rfl, hsz, hP, hK, hD0⟩ := hv
  have hx := B.exec
  have hb := B.bytes
  have hr := B.returns
  have hts := atoms_spec (ws := wsX2_makeFile) B.pre
  have hown : s.vm.findClass RX2 = some m.cls := findClass_of_methodNamed B.named
  have hlocks := B.notSynchronized
  subst hsz
  have hD := hD0.self (sz := s.heap.size)
  generalize hAe : va_A (wH A_h A_a K_a c_a) s.heap.size = A at hD ⊢
  have hA : ∀ q : Nat, s.heap.size ≤ q → A q := fun q h => by rw [← hAe]; exact Or.inr h
  have hS : va_S A s.heap s.heap [] := va_S.rf
  have hP : va_P (dC, dI) vwCl (wH A_h A_a K_a c_a) s.heap := hP
  have hl := lv_entry ([.ref A_h, .int p1, .int p2, .int p3]) (n := 4) (Nat.le_of_ble_eq_true rfl)
  rw [lg_entry_eq]
  generalize (lg_sl ([.ref A_h, .int p1, .int p2, .int p3]) ++ List.replicate (4 - (lg_sl ([.ref A_h, .int p1, .int p2, .int p3])).length) Slot.unset).toArray = ls at hl ⊢
  have hl : lv_has ls 4 [(0, .ref A_h), (1, .int p1), (2, .int p2), (3, .int p3)] := hl
  refine w_name (fun Q hQ => ?_)
  unfold m_X2_makeFile at hm
  refine lv_aload_n hx hb dX2_makeFile_0 rfl (lv_at hl 0 rfl) ?_
  refine va_get (D := (dC, dI)) (ci := 1) (v := .ref A_a) (C := RX2) (T := TX2) (N := 1) hx hb hts hi_X2_makeFile_X2 hown hK hP 0 rfl rfl 0 (by decide) (hts (Cond.fieldLink RX2 9 "BuddyFiles$Home" "cells" "[I") hk_X2_makeFile_9) (fun _ h9 => h9) rfl dX2_makeFile_1 ?_
  refine lv_bipush (v := 7) hx hb dX2_makeFile_4 (by decide) ?_
  refine lv_iload_n hx hb dX2_makeFile_6 rfl (lv_at hl 1 rfl) ?_
  refine lv_imul hx hb dX2_makeFile_7 ?_
  refine lv_iload_n hx hb dX2_makeFile_8 rfl (lv_at hl 2 rfl) ?_
  obtain ⟨f1, ex, hm⟩ := g_bind hm
  refine w_ast hx hb hK hP hD hS 1 0 rfl rfl ex dX2_makeFile_9 (fun H2 locs2 hP hD hS => ?_)
  have hP : va_P (dC, dI) vwCl (wH A_h A_a K_a f1) H2 := hP
  have hD : va_D A (wH A_h A_a K_a f1) := hD
  refine lv_aload_n hx hb dX2_makeFile_10 rfl (lv_at hl 0 rfl) ?_
  refine va_get (D := (dC, dI)) (ci := 1) (v := .ref A_a) (C := RX2) (T := TX2) (N := 1) hx hb hts hi_X2_makeFile_X2 hown hK hP 0 rfl rfl 0 (by decide) (hts (Cond.fieldLink RX2 9 "BuddyFiles$Home" "cells" "[I") hk_X2_makeFile_9) (fun _ h9 => h9) rfl dX2_makeFile_11 ?_
  refine lv_bipush (v := 7) hx hb dX2_makeFile_14 (by decide) ?_
  refine lv_iload_n hx hb dX2_makeFile_16 rfl (lv_at hl 1 rfl) ?_
  refine lv_imul hx hb dX2_makeFile_17 ?_
  refine lv_iconst (v := 1) hx hb dX2_makeFile_18 (by decide) ?_
  refine lv_iadd hx hb dX2_makeFile_19 ?_
  refine lv_iload_n hx hb dX2_makeFile_20 rfl (lv_at hl 3 rfl) ?_
  obtain ⟨f3, ex, hm⟩ := g_bind hm
  refine w_ast hx hb hK hP hD hS 1 0 rfl rfl ex dX2_makeFile_21 (fun H4 locs4 hP hD hS => ?_)
  have hP : va_P (dC, dI) vwCl (wH A_h A_a K_a f3) H4 := hP
  have hD : va_D A (wH A_h A_a K_a f3) := hD
  cases hm
  subst hQ
  exact W.vret hx hb hr (fun t ht hW => ⟨⟨(), rfl, trivial, by rw [ht]; exact hP, hD⟩, hS.F ht⟩) hS.2.2 dX2_makeFile_22
theorem hi_X2_giveBackRuns_X2 : ∀ w ∈ wsX20, w ∈ wsX2_giveBackRuns := by decide +kernel
theorem hk_X2_giveBackRuns_9 : Cond.fieldLink RX2 9 "BuddyFiles$Home" "cells" "[I" ∈ wsX2_giveBackRuns := by decide +kernel
abbrev rm_X2_giveBackRuns : Room := { frames := 3, cells := 0, slots := 0, locals := 63 }
set_option maxHeartbeats 4000000 in
set_option maxRecDepth 100000 in
theorem k_X2_giveBackRuns (l : Launch) (dC : Nat → ClassId) (dI : Nat → Nat → Nat) (A_h A_a : Nat) (K_a : ClassId) (c_a : Nat → Int32) (sz : Nat) (p1 : Int32) (p2 : Int32) (o_a : (Nat → Int32)) (hm : m_X2_giveBackRuns c_a p1 p2 = some o_a) : Met l yX2_giveBackRuns wsX2_giveBackRuns rm_X2_giveBackRuns (va_Pc [.ref A_h, .int p1, .int p2] (fun U => U.heap.size = sz ∧ va_P (dC, dI) vwCl (wH A_h A_a K_a c_a) U.heap ∧ va_K (dC, dI) vwCl (tH K_a) U ∧ va_D (fun _ => True) (wH A_h A_a K_a c_a))) (va_Qv (fun (_ : Unit) => True) (fun _ t => va_P (dC, dI) vwCl (wH A_h A_a K_a o_a) t.heap ∧ va_D (va_A (wH A_h A_a K_a c_a) sz) (wH A_h A_a K_a o_a)) (va_A (wH A_h A_a K_a c_a) sz)) 0 0 (va_A (wH A_h A_a K_a c_a) sz) := by
  refine Met.ofW (cc := cX2_giveBackRuns) (maxL := 6) (ret := (none)) (by decide) rfl ?_
  intro p e s m args below meth c s₁ B hml hv
  obtain ⟨rfl, hsz, hP, hK, hD0⟩ := hv
  have hx := B.exec
  have hb := B.bytes
  have hr := B.returns
  have hts := atoms_spec (ws := wsX2_giveBackRuns) B.pre
  have hown : s.vm.findClass RX2 = some m.cls := findClass_of_methodNamed B.named
  have hlocks := B.notSynchronized
  subst hsz
  have hD := hD0.self (sz := s.heap.size)
  generalize hAe : va_A (wH A_h A_a K_a c_a) s.heap.size = A at hD ⊢
  have hA : ∀ q : Nat, s.heap.size ≤ q → A q := fun q h => by rw [← hAe]; exact Or.inr h
  have hS : va_S A s.heap s.heap [] := va_S.rf
  have hP : va_P (dC, dI) vwCl (wH A_h A_a K_a c_a) s.heap := hP
  have hl := lv_entry ([.ref A_h, .int p1, .int p2]) (n := 6) (Nat.le_of_ble_eq_true rfl)
  rw [lg_entry_eq]
  generalize (lg_sl ([.ref A_h, .int p1, .int p2]) ++ List.replicate (6 - (lg_sl ([.ref A_h, .int p1, .int p2])).length) Slot.unset).toArray = ls at hl ⊢
  have hl : lv_has ls 6 [(0, .ref A_h), (1, .int p1), (2, .int p2)] := hl
  refine w_name (fun Q hQ => ?_)
  unfold m_X2_giveBackRuns at hm
  refine lv_aload_n hx hb dX2_giveBackRuns_0 rfl (lv_at hl 0 rfl) ?_
  refine lv_iload_n hx hb dX2_giveBackRuns_1 rfl (lv_at hl 1 rfl) ?_
  obtain ⟨x1, ex, hm⟩ := g_bind hm
  refine vp_callSi (W.runV (As := [.int p1]) (rest := []) ⟨hx, hb, hml, hown, hts⟩ (k_X2_blocksOf l dC dI A_h A_a K_a c_a p1 _ ex) (cwV 1 hts gX2_giveBackRuns_X2_blocksOf rfl rfl rfl (by decide +kernel) ⟨Nat.le_of_ble_eq_true rfl, Nat.le_of_ble_eq_true rfl⟩) ⟨w_blR, va_recv hK hP (ci := 1) (q0 := 0) rfl rfl, fun U hU hW => ⟨rfl, by rw [hU]; exact hP.sub [0, 1] rfl, va_K.moved hW.alike (hK.sub [0] rfl)⟩⟩ rfl rfl hl.1 rfl (lv_room (Nat.le_of_ble_eq_true rfl)) dX2_giveBackRuns_2 ⟨Nat.zero_le _, Nat.zero_le _⟩) (fun _ ey => ?_)
  subst ey
  refine lv_istore_n (lv' := [(3, .int x1), (0, .ref A_h), (1, .int p1), (2, .int p2)]) hx hb dX2_giveBackRuns_5 rfl hl (by decide) rfl (fun ls hl => ?_)
  refine lv_aload_n hx hb dX2_giveBackRuns_6 rfl (lv_at hl 1 rfl) ?_
  refine lv_iload_n hx hb dX2_giveBackRuns_7 rfl (lv_at hl 2 rfl) ?_
  obtain ⟨x2, ex, hm⟩ := g_bind hm
  refine vp_callSi (W.runV (As := [.int p1]) (rest := []) ⟨hx, hb, hml, hown, hts⟩ (k_X2_runsOf l dC dI A_h A_a K_a c_a p1 _ ex) (cwV 1 hts gX2_giveBackRuns_X2_runsOf rfl rfl rfl (by decide +kernel) ⟨Nat.le_of_ble_eq_true rfl, Nat.le_of_ble_eq_true rfl⟩) ⟨w_blR, va_recv hK hP (ci := 1) (q0 := 0) rfl rfl, fun U hU hW => ⟨rfl, by rw [hU]; exact hP.sub [0, 1] rfl, va_K.moved hW.alike (hK.sub [0] rfl)⟩⟩ rfl rfl hl.1 rfl (lv_room (Nat.le_of_ble_eq_true rfl)) dX2_giveBackRuns_8 ⟨Nat.zero_le _, Nat.zero_le _⟩) (fun _ ey => ?_)
  subst ey
  refine lv_iconst (v := 1) hx hb dX2_giveBackRuns_11 (by decide) ?_
  refine lv_isub hx hb dX2_giveBackRuns_12 ?_
  refine lv_istore (lv' := [(4, .int (x2 - (1 : Int32))), (3, .int x1), (0, .ref A_h), (1, .int p1), (2, .int p2)]) hx hb dX2_giveBackRuns_13 hl (by decide) rfl (fun ls hl => ?_)
  obtain ⟨rl7, hlp, hm⟩ := g_bind hm
  have hE7 : ∀ (f6 : (Nat → Int32)), Sum.inr f6 = rl7 → ∀ (H7e : Heap) (locs7e : List Loc), va_P (dC, dI) vwCl (wH A_h A_a K_a f6) H7e → va_D A (wH A_h A_a K_a f6) → va_S A s.heap H7e locs7e → ∀ (ls : Array Slot), lv_has ls 6 [] → W p l e (headSpec wsX2_giveBackRuns rm_X2_giveBackRuns).room s m (([.ref A_h, .int p1, .int p2] : List Value).toArray) below meth c H7e locs7e 0 0 Q (F0 m 74 ls []) := by
    intro f6 hq H7e locs7e hP hD hS ls hl
    subst hq
    have hm := g_sk_r hm
    have hm := g_k1_s hm
    cases hm
    subst hQ
    exact W.vret hx hb hr (fun t ht hW => ⟨⟨(), rfl, trivial, by rw [ht]; exact hP, hD⟩, hS.F ht⟩) hS.2.2 dX2_giveBackRuns_74
  have hV7 : ∀ v, Sum.inl v = rl7 → v = o_a := by
    intro v hq
    subst hq
    have hm := g_sk_l hm
    exact Option.some.inj hm
  have hL7 : ∀ (n : Nat) (y3 : Int32) (y4 : Int32) (f5 : (Nat → Int32)), g_loop (fun q => m_X2_giveBackRuns_L15 p1 p2 q.1 q.2.1 q.2.2) n (y3, y4, f5) = some rl7 → ∀ (H7b : Heap) (locs7b : List Loc), va_P (dC, dI) vwCl (wH A_h A_a K_a f5) H7b → va_D A (wH A_h A_a K_a f5) → va_S A s.heap H7b locs7b → ∀ (ls : Array Slot), lv_has ls 6 [(0, .ref A_h), (1, .int p1), (2, .int p2), (3, .int y3), (4, .int y4)] → W p l e (headSpec wsX2_giveBackRuns rm_X2_giveBackRuns).room s m (([.ref A_h, .int p1, .int p2] : List Value).toArray) below meth c H7b locs7b 0 0 Q (F0 m 15 ls []) := by
    intro n
    induction n with
    | zero =>
      intro y3 y4 f5 hm
      exact g_loop_z hm
    | succ n ih =>
      intro y3 y4 f5 hm H7b locs7b hP hD hS ls hl
      obtain ⟨q, hm, hy⟩ := g_loop_s hm
      have hm : m_X2_giveBackRuns_L15 p1 p2 y3 y4 f5 = some q := hm
      unfold m_X2_giveBackRuns_L15 at hm
      refine lv_iload hx hb dX2_giveBackRuns_15 (lv_at hl 4 rfl) ?_
      refine lv_if_lt (tgt := 74) hx hb dX2_giveBackRuns_17 (by decide) (fun c8 => ?_) (fun c8 => ?_)
      · have hm := g_t c8 hm
        cases hm
        exact hE7 _ hy _ _ hP hD hS _ (lv_sub hl [] rfl)
      · have hm := g_f c8 hm
        refine lv_aload_n hx hb dX2_giveBackRuns_20 rfl (lv_at hl 0 rfl) ?_
        refine lv_iload_n hx hb dX2_giveBackRuns_21 rfl (lv_at hl 1 rfl) ?_
        refine lv_iload hx hb dX2_giveBackRuns_22 (lv_at hl 4 rfl) ?_
        obtain ⟨x9, ex, hm⟩ := g_bind hm
        refine vp_callSi (W.runV (As := [.int p1, .int y4]) (rest := []) ⟨hx, hb, hml, hown, hts⟩ (k_X2_extentOf l dC dI A_h A_a K_a f5 p1 y4 _ ex) (cwV 2 hts gX2_giveBackRuns_X2_extentOf rfl rfl rfl (by decide +kernel) ⟨Nat.le_of_ble_eq_true rfl, Nat.le_of_ble_eq_true rfl⟩) ⟨w_blR, va_recv hK hP (ci := 1) (q0 := 0) rfl rfl, fun U hU hW => ⟨rfl, by rw [hU]; exact hP.sub [0, 1] rfl, va_K.moved hW.alike (hK.sub [0] rfl)⟩⟩ rfl rfl hl.1 rfl (lv_room (Nat.le_of_ble_eq_true rfl)) dX2_giveBackRuns_24 ⟨Nat.zero_le _, Nat.zero_le _⟩) (fun _ ey => ?_)
        subst ey
        refine lv_istore (lv' := [(5, .int x9), (0, .ref A_h), (1, .int p1), (2, .int p2), (3, .int y3), (4, .int y4)]) hx hb dX2_giveBackRuns_27 hl (by decide) rfl (fun ls hl => ?_)
        refine lv_iload_n hx hb dX2_giveBackRuns_29 rfl (lv_at hl 4 rfl) ?_
        refine lv_iload hx hb dX2_giveBackRuns_30 (lv_at hl 0 rfl) ?_
        obtain ⟨x10, ex, hm⟩ := g_bind hm
        refine vp_callSi (W.runS (As := [.int x9]) (rest := [.int y3]) ⟨hx, hb, hml, hown, hts⟩ (k_X3_blocksOf l  x9 _ ex) (va_cwS 1 hts gX2_giveBackRuns_X3_blocksOf rfl rfl rfl (by decide +kernel) ⟨Nat.le_of_ble_eq_true rfl, Nat.le_of_ble_eq_true rfl⟩) ⟨w_bl0, fun U hU hW => ⟨rfl, trivial⟩⟩ rfl rfl hl.1 rfl (lv_room (Nat.le_of_ble_eq_true rfl)) dX2_giveBackRuns_32 ⟨Nat.zero_le _, Nat.zero_le _⟩) (fun _ ey => ?_)
        subst ey
        refine lv_isub hx hb dX2_giveBackRuns_35 ?_
        refine lv_istore_n (lv' := [(3, .int (y3 - x10)), (5, .int x9), (0, .ref A_h), (1, .int p1), (2, .int p2), (4, .int y4)]) hx hb dX2_giveBackRuns_36 rfl hl (by decide) rfl (fun ls hl => ?_)
        refine lv_iload_n hx hb dX2_giveBackRuns_37 rfl (lv_at hl 0 rfl) ?_
        refine lv_iload_n hx hb dX2_giveBackRuns_38 rfl (lv_at hl 4 rfl) ?_
        refine lv_icmp_ge (tgt := 43) hx hb dX2_giveBackRuns_39 (by decide) (fun c11 => ?_) (fun c11 => ?_)
        · have hm := g_t c11 hm
          refine lv_aload_n hx hb dX2_giveBackRuns_43 rfl (lv_at hl 2 rfl) ?_
          refine va_get (D := (dC, dI)) (ci := 1) (v := .ref A_a) (C := RX2) (T := TX2) (N := 1) hx hb hts hi_X2_giveBackRuns_X2 hown hK hP 0 rfl rfl 0 (by decide) (hts (Cond.fieldLink RX2 9 "BuddyFiles$Home" "cells" "[I") hk_X2_giveBackRuns_9) (fun _ h9 => h9) rfl dX2_giveBackRuns_44 ?_
          refine lv_bipush (v := 45) hx hb dX2_giveBackRuns_47 (by decide) ?_
          refine lv_dup2_11 hx hb dX2_giveBackRuns_49 rfl rfl ?_
          obtain ⟨x12, ex, hm⟩ := g_bind hm
          refine w_ald hx hb hK hP 1 0 rfl rfl ex dX2_giveBackRuns_50 ?_
          refine lv_iload hx hb dX2_giveBackRuns_51 (lv_at hl 1 rfl) ?_
          obtain ⟨x13, ex, hm⟩ := g_bind hm
          refine vp_callSi (W.runS (As := [.int x9]) (rest := [.int x12, .int (45 : Int32), .ref A_a]) ⟨hx, hb, hml, hown, hts⟩ (k_X3_bitsOf l  x9 _ ex) (va_cwS 1 hts gX2_giveBackRuns_X3_bitsOf rfl rfl rfl (by decide +kernel) ⟨Nat.le_of_ble_eq_true rfl, Nat.le_of_ble_eq_true rfl⟩) ⟨w_bl0, fun U hU hW => ⟨rfl, trivial⟩⟩ rfl rfl hl.1 rfl (lv_room (Nat.le_of_ble_eq_true rfl)) dX2_giveBackRuns_53 ⟨Nat.zero_le _, Nat.zero_le _⟩) (fun _ ey => ?_)
          subst ey
          refine lv_iconst (v := -1) hx hb dX2_giveBackRuns_56 (by decide) ?_
          refine lv_ixor hx hb dX2_giveBackRuns_57 ?_
          refine lv_iand hx hb dX2_giveBackRuns_58 ?_
          obtain ⟨f14, ex, hm⟩ := g_bind hm
          refine w_ast hx hb hK hP hD hS 1 0 rfl rfl ex dX2_giveBackRuns_59 (fun H15 locs15 hP hD hS => ?_)
          have hP : va_P (dC, dI) vwCl (wH A_h A_a K_a f14) H15 := hP
          have hD : va_D A (wH A_h A_a K_a f14) := hD
          refine lv_aload_n hx hb dX2_giveBackRuns_60 rfl (lv_at hl 2 rfl) ?_
          refine lv_iload_n hx hb dX2_giveBackRuns_61 rfl (lv_at hl 3 rfl) ?_
          refine lv_iload hx hb dX2_giveBackRuns_62 (lv_at hl 5 rfl) ?_
          refine lv_iconst (v := 0) hx hb dX2_giveBackRuns_64 (by decide) ?_
          obtain ⟨f16, ex, hm⟩ := g_bind hm
          have hPc := hP.sub (ws' := (wH A_h A_a K_a f14)) [0, 1] rfl
          have hDc := hD.sub (ws' := (wH A_h A_a K_a f14)) [0, 1] (by decide) rfl
          have hKc := hK.sub (tys' := (tH K_a)) [0] rfl
          have hFc := va_free (wc := (wH A_h A_a K_a f14)) hD hS hA [0, 1] rfl
          refine va_callv (va_runV (As := [.int p1, .int y4, .int (0 : Int32)]) (rest := []) ⟨hx, hb, hml, hown, hts⟩ (k_X2_putExtent l dC dI A_h A_a K_a f14 H15.size p1 y4 (0 : Int32) _ ex) (cwV 3 hts gX2_giveBackRuns_X2_putExtent rfl rfl rfl (by decide +kernel) ⟨Nat.le_of_ble_eq_true rfl, Nat.le_of_ble_eq_true rfl⟩) ⟨w_blW, va_recv hKc hPc (ci := 1) (q0 := 0) rfl rfl, fun U hU hW => ⟨rfl, by rw [hU], by rw [hU]; exact hPc, va_K.moved hW.alike hKc, hDc.weaken (fun _ _ _ _ => trivial)⟩⟩ rfl rfl hl.1 rfl (lv_room (Nat.le_of_ble_eq_true rfl)) dX2_giveBackRuns_65 ⟨Nat.zero_le _, Nat.zero_le _⟩) hS (fun q _ h => hFc q h) hFc (fun _ t H17 locs17 ht hvm hw hB hz1 hk1 hS => ?_)
          refine W.widen (k := 0) (n := 0) (Nat.le_refl 0) (Nat.le_refl 0) ?_
          obtain ⟨hP1, hD1⟩ := hB
          rw [ht] at hP1
          obtain ⟨hP, hD⟩ := va_join (wr := []) (w1 := (wH A_h A_a K_a f16)) hP hD [0, 1] [] rfl rfl (by decide) (by decide) hk1 hFc hP1 hD1
          have hP : va_P (dC, dI) vwCl (wH A_h A_a K_a f16) H17 := hP.sub [0, 1] rfl
          have hD : va_D A (wH A_h A_a K_a f16) := hD.sub [0, 1] (by decide) rfl
          refine lv_iinc (v := (y4 + (-1 : Int32))) (lv' := [(4, .int (y4 + (-1 : Int32))), (3, .int (y3 - x10)), (5, .int x9), (0, .ref A_h), (1, .int p1), (2, .int p2)]) hx hb dX2_giveBackRuns_68 hl (k := 5) rfl rfl (by decide) rfl (fun ls hl => ?_)
          refine lv_goto (tgt := 15) hx hb dX2_giveBackRuns_71 (by decide) ?_
          cases hm
          exact ih _ _ _ hy _ _ hP hD hS _ (lv_sub hl [3, 4, 5, 1, 0] rfl)
        · have hm := g_f c11 hm
          cases hm
          have hq := hV7 _ hy
          cases hq
          subst hQ
          exact W.vret hx hb hr (fun t ht hW => ⟨⟨(), rfl, trivial, by rw [ht]; exact hP, hD⟩, hS.F ht⟩) hS.2.2 dX2_giveBackRuns_42
  exact hL7 _ _ _ _ hlp _ _ hP hD hS _ (lv_sub hl [2, 3, 4, 1, 0] rfl)
theorem hi_X2_putWord_X2 : ∀ w ∈ wsX20, w ∈ wsX2_putWord := by decide +kernel
theorem hk_X2_putWord_9 : Cond.fieldLink RX2 9 "BuddyFiles$Home" "cells" "[I" ∈ wsX2_putWord := by decide +kernel
abbrev rm_X2_putWord : Room := { frames := 3, cells := 0, slots := 0, locals := 66 }
set_option maxHeartbeats 4000000 in
set_option maxRecDepth 100000 in
theorem k_X2_putWord (l : Launch) (dC : Nat → ClassId) (dI : Nat → Nat → Nat) (A_h A_a : Nat) (K_a : ClassId) (c_a : Nat → Int32) (sz : Nat) (p1 : Int32) (p2 : Int32) (p3 : Int32) (o_a : (Nat → Int32)) (hm : m_X2_putWord c_a p1 p2 p3 = some o_a) : Met l yX2_putWord wsX2_putWord rm_X2_putWord (va_Pc [.ref A_h, .int p1, .int p2, .int p3] (fun U => U.heap.size = sz ∧ va_P (dC, dI) vwCl (wH A_h A_a K_a c_a) U.heap ∧ va_K (dC, dI) vwCl (tH K_a) U ∧ va_D (fun _ => True) (wH A_h A_a K_a c_a))) (va_Qv (fun (_ : Unit) => True) (fun _ t => va_P (dC, dI) vwCl (wH A_h A_a K_a o_a) t.heap ∧ va_D (va_A (wH A_h A_a K_a c_a) sz) (wH A_h A_a K_a o_a)) (va_A (wH A_h A_a K_a c_a) sz)) 0 0 (va_A (wH A_h A_a K_a c_a) sz) := by
  refine Met.ofW (cc := cX2_putWord) (maxL := 5) (ret := (none)) (by decide) rfl ?_
  intro p e s m args below meth c s₁ B hml hv
  obtain ⟨rfl, hsz, hP, hK, hD0⟩ := hv
  have hx := B.exec
  have hb := B.bytes
  have hr := B.returns
  have hts := atoms_spec (ws := wsX2_putWord) B.pre
  have hown : s.vm.findClass RX2 = some m.cls := findClass_of_methodNamed B.named
  have hlocks := B.notSynchronized
  subst hsz
  have hD := hD0.self (sz := s.heap.size)
  generalize hAe : va_A (wH A_h A_a K_a c_a) s.heap.size = A at hD ⊢
  have hA : ∀ q : Nat, s.heap.size ≤ q → A q := fun q h => by rw [← hAe]; exact Or.inr h
  have hS : va_S A s.heap s.heap [] := va_S.rf
  have hP : va_P (dC, dI) vwCl (wH A_h A_a K_a c_a) s.heap := hP
  have hl := lv_entry ([.ref A_h, .int p1, .int p2, .int p3]) (n := 5) (Nat.le_of_ble_eq_true rfl)
  rw [lg_entry_eq]
  generalize (lg_sl ([.ref A_h, .int p1, .int p2, .int p3]) ++ List.replicate (5 - (lg_sl ([.ref A_h, .int p1, .int p2, .int p3])).length) Slot.unset).toArray = ls at hl ⊢
  have hl : lv_has ls 5 [(0, .ref A_h), (1, .int p1), (2, .int p2), (3, .int p3)] := hl
  refine w_name (fun Q hQ => ?_)
  unfold m_X2_putWord at hm
  refine lv_aload_n hx hb dX2_putWord_0 rfl (lv_at hl 0 rfl) ?_
  refine lv_iload_n hx hb dX2_putWord_1 rfl (lv_at hl 1 rfl) ?_
  refine lv_iload_n hx hb dX2_putWord_2 rfl (lv_at hl 2 rfl) ?_
  obtain ⟨x1, ex, hm⟩ := g_bind hm
  refine vp_callSi (W.runV (As := [.int p1, .int p2]) (rest := []) ⟨hx, hb, hml, hown, hts⟩ (k_X2_wordIndex l dC dI A_h A_a K_a c_a p1 p2 _ ex) (cwV 2 hts gX2_putWord_X2_wordIndex rfl rfl rfl (by decide +kernel) ⟨Nat.le_of_ble_eq_true rfl, Nat.le_of_ble_eq_true rfl⟩) ⟨w_blR, va_recv hK hP (ci := 1) (q0 := 0) rfl rfl, fun U hU hW => ⟨rfl, by rw [hU]; exact hP.sub [0, 1] rfl, va_K.moved hW.alike (hK.sub [0] rfl)⟩⟩ rfl rfl hl.1 rfl (lv_room (Nat.le_of_ble_eq_true rfl)) dX2_putWord_3 ⟨Nat.zero_le _, Nat.zero_le _⟩) (fun _ ey => ?_)
  subst ey
  refine lv_istore (lv' := [(4, .int x1), (0, .ref A_h), (1, .int p1), (2, .int p2), (3, .int p3)]) hx hb dX2_putWord_6 hl (by decide) rfl (fun ls hl => ?_)
  refine lv_iload hx hb dX2_putWord_8 (lv_at hl 0 rfl) ?_
  refine lv_iconst (v := -1) hx hb dX2_putWord_10 (by decide) ?_
  refine lv_icmp_eq (tgt := 25) hx hb dX2_putWord_11 (by decide) (fun c2 => ?_) (fun c2 => ?_)
  · have hm := g_t c2 hm
    cases hm
    subst hQ
    exact W.vret hx hb hr (fun t ht hW => ⟨⟨(), rfl, trivial, by rw [ht]; exact hP, hD⟩, hS.F ht⟩) hS.2.2 dX2_putWord_25
  · have hm := g_f c2 hm
    refine lv_aload_n hx hb dX2_putWord_14 rfl (lv_at hl 1 rfl) ?_
    refine va_get (D := (dC, dI)) (ci := 1) (v := .ref A_a) (C := RX2) (T := TX2) (N := 1) hx hb hts hi_X2_putWord_X2 hown hK hP 0 rfl rfl 0 (by decide) (hts (Cond.fieldLink RX2 9 "BuddyFiles$Home" "cells" "[I") hk_X2_putWord_9) (fun _ h9 => h9) rfl dX2_putWord_15 ?_
    refine lv_bipush (v := 46) hx hb dX2_putWord_18 (by decide) ?_
    refine lv_iload hx hb dX2_putWord_20 (lv_at hl 0 rfl) ?_
    refine lv_iadd hx hb dX2_putWord_22 ?_
    refine lv_iload_n hx hb dX2_putWord_23 rfl (lv_at hl 4 rfl) ?_
    obtain ⟨f3, ex, hm⟩ := g_bind hm
    refine w_ast hx hb hK hP hD hS 1 0 rfl rfl ex dX2_putWord_24 (fun H4 locs4 hP hD hS => ?_)
    have hP : va_P (dC, dI) vwCl (wH A_h A_a K_a f3) H4 := hP
    have hD : va_D A (wH A_h A_a K_a f3) := hD
    cases hm
    subst hQ
    exact W.vret hx hb hr (fun t ht hW => ⟨⟨(), rfl, trivial, by rw [ht]; exact hP, hD⟩, hS.F ht⟩) hS.2.2 dX2_putWord_25
abbrev rm_X2_shrink : Room := { frames := 4, cells := 0, slots := 0, locals := 90 }
set_option maxHeartbeats 4000000 in
set_option maxRecDepth 100000 in
theorem k_X2_shrink (l : Launch) (dC : Nat → ClassId) (dI : Nat → Nat → Nat) (A_h A_a : Nat) (K_a : ClassId) (c_a : Nat → Int32) (sz : Nat) (p1 : Int32) (p2 : Int32) (o_a : (Nat → Int32)) (hm : m_X2_shrink c_a p1 p2 = some o_a) : Met l yX2_shrink wsX2_shrink rm_X2_shrink (va_Pc [.ref A_h, .int p1, .int p2] (fun U => U.heap.size = sz ∧ va_P (dC, dI) vwCl (wH A_h A_a K_a c_a) U.heap ∧ va_K (dC, dI) vwCl (tH K_a) U ∧ va_D (fun _ => True) (wH A_h A_a K_a c_a))) (va_Qv (fun (_ : Unit) => True) (fun _ t => va_P (dC, dI) vwCl (wH A_h A_a K_a o_a) t.heap ∧ va_D (va_A (wH A_h A_a K_a c_a) sz) (wH A_h A_a K_a o_a)) (va_A (wH A_h A_a K_a c_a) sz)) 0 0 (va_A (wH A_h A_a K_a c_a) sz) := by
  refine Met.ofW (cc := cX2_shrink) (maxL := 5) (ret := (none)) (by decide) rfl ?_
  intro p e s m args below meth c s₁ B hml hv
  obtain ⟨rfl, hsz, hP, hK, hD0⟩ := hv
  have hx := B.exec
  have hb := B.bytes
  have hr := B.returns
  have hts := atoms_spec (ws := wsX2_shrink) B.pre
  have hown : s.vm.findClass RX2 = some m.cls := findClass_of_methodNamed B.named
  have hlocks := B.notSynchronized
  subst hsz
  have hD := hD0.self (sz := s.heap.size)
  generalize hAe : va_A (wH A_h A_a K_a c_a) s.heap.size = A at hD ⊢
  have hA : ∀ q : Nat, s.heap.size ≤ q → A q := fun q h => by rw [← hAe]; exact Or.inr h
  have hS : va_S A s.heap s.heap [] := va_S.rf
  have hP : va_P (dC, dI) vwCl (wH A_h A_a K_a c_a) s.heap := hP
  have hl := lv_entry ([.ref A_h, .int p1, .int p2]) (n := 5) (Nat.le_of_ble_eq_true rfl)
  rw [lg_entry_eq]
  generalize (lg_sl ([.ref A_h, .int p1, .int p2]) ++ List.replicate (5 - (lg_sl ([.ref A_h, .int p1, .int p2])).length) Slot.unset).toArray = ls at hl ⊢
  have hl : lv_has ls 5 [(0, .ref A_h), (1, .int p1), (2, .int p2)] := hl
  refine w_name (fun Q hQ => ?_)
  unfold m_X2_shrink at hm
  refine lv_aload_n hx hb dX2_shrink_0 rfl (lv_at hl 0 rfl) ?_
  refine lv_iload_n hx hb dX2_shrink_1 rfl (lv_at hl 1 rfl) ?_
  obtain ⟨x1, ex, hm⟩ := g_bind hm
  refine vp_callSi (W.runV (As := [.int p1]) (rest := []) ⟨hx, hb, hml, hown, hts⟩ (k_X2_lengthOf l dC dI A_h A_a K_a c_a p1 _ ex) (cwV 1 hts gX2_shrink_X2_lengthOf rfl rfl rfl (by decide +kernel) ⟨Nat.le_of_ble_eq_true rfl, Nat.le_of_ble_eq_true rfl⟩) ⟨w_blR, va_recv hK hP (ci := 1) (q0 := 0) rfl rfl, fun U hU hW => ⟨rfl, by rw [hU]; exact hP.sub [0, 1] rfl, va_K.moved hW.alike (hK.sub [0] rfl)⟩⟩ rfl rfl hl.1 rfl (lv_room (Nat.le_of_ble_eq_true rfl)) dX2_shrink_2 ⟨Nat.zero_le _, Nat.zero_le _⟩) (fun _ ey => ?_)
  subst ey
  refine lv_istore_n (lv' := [(3, .int x1), (0, .ref A_h), (1, .int p1), (2, .int p2)]) hx hb dX2_shrink_5 rfl hl (by decide) rfl (fun ls hl => ?_)
  refine lv_iload_n hx hb dX2_shrink_6 rfl (lv_at hl 3 rfl) ?_
  refine lv_istore (lv' := [(4, .int p2), (3, .int x1), (0, .ref A_h), (1, .int p1), (2, .int p2)]) hx hb dX2_shrink_7 hl (by decide) rfl (fun ls hl => ?_)
  obtain ⟨rl5, hlp, hm⟩ := g_bind hm
  have hE5 : ∀ (f4 : (Nat → Int32)), f4 = rl5 → ∀ (H5e : Heap) (locs5e : List Loc), va_P (dC, dI) vwCl (wH A_h A_a K_a f4) H5e → va_D A (wH A_h A_a K_a f4) → va_S A s.heap H5e locs5e → ∀ (ls : Array Slot), lv_has ls 5 [(0, .ref A_h), (1, .int p1), (2, .int p2)] → W p l e (headSpec wsX2_shrink rm_X2_shrink).room s m (([.ref A_h, .int p1, .int p2] : List Value).toArray) below meth c H5e locs5e 0 0 Q (F0 m 29 ls []) := by
    intro f4 hq H5e locs5e hP hD hS ls hl
    subst hq
    have hm := g_k1_s hm
    refine lv_aload_n hx hb dX2_shrink_29 rfl (lv_at hl 0 rfl) ?_
    refine lv_iload_n hx hb dX2_shrink_30 rfl (lv_at hl 1 rfl) ?_
    refine lv_iload_n hx hb dX2_shrink_31 rfl (lv_at hl 2 rfl) ?_
    obtain ⟨f9, ex, hm⟩ := g_bind hm
    have hPc := hP.sub (ws' := (wH A_h A_a K_a f4)) [0, 1] rfl
    have hDc := hD.sub (ws' := (wH A_h A_a K_a f4)) [0, 1] (by decide) rfl
    have hKc := hK.sub (tys' := (tH K_a)) [0] rfl
    have hFc := va_free (wc := (wH A_h A_a K_a f4)) hD hS hA [0, 1] rfl
    refine va_callv (va_runV (As := [.int p1, .int p2]) (rest := []) ⟨hx, hb, hml, hown, hts⟩ (k_X2_putLength l dC dI A_h A_a K_a f4 H5e.size p1 p2 _ ex) (cwV 2 hts gX2_shrink_X2_putLength rfl rfl rfl (by decide +kernel) ⟨Nat.le_of_ble_eq_true rfl, Nat.le_of_ble_eq_true rfl⟩) ⟨w_blW, va_recv hKc hPc (ci := 1) (q0 := 0) rfl rfl, fun U hU hW => ⟨rfl, by rw [hU], by rw [hU]; exact hPc, va_K.moved hW.alike hKc, hDc.weaken (fun _ _ _ _ => trivial)⟩⟩ rfl rfl hl.1 rfl (lv_room (Nat.le_of_ble_eq_true rfl)) dX2_shrink_32 ⟨Nat.zero_le _, Nat.zero_le _⟩) hS (fun q _ h => hFc q h) hFc (fun _ t H10 locs10 ht hvm hw hB hz1 hk1 hS => ?_)
    refine W.widen (k := 0) (n := 0) (Nat.le_refl 0) (Nat.le_refl 0) ?_
    obtain ⟨hP1, hD1⟩ := hB
    rw [ht] at hP1
    obtain ⟨hP, hD⟩ := va_join (wr := []) (w1 := (wH A_h A_a K_a f9)) hP hD [0, 1] [] rfl rfl (by decide) (by decide) hk1 hFc hP1 hD1
    have hP : va_P (dC, dI) vwCl (wH A_h A_a K_a f9) H10 := hP.sub [0, 1] rfl
    have hD : va_D A (wH A_h A_a K_a f9) := hD.sub [0, 1] (by decide) rfl
    refine lv_aload_n hx hb dX2_shrink_35 rfl (lv_at hl 0 rfl) ?_
    refine lv_iload_n hx hb dX2_shrink_36 rfl (lv_at hl 1 rfl) ?_
    refine lv_iload_n hx hb dX2_shrink_37 rfl (lv_at hl 2 rfl) ?_
    obtain ⟨x11, ex, hm⟩ := g_bind hm
    refine vp_callSi (W.runS (As := [.int p2]) (rest := [.int p1, .ref A_h]) ⟨hx, hb, hml, hown, hts⟩ (k_X2_needOf l  p2 _ ex) (va_cwS 1 hts gX2_shrink_X2_needOf rfl rfl rfl (by decide +kernel) ⟨Nat.le_of_ble_eq_true rfl, Nat.le_of_ble_eq_true rfl⟩) ⟨w_bl0, fun U hU hW => ⟨rfl, trivial⟩⟩ rfl rfl hl.1 rfl (lv_room (Nat.le_of_ble_eq_true rfl)) dX2_shrink_38 ⟨Nat.zero_le _, Nat.zero_le _⟩) (fun _ ey => ?_)
    subst ey
    obtain ⟨f12, ex, hm⟩ := g_bind hm
    have hPc := hP.sub (ws' := (wH A_h A_a K_a f9)) [0, 1] rfl
    have hDc := hD.sub (ws' := (wH A_h A_a K_a f9)) [0, 1] (by decide) rfl
    have hKc := hK.sub (tys' := (tH K_a)) [0] rfl
    have hFc := va_free (wc := (wH A_h A_a K_a f9)) hD hS hA [0, 1] rfl
    refine va_callv (va_runV (As := [.int p1, .int x11]) (rest := []) ⟨hx, hb, hml, hown, hts⟩ (k_X2_giveBackRuns l dC dI A_h A_a K_a f9 H10.size p1 x11 _ ex) (cwV 2 hts gX2_shrink_X2_giveBackRuns rfl rfl rfl (by decide +kernel) ⟨Nat.le_of_ble_eq_true rfl, Nat.le_of_ble_eq_true rfl⟩) ⟨w_blW, va_recv hKc hPc (ci := 1) (q0 := 0) rfl rfl, fun U hU hW => ⟨rfl, by rw [hU], by rw [hU]; exact hPc, va_K.moved hW.alike hKc, hDc.weaken (fun _ _ _ _ => trivial)⟩⟩ rfl rfl hl.1 rfl (lv_room (Nat.le_of_ble_eq_true rfl)) dX2_shrink_41 ⟨Nat.zero_le _, Nat.zero_le _⟩) hS (fun q _ h => hFc q h) hFc (fun _ t H13 locs13 ht hvm hw hB hz1 hk1 hS => ?_)
    refine W.widen (k := 0) (n := 0) (Nat.le_refl 0) (Nat.le_refl 0) ?_
    obtain ⟨hP1, hD1⟩ := hB
    rw [ht] at hP1
    obtain ⟨hP, hD⟩ := va_join (wr := []) (w1 := (wH A_h A_a K_a f12)) hP hD [0, 1] [] rfl rfl (by decide) (by decide) hk1 hFc hP1 hD1
    have hP : va_P (dC, dI) vwCl (wH A_h A_a K_a f12) H13 := hP.sub [0, 1] rfl
    have hD : va_D A (wH A_h A_a K_a f12) := hD.sub [0, 1] (by decide) rfl
    cases hm
    subst hQ
    exact W.vret hx hb hr (fun t ht hW => ⟨⟨(), rfl, trivial, by rw [ht]; exact hP, hD⟩, hS.F ht⟩) hS.2.2 dX2_shrink_44
  have hL5 : ∀ (n : Nat) (y2 : Int32) (f3 : (Nat → Int32)), g_loop (fun q => m_X2_shrink_L9 p1 x1 q.1 q.2) n (y2, f3) = some rl5 → ∀ (H5b : Heap) (locs5b : List Loc), va_P (dC, dI) vwCl (wH A_h A_a K_a f3) H5b → va_D A (wH A_h A_a K_a f3) → va_S A s.heap H5b locs5b → ∀ (ls : Array Slot), lv_has ls 5 [(0, .ref A_h), (1, .int p1), (2, .int p2), (3, .int x1), (4, .int y2)] → W p l e (headSpec wsX2_shrink rm_X2_shrink).room s m (([.ref A_h, .int p1, .int p2] : List Value).toArray) below meth c H5b locs5b 0 0 Q (F0 m 9 ls []) := by
    intro n
    induction n with
    | zero =>
      intro y2 f3 hm
      exact g_loop_z hm
    | succ n ih =>
      intro y2 f3 hm H5b locs5b hP hD hS ls hl
      obtain ⟨q, hm, hy⟩ := g_loop_s hm
      have hm : m_X2_shrink_L9 p1 x1 y2 f3 = some q := hm
      unfold m_X2_shrink_L9 at hm
      refine lv_iload hx hb dX2_shrink_9 (lv_at hl 4 rfl) ?_
      refine lv_iload_n hx hb dX2_shrink_11 rfl (lv_at hl 3 rfl) ?_
      refine lv_icmp_ge (tgt := 29) hx hb dX2_shrink_12 (by decide) (fun c6 => ?_) (fun c6 => ?_)
      · have hm := g_t c6 hm
        cases hm
        exact hE5 _ hy _ _ hP hD hS _ (lv_sub hl [0, 1, 2] rfl)
      · have hm := g_f c6 hm
        refine lv_aload_n hx hb dX2_shrink_15 rfl (lv_at hl 0 rfl) ?_
        refine lv_iload_n hx hb dX2_shrink_16 rfl (lv_at hl 1 rfl) ?_
        refine lv_iload hx hb dX2_shrink_17 (lv_at hl 4 rfl) ?_
        refine lv_iconst (v := 0) hx hb dX2_shrink_19 (by decide) ?_
        obtain ⟨f7, ex, hm⟩ := g_bind hm
        have hPc := hP.sub (ws' := (wH A_h A_a K_a f3)) [0, 1] rfl
        have hDc := hD.sub (ws' := (wH A_h A_a K_a f3)) [0, 1] (by decide) rfl
        have hKc := hK.sub (tys' := (tH K_a)) [0] rfl
        have hFc := va_free (wc := (wH A_h A_a K_a f3)) hD hS hA [0, 1] rfl
        refine va_callv (va_runV (As := [.int p1, .int y2, .int (0 : Int32)]) (rest := []) ⟨hx, hb, hml, hown, hts⟩ (k_X2_putWord l dC dI A_h A_a K_a f3 H5b.size p1 y2 (0 : Int32) _ ex) (cwV 3 hts gX2_shrink_X2_putWord rfl rfl rfl (by decide +kernel) ⟨Nat.le_of_ble_eq_true rfl, Nat.le_of_ble_eq_true rfl⟩) ⟨w_blW, va_recv hKc hPc (ci := 1) (q0 := 0) rfl rfl, fun U hU hW => ⟨rfl, by rw [hU], by rw [hU]; exact hPc, va_K.moved hW.alike hKc, hDc.weaken (fun _ _ _ _ => trivial)⟩⟩ rfl rfl hl.1 rfl (lv_room (Nat.le_of_ble_eq_true rfl)) dX2_shrink_20 ⟨Nat.zero_le _, Nat.zero_le _⟩) hS (fun q _ h => hFc q h) hFc (fun _ t H8 locs8 ht hvm hw hB hz1 hk1 hS => ?_)
        refine W.widen (k := 0) (n := 0) (Nat.le_refl 0) (Nat.le_refl 0) ?_
        obtain ⟨hP1, hD1⟩ := hB
        rw [ht] at hP1
        obtain ⟨hP, hD⟩ := va_join (wr := []) (w1 := (wH A_h A_a K_a f7)) hP hD [0, 1] [] rfl rfl (by decide) (by decide) hk1 hFc hP1 hD1
        have hP : va_P (dC, dI) vwCl (wH A_h A_a K_a f7) H8 := hP.sub [0, 1] rfl
        have hD : va_D A (wH A_h A_a K_a f7) := hD.sub [0, 1] (by decide) rfl
        refine lv_iinc (v := (y2 + (1 : Int32))) (lv' := [(4, .int (y2 + (1 : Int32))), (0, .ref A_h), (1, .int p1), (2, .int p2), (3, .int x1)]) hx hb dX2_shrink_23 hl (k := 4) rfl rfl (by decide) rfl (fun ls hl => ?_)
        refine lv_goto (tgt := 9) hx hb dX2_shrink_26 (by decide) ?_
        cases hm
        exact ih _ _ hy _ _ hP hD hS _ (lv_sub hl [1, 2, 3, 4, 0] rfl)
  exact hL5 _ _ _ hlp _ _ hP hD hS _ (lv_sub hl [2, 3, 4, 1, 0] rfl)
abbrev rm_X2_dropFile : Room := { frames := 5, cells := 0, slots := 0, locals := 114 }
set_option maxHeartbeats 4000000 in
set_option maxRecDepth 100000 in
theorem k_X2_dropFile (l : Launch) (dC : Nat → ClassId) (dI : Nat → Nat → Nat) (A_h A_a : Nat) (K_a : ClassId) (c_a : Nat → Int32) (sz : Nat) (p1 : Int32) (o_a : (Nat → Int32)) (hm : m_X2_dropFile c_a p1 = some o_a) : Met l yX2_dropFile wsX2_dropFile rm_X2_dropFile (va_Pc [.ref A_h, .int p1] (fun U => U.heap.size = sz ∧ va_P (dC, dI) vwCl (wH A_h A_a K_a c_a) U.heap ∧ va_K (dC, dI) vwCl (tH K_a) U ∧ va_D (fun _ => True) (wH A_h A_a K_a c_a))) (va_Qv (fun (_ : Unit) => True) (fun _ t => va_P (dC, dI) vwCl (wH A_h A_a K_a o_a) t.heap ∧ va_D (va_A (wH A_h A_a K_a c_a) sz) (wH A_h A_a K_a o_a)) (va_A (wH A_h A_a K_a c_a) sz)) 0 0 (va_A (wH A_h A_a K_a c_a) sz) := by
  refine Met.ofW (cc := cX2_dropFile) (maxL := 2) (ret := (none)) (by decide) rfl ?_
  intro p e s m args below meth c s₁ B hml hv
  obtain ⟨rfl, hsz, hP, hK, hD0⟩ := hv
  have hx := B.exec
  have hb := B.bytes
  have hr := B.returns
  have hts := atoms_spec (ws := wsX2_dropFile) B.pre
  have hown : s.vm.findClass RX2 = some m.cls := findClass_of_methodNamed B.named
  have hlocks := B.notSynchronized
  subst hsz
  have hD := hD0.self (sz := s.heap.size)
  generalize hAe : va_A (wH A_h A_a K_a c_a) s.heap.size = A at hD ⊢
  have hA : ∀ q : Nat, s.heap.size ≤ q → A q := fun q h => by rw [← hAe]; exact Or.inr h
  have hS : va_S A s.heap s.heap [] := va_S.rf
  have hP : va_P (dC, dI) vwCl (wH A_h A_a K_a c_a) s.heap := hP
  have hl := lv_entry ([.ref A_h, .int p1]) (n := 2) (Nat.le_of_ble_eq_true rfl)
  rw [lg_entry_eq]
  generalize (lg_sl ([.ref A_h, .int p1]) ++ List.replicate (2 - (lg_sl ([.ref A_h, .int p1])).length) Slot.unset).toArray = ls at hl ⊢
  have hl : lv_has ls 2 [(0, .ref A_h), (1, .int p1)] := hl
  refine w_name (fun Q hQ => ?_)
  unfold m_X2_dropFile at hm
  refine lv_aload_n hx hb dX2_dropFile_0 rfl (lv_at hl 0 rfl) ?_
  refine lv_iload_n hx hb dX2_dropFile_1 rfl (lv_at hl 1 rfl) ?_
  refine lv_iconst (v := 0) hx hb dX2_dropFile_2 (by decide) ?_
  obtain ⟨f1, ex, hm⟩ := g_bind hm
  have hPc := hP.sub (ws' := (wH A_h A_a K_a c_a)) [0, 1] rfl
  have hDc := hD.sub (ws' := (wH A_h A_a K_a c_a)) [0, 1] (by decide) rfl
  have hKc := hK.sub (tys' := (tH K_a)) [0] rfl
  have hFc := va_free (wc := (wH A_h A_a K_a c_a)) hD hS hA [0, 1] rfl
  refine va_callv (va_runV (As := [.int p1, .int (0 : Int32)]) (rest := []) ⟨hx, hb, hml, hown, hts⟩ (k_X2_shrink l dC dI A_h A_a K_a c_a s.heap.size p1 (0 : Int32) _ ex) (cwV 2 hts gX2_dropFile_X2_shrink rfl rfl rfl (by decide +kernel) ⟨Nat.le_of_ble_eq_true rfl, Nat.le_of_ble_eq_true rfl⟩) ⟨w_blW, va_recv hKc hPc (ci := 1) (q0 := 0) rfl rfl, fun U hU hW => ⟨rfl, by rw [hU], by rw [hU]; exact hPc, va_K.moved hW.alike hKc, hDc.weaken (fun _ _ _ _ => trivial)⟩⟩ rfl rfl hl.1 rfl (lv_room (Nat.le_of_ble_eq_true rfl)) dX2_dropFile_3 ⟨Nat.zero_le _, Nat.zero_le _⟩) hS (fun q _ h => hFc q h) hFc (fun _ t H2 locs2 ht hvm hw hB hz1 hk1 hS => ?_)
  refine W.widen (k := 0) (n := 0) (Nat.le_refl 0) (Nat.le_refl 0) ?_
  obtain ⟨hP1, hD1⟩ := hB
  rw [ht] at hP1
  obtain ⟨hP, hD⟩ := va_join (wr := []) (w1 := (wH A_h A_a K_a f1)) hP hD [0, 1] [] rfl rfl (by decide) (by decide) hk1 hFc hP1 hD1
  have hP : va_P (dC, dI) vwCl (wH A_h A_a K_a f1) H2 := hP.sub [0, 1] rfl
  have hD : va_D A (wH A_h A_a K_a f1) := hD.sub [0, 1] (by decide) rfl
  refine lv_aload_n hx hb dX2_dropFile_6 rfl (lv_at hl 0 rfl) ?_
  refine lv_iload_n hx hb dX2_dropFile_7 rfl (lv_at hl 1 rfl) ?_
  refine lv_iconst (v := 0) hx hb dX2_dropFile_8 (by decide) ?_
  refine lv_iconst (v := 0) hx hb dX2_dropFile_9 (by decide) ?_
  obtain ⟨f3, ex, hm⟩ := g_bind hm
  have hPc := hP.sub (ws' := (wH A_h A_a K_a f1)) [0, 1] rfl
  have hDc := hD.sub (ws' := (wH A_h A_a K_a f1)) [0, 1] (by decide) rfl
  have hKc := hK.sub (tys' := (tH K_a)) [0] rfl
  have hFc := va_free (wc := (wH A_h A_a K_a f1)) hD hS hA [0, 1] rfl
  refine va_callv (va_runV (As := [.int p1, .int (0 : Int32), .int (0 : Int32)]) (rest := []) ⟨hx, hb, hml, hown, hts⟩ (k_X2_makeFile l dC dI A_h A_a K_a f1 H2.size p1 (0 : Int32) (0 : Int32) _ ex) (cwV 3 hts gX2_dropFile_X2_makeFile rfl rfl rfl (by decide +kernel) ⟨Nat.le_of_ble_eq_true rfl, Nat.le_of_ble_eq_true rfl⟩) ⟨w_blW, va_recv hKc hPc (ci := 1) (q0 := 0) rfl rfl, fun U hU hW => ⟨rfl, by rw [hU], by rw [hU]; exact hPc, va_K.moved hW.alike hKc, hDc.weaken (fun _ _ _ _ => trivial)⟩⟩ rfl rfl hl.1 rfl (lv_room (Nat.le_of_ble_eq_true rfl)) dX2_dropFile_10 ⟨Nat.zero_le _, Nat.zero_le _⟩) hS (fun q _ h => hFc q h) hFc (fun _ t H4 locs4 ht hvm hw hB hz1 hk1 hS => ?_)
  refine W.widen (k := 0) (n := 0) (Nat.le_refl 0) (Nat.le_refl 0) ?_
  obtain ⟨hP1, hD1⟩ := hB
  rw [ht] at hP1
  obtain ⟨hP, hD⟩ := va_join (wr := []) (w1 := (wH A_h A_a K_a f3)) hP hD [0, 1] [] rfl rfl (by decide) (by decide) hk1 hFc hP1 hD1
  have hP : va_P (dC, dI) vwCl (wH A_h A_a K_a f3) H4 := hP.sub [0, 1] rfl
  have hD : va_D A (wH A_h A_a K_a f3) := hD.sub [0, 1] (by decide) rfl
  cases hm
  subst hQ
  exact W.vret hx hb hr (fun t ht hW => ⟨⟨(), rfl, trivial, by rw [ht]; exact hP, hD⟩, hS.F ht⟩) hS.2.2 dX2_dropFile_13
theorem hi_X2_takeRun_X2 : ∀ w ∈ wsX20, w ∈ wsX2_takeRun := by decide +kernel
theorem hk_X2_takeRun_9 : Cond.fieldLink RX2 9 "BuddyFiles$Home" "cells" "[I" ∈ wsX2_takeRun := by decide +kernel
abbrev rm_X2_takeRun : Room := { frames := 2, cells := 0, slots := 0, locals := 45 }
set_option maxHeartbeats 4000000 in
set_option maxRecDepth 100000 in
theorem k_X2_takeRun (l : Launch) (dC : Nat → ClassId) (dI : Nat → Nat → Nat) (A_h A_a : Nat) (K_a : ClassId) (c_a : Nat → Int32) (sz : Nat) (p1 : Int32) (r0 : Int32) (o_a : (Nat → Int32)) (hm : m_X2_takeRun c_a p1 = some (r0, o_a)) : Met l yX2_takeRun wsX2_takeRun rm_X2_takeRun (va_Pc [.ref A_h, .int p1] (fun U => U.heap.size = sz ∧ va_P (dC, dI) vwCl (wH A_h A_a K_a c_a) U.heap ∧ va_K (dC, dI) vwCl (tH K_a) U ∧ va_D (fun _ => True) (wH A_h A_a K_a c_a))) (va_Qi (fun (r : Int32) (_ : Unit) => r0 = r) (fun _ t => va_P (dC, dI) vwCl (wH A_h A_a K_a o_a) t.heap ∧ va_D (va_A (wH A_h A_a K_a c_a) sz) (wH A_h A_a K_a o_a)) (va_A (wH A_h A_a K_a c_a) sz)) 0 0 (va_A (wH A_h A_a K_a c_a) sz) := by
  refine Met.ofW (cc := cX2_takeRun) (maxL := 5) (ret := (some .int)) (by decide) rfl ?_
  intro p e s m args below meth c s₁ B hml hv
  obtain ⟨rfl, hsz, hP, hK, hD0⟩ := hv
  have hx := B.exec
  have hb := B.bytes
  have hr := B.returns
  have hts := atoms_spec (ws := wsX2_takeRun) B.pre
  have hown : s.vm.findClass RX2 = some m.cls := findClass_of_methodNamed B.named
  have hlocks := B.notSynchronized
  subst hsz
  have hD := hD0.self (sz := s.heap.size)
  generalize hAe : va_A (wH A_h A_a K_a c_a) s.heap.size = A at hD ⊢
  have hA : ∀ q : Nat, s.heap.size ≤ q → A q := fun q h => by rw [← hAe]; exact Or.inr h
  have hS : va_S A s.heap s.heap [] := va_S.rf
  have hP : va_P (dC, dI) vwCl (wH A_h A_a K_a c_a) s.heap := hP
  have hl := lv_entry ([.ref A_h, .int p1]) (n := 5) (Nat.le_of_ble_eq_true rfl)
  rw [lg_entry_eq]
  generalize (lg_sl ([.ref A_h, .int p1]) ++ List.replicate (5 - (lg_sl ([.ref A_h, .int p1])).length) Slot.unset).toArray = ls at hl ⊢
  have hl : lv_has ls 5 [(0, .ref A_h), (1, .int p1)] := hl
  refine w_name (fun Q hQ => ?_)
  unfold m_X2_takeRun at hm
  refine lv_iload_n hx hb dX2_takeRun_0 rfl (lv_at hl 1 rfl) ?_
  refine lv_istore_n (lv' := [(2, .int p1), (0, .ref A_h), (1, .int p1)]) hx hb dX2_takeRun_1 rfl hl (by decide) rfl (fun ls hl => ?_)
  obtain ⟨rl2, hlp, hm⟩ := g_bind hm
  have hE2 : Sum.inr () = rl2 → ∀ (H2e : Heap) (locs2e : List Loc), va_P (dC, dI) vwCl (wH A_h A_a K_a c_a) H2e → va_D A (wH A_h A_a K_a c_a) → va_S A s.heap H2e locs2e → ∀ (ls : Array Slot), lv_has ls 5 [] → W p l e (headSpec wsX2_takeRun rm_X2_takeRun).room s m (([.ref A_h, .int p1] : List Value).toArray) below meth c H2e locs2e 0 0 Q (F0 m 67 ls []) := by
    intro  hq H2e locs2e hP hD hS ls hl
    subst hq
    have hm := g_sk_r hm
    have hm := g_k0_s hm
    refine lv_iconst (v := 0) hx hb dX2_takeRun_67 (by decide) ?_
    cases hm
    subst hQ
    exact W.iret hx hb hr (fun t ht hW => ⟨⟨_, (), rfl, rfl, by rw [ht]; exact hP, hD⟩, hS.F ht⟩) hS.2.2 dX2_takeRun_68
  have hV2 : ∀ v, Sum.inl v = rl2 → v = (r0, o_a) := by
    intro v hq
    subst hq
    have hm := g_sk_l hm
    exact Option.some.inj hm
  have hL2 : ∀ (n : Nat) (y1 : Int32), g_loop (fun q => m_X2_takeRun_L2 p1 c_a q) n y1 = some rl2 → ∀ (H2b : Heap) (locs2b : List Loc), va_P (dC, dI) vwCl (wH A_h A_a K_a c_a) H2b → va_D A (wH A_h A_a K_a c_a) → va_S A s.heap H2b locs2b → ∀ (ls : Array Slot), lv_has ls 5 [(0, .ref A_h), (1, .int p1), (2, .int y1)] → W p l e (headSpec wsX2_takeRun rm_X2_takeRun).room s m (([.ref A_h, .int p1] : List Value).toArray) below meth c H2b locs2b 0 0 Q (F0 m 2 ls []) := by
    intro n
    induction n with
    | zero =>
      intro y1 hm
      exact g_loop_z hm
    | succ n ih =>
      intro y1 hm H2b locs2b hP hD hS ls hl
      obtain ⟨q, hm, hy⟩ := g_loop_s hm
      have hm : m_X2_takeRun_L2 p1 c_a y1 = some q := hm
      unfold m_X2_takeRun_L2 at hm
      refine lv_iload_n hx hb dX2_takeRun_2 rfl (lv_at hl 2 rfl) ?_
      refine lv_iconst (v := 5) hx hb dX2_takeRun_3 (by decide) ?_
      refine lv_icmp_gt (tgt := 67) hx hb dX2_takeRun_4 (by decide) (fun c3 => ?_) (fun c3 => ?_)
      · have hm := g_t c3 hm
        cases hm
        exact hE2 hy _ _ hP hD hS _ (lv_sub hl [] rfl)
      · have hm := g_f c3 hm
        refine lv_iconst (v := 0) hx hb dX2_takeRun_7 (by decide) ?_
        refine lv_istore_n (lv' := [(3, .int (0 : Int32)), (0, .ref A_h), (1, .int p1), (2, .int y1)]) hx hb dX2_takeRun_8 rfl hl (by decide) rfl (fun ls hl => ?_)
        obtain ⟨rl5, hlp, hm⟩ := g_bind hm
        have hE5 : Sum.inr () = rl5 → ∀ (H5e : Heap) (locs5e : List Loc), va_P (dC, dI) vwCl (wH A_h A_a K_a c_a) H5e → va_D A (wH A_h A_a K_a c_a) → va_S A s.heap H5e locs5e → ∀ (ls : Array Slot), lv_has ls 5 [(0, .ref A_h), (1, .int p1), (2, .int y1)] → W p l e (headSpec wsX2_takeRun rm_X2_takeRun).room s m (([.ref A_h, .int p1] : List Value).toArray) below meth c H5e locs5e 0 0 Q (F0 m 61 ls []) := by
          intro  hq H5e locs5e hP hD hS ls hl
          subst hq
          have hm := g_sk_r hm
          have hm := g_k0_s hm
          refine lv_iinc (v := (y1 + (1 : Int32))) (lv' := [(2, .int (y1 + (1 : Int32))), (0, .ref A_h), (1, .int p1)]) hx hb dX2_takeRun_61 hl (k := 2) rfl rfl (by decide) rfl (fun ls hl => ?_)
          refine lv_goto (tgt := 2) hx hb dX2_takeRun_64 (by decide) ?_
          cases hm
          exact ih _ hy _ _ hP hD hS _ (lv_sub hl [1, 2, 0] rfl)
        have hV5 : ∀ v, Sum.inl v = rl5 → v = (r0, o_a) := by
          intro v hq
          subst hq
          have hm := g_sk_l hm
          cases hm
          exact hV2 v hy
        have hL5 : ∀ (n : Nat) (y4 : Int32), g_loop (fun q => m_X2_takeRun_L9 p1 c_a y1 q) n y4 = some rl5 → ∀ (H5b : Heap) (locs5b : List Loc), va_P (dC, dI) vwCl (wH A_h A_a K_a c_a) H5b → va_D A (wH A_h A_a K_a c_a) → va_S A s.heap H5b locs5b → ∀ (ls : Array Slot), lv_has ls 5 [(0, .ref A_h), (1, .int p1), (2, .int y1), (3, .int y4)] → W p l e (headSpec wsX2_takeRun rm_X2_takeRun).room s m (([.ref A_h, .int p1] : List Value).toArray) below meth c H5b locs5b 0 0 Q (F0 m 9 ls []) := by
          intro n
          induction n with
          | zero =>
            intro y4 hm
            exact g_loop_z hm
          | succ n ih =>
            intro y4 hm H5b locs5b hP hD hS ls hl
            obtain ⟨q, hm, hy⟩ := g_loop_s hm
            have hm : m_X2_takeRun_L9 p1 c_a y1 y4 = some q := hm
            unfold m_X2_takeRun_L9 at hm
            refine lv_iload_n hx hb dX2_takeRun_9 rfl (lv_at hl 3 rfl) ?_
            refine lv_bipush (v := 32) hx hb dX2_takeRun_10 (by decide) ?_
            refine lv_iload_n hx hb dX2_takeRun_12 rfl (lv_at hl 2 rfl) ?_
            refine lv_ishr hx hb dX2_takeRun_13 ?_
            show W _ _ _ _ _ _ _ _ _ _ _ _ _ _ _ (F0 m 14 _ [.int (g_shr (32 : Int32) y1), .int y4])
            refine lv_icmp_ge (tgt := 61) hx hb dX2_takeRun_14 (by decide) (fun c6 => ?_) (fun c6 => ?_)
            · have hm := g_t c6 hm
              cases hm
              exact hE5 hy _ _ hP hD hS _ (lv_sub hl [0, 1, 2] rfl)
            · have hm := g_f c6 hm
              refine lv_iload_n hx hb dX2_takeRun_17 rfl (lv_at hl 3 rfl) ?_
              refine lv_iload_n hx hb dX2_takeRun_18 rfl (lv_at hl 2 rfl) ?_
              refine lv_ishl hx hb dX2_takeRun_19 ?_
              show W _ _ _ _ _ _ _ _ _ _ _ _ _ _ _ (F0 m 20 _ [.int (g_shl y4 y1)])
              refine lv_istore (lv' := [(4, .int (g_shl y4 y1)), (0, .ref A_h), (1, .int p1), (2, .int y1), (3, .int y4)]) hx hb dX2_takeRun_20 hl (by decide) rfl (fun ls hl => ?_)
              refine lv_aload_n hx hb dX2_takeRun_22 rfl (lv_at hl 1 rfl) ?_
              refine lv_iload hx hb dX2_takeRun_23 (lv_at hl 0 rfl) ?_
              refine lv_iload_n hx hb dX2_takeRun_25 rfl (lv_at hl 3 rfl) ?_
              obtain ⟨x7, ex, hm⟩ := g_bind hm
              refine vp_callSi (W.runV (As := [.int (g_shl y4 y1), .int y1]) (rest := []) ⟨hx, hb, hml, hown, hts⟩ (k_X2_isFreeRun l dC dI A_h A_a K_a c_a (g_shl y4 y1) y1 _ ex) (cwV 2 hts gX2_takeRun_X2_isFreeRun rfl rfl rfl (by decide +kernel) ⟨Nat.le_of_ble_eq_true rfl, Nat.le_of_ble_eq_true rfl⟩) ⟨w_blR, va_recv hK hP (ci := 1) (q0 := 0) rfl rfl, fun U hU hW => ⟨rfl, by rw [hU]; exact hP.sub [0, 1] rfl, va_K.moved hW.alike (hK.sub [0] rfl)⟩⟩ rfl rfl hl.1 rfl (lv_room (Nat.le_of_ble_eq_true rfl)) dX2_takeRun_26 ⟨Nat.zero_le _, Nat.zero_le _⟩) (fun _ ey => ?_)
              subst ey
              refine lv_if_eq (tgt := 55) hx hb dX2_takeRun_29 (by decide) (fun c8 => ?_) (fun c8 => ?_)
              · have hm := g_t c8 hm
                refine lv_iinc (v := (y4 + (1 : Int32))) (lv' := [(3, .int (y4 + (1 : Int32))), (4, .int (g_shl y4 y1)), (0, .ref A_h), (1, .int p1), (2, .int y1)]) hx hb dX2_takeRun_55 hl (k := 4) rfl rfl (by decide) rfl (fun ls hl => ?_)
                refine lv_goto (tgt := 9) hx hb dX2_takeRun_58 (by decide) ?_
                cases hm
                exact ih _ hy _ _ hP hD hS _ (lv_sub hl [2, 3, 4, 0] rfl)
              · have hm := g_f c8 hm
                refine lv_aload_n hx hb dX2_takeRun_32 rfl (lv_at hl 1 rfl) ?_
                refine va_get (D := (dC, dI)) (ci := 1) (v := .ref A_a) (C := RX2) (T := TX2) (N := 1) hx hb hts hi_X2_takeRun_X2 hown hK hP 0 rfl rfl 0 (by decide) (hts (Cond.fieldLink RX2 9 "BuddyFiles$Home" "cells" "[I") hk_X2_takeRun_9) (fun _ h9 => h9) rfl dX2_takeRun_33 ?_
                refine lv_bipush (v := 45) hx hb dX2_takeRun_36 (by decide) ?_
                refine lv_dup2_11 hx hb dX2_takeRun_38 rfl rfl ?_
                obtain ⟨x9, ex, hm⟩ := g_bind hm
                refine w_ald hx hb hK hP 1 0 rfl rfl ex dX2_takeRun_39 ?_
                refine lv_iload hx hb dX2_takeRun_40 (lv_at hl 0 rfl) ?_
                refine lv_iload_n hx hb dX2_takeRun_42 rfl (lv_at hl 2 rfl) ?_
                obtain ⟨x10, ex, hm⟩ := g_bind hm
                refine vp_callSi (W.runS (As := [.int (g_shl y4 y1), .int p1]) (rest := [.int x9, .int (45 : Int32), .ref A_a]) ⟨hx, hb, hml, hown, hts⟩ (k_X3_mapBits l  (g_shl y4 y1) p1 _ ex) (va_cwS 2 hts gX2_takeRun_X3_mapBits rfl rfl rfl (by decide +kernel) ⟨Nat.le_of_ble_eq_true rfl, Nat.le_of_ble_eq_true rfl⟩) ⟨w_bl0, fun U hU hW => ⟨rfl, trivial⟩⟩ rfl rfl hl.1 rfl (lv_room (Nat.le_of_ble_eq_true rfl)) dX2_takeRun_43 ⟨Nat.zero_le _, Nat.zero_le _⟩) (fun _ ey => ?_)
                subst ey
                refine lv_ior hx hb dX2_takeRun_46 ?_
                obtain ⟨f11, ex, hm⟩ := g_bind hm
                refine w_ast hx hb hK hP hD hS 1 0 rfl rfl ex dX2_takeRun_47 (fun H12 locs12 hP hD hS => ?_)
                have hP : va_P (dC, dI) vwCl (wH A_h A_a K_a f11) H12 := hP
                have hD : va_D A (wH A_h A_a K_a f11) := hD
                refine lv_iload hx hb dX2_takeRun_48 (lv_at hl 0 rfl) ?_
                refine lv_iload_n hx hb dX2_takeRun_50 rfl (lv_at hl 2 rfl) ?_
                obtain ⟨x13, ex, hm⟩ := g_bind hm
                refine vp_callSi (W.runS (As := [.int (g_shl y4 y1), .int p1]) (rest := []) ⟨hx, hb, hml, hown, hts⟩ (k_X3_cellOf l  (g_shl y4 y1) p1 _ ex) (va_cwS 2 hts gX2_takeRun_X3_cellOf rfl rfl rfl (by decide +kernel) ⟨Nat.le_of_ble_eq_true rfl, Nat.le_of_ble_eq_true rfl⟩) ⟨w_bl0, fun U hU hW => ⟨rfl, trivial⟩⟩ rfl rfl hl.1 rfl (lv_room (Nat.le_of_ble_eq_true rfl)) dX2_takeRun_51 ⟨Nat.zero_le _, Nat.zero_le _⟩) (fun _ ey => ?_)
                subst ey
                cases hm
                have hq := hV5 _ hy
                cases hq
                subst hQ
                exact W.iret hx hb hr (fun t ht hW => ⟨⟨_, (), rfl, rfl, by rw [ht]; exact hP, hD⟩, hS.F ht⟩) hS.2.2 dX2_takeRun_54
        exact hL5 _ _ hlp _ _ hP hD hS _ (lv_sub hl [1, 2, 3, 0] rfl)
  exact hL2 _ _ hlp _ _ hP hD hS _ (lv_sub hl [1, 2, 0] rfl)
abbrev rm_X2_takeRunFor : Room := { frames := 3, cells := 0, slots := 0, locals := 69 }
set_option maxHeartbeats 4000000 in
set_option maxRecDepth 100000 in
theorem k_X2_takeRunFor (l : Launch) (dC : Nat → ClassId) (dI : Nat → Nat → Nat) (A_h A_a : Nat) (K_a : ClassId) (c_a : Nat → Int32) (sz : Nat) (p1 : Int32) (r0 : Int32) (o_a : (Nat → Int32)) (hm : m_X2_takeRunFor c_a p1 = some (r0, o_a)) : Met l yX2_takeRunFor wsX2_takeRunFor rm_X2_takeRunFor (va_Pc [.ref A_h, .int p1] (fun U => U.heap.size = sz ∧ va_P (dC, dI) vwCl (wH A_h A_a K_a c_a) U.heap ∧ va_K (dC, dI) vwCl (tH K_a) U ∧ va_D (fun _ => True) (wH A_h A_a K_a c_a))) (va_Qi (fun (r : Int32) (_ : Unit) => r0 = r) (fun _ t => va_P (dC, dI) vwCl (wH A_h A_a K_a o_a) t.heap ∧ va_D (va_A (wH A_h A_a K_a c_a) sz) (wH A_h A_a K_a o_a)) (va_A (wH A_h A_a K_a c_a) sz)) 0 0 (va_A (wH A_h A_a K_a c_a) sz) := by
  refine Met.ofW (cc := cX2_takeRunFor) (maxL := 4) (ret := (some .int)) (by decide) rfl ?_
  intro p e s m args below meth c s₁ B hml hv
  obtain ⟨rfl, hsz, hP, hK, hD0⟩ := hv
  have hx := B.exec
  have hb := B.bytes
  have hr := B.returns
  have hts := atoms_spec (ws := wsX2_takeRunFor) B.pre
  have hown : s.vm.findClass RX2 = some m.cls := findClass_of_methodNamed B.named
  have hlocks := B.notSynchronized
  subst hsz
  have hD := hD0.self (sz := s.heap.size)
  generalize hAe : va_A (wH A_h A_a K_a c_a) s.heap.size = A at hD ⊢
  have hA : ∀ q : Nat, s.heap.size ≤ q → A q := fun q h => by rw [← hAe]; exact Or.inr h
  have hS : va_S A s.heap s.heap [] := va_S.rf
  have hP : va_P (dC, dI) vwCl (wH A_h A_a K_a c_a) s.heap := hP
  have hl := lv_entry ([.ref A_h, .int p1]) (n := 4) (Nat.le_of_ble_eq_true rfl)
  rw [lg_entry_eq]
  generalize (lg_sl ([.ref A_h, .int p1]) ++ List.replicate (4 - (lg_sl ([.ref A_h, .int p1])).length) Slot.unset).toArray = ls at hl ⊢
  have hl : lv_has ls 4 [(0, .ref A_h), (1, .int p1)] := hl
  refine w_name (fun Q hQ => ?_)
  unfold m_X2_takeRunFor at hm
  refine lv_iload_n hx hb dX2_takeRunFor_0 rfl (lv_at hl 1 rfl) ?_
  obtain ⟨x1, ex, hm⟩ := g_bind hm
  refine vp_callSi (W.runS (As := [.int p1]) (rest := []) ⟨hx, hb, hml, hown, hts⟩ (k_X2_orderFor l  p1 _ ex) (va_cwS 1 hts gX2_takeRunFor_X2_orderFor rfl rfl rfl (by decide +kernel) ⟨Nat.le_of_ble_eq_true rfl, Nat.le_of_ble_eq_true rfl⟩) ⟨w_bl0, fun U hU hW => ⟨rfl, trivial⟩⟩ rfl rfl hl.1 rfl (lv_room (Nat.le_of_ble_eq_true rfl)) dX2_takeRunFor_1 ⟨Nat.zero_le _, Nat.zero_le _⟩) (fun _ ey => ?_)
  subst ey
  refine lv_istore_n (lv' := [(2, .int x1), (0, .ref A_h), (1, .int p1)]) hx hb dX2_takeRunFor_4 rfl hl (by decide) rfl (fun ls hl => ?_)
  obtain ⟨rl5, hlp, hm⟩ := g_bind hm
  have hE5 : ∀ (f4 : (Nat → Int32)), Sum.inr f4 = rl5 → ∀ (H5e : Heap) (locs5e : List Loc), va_P (dC, dI) vwCl (wH A_h A_a K_a f4) H5e → va_D A (wH A_h A_a K_a f4) → va_S A s.heap H5e locs5e → ∀ (ls : Array Slot), lv_has ls 4 [] → W p l e (headSpec wsX2_takeRunFor rm_X2_takeRunFor).room s m (([.ref A_h, .int p1] : List Value).toArray) below meth c H5e locs5e 0 0 Q (F0 m 27 ls []) := by
    intro f4 hq H5e locs5e hP hD hS ls hl
    subst hq
    have hm := g_sk_r hm
    have hm := g_k1_s hm
    refine lv_iconst (v := 0) hx hb dX2_takeRunFor_27 (by decide) ?_
    cases hm
    subst hQ
    exact W.iret hx hb hr (fun t ht hW => ⟨⟨_, (), rfl, rfl, by rw [ht]; exact hP, hD⟩, hS.F ht⟩) hS.2.2 dX2_takeRunFor_28
  have hV5 : ∀ v, Sum.inl v = rl5 → v = (r0, o_a) := by
    intro v hq
    subst hq
    have hm := g_sk_l hm
    exact Option.some.inj hm
  have hL5 : ∀ (n : Nat) (y2 : Int32) (f3 : (Nat → Int32)), g_loop (fun q => m_X2_takeRunFor_L5 q.1 q.2) n (y2, f3) = some rl5 → ∀ (H5b : Heap) (locs5b : List Loc), va_P (dC, dI) vwCl (wH A_h A_a K_a f3) H5b → va_D A (wH A_h A_a K_a f3) → va_S A s.heap H5b locs5b → ∀ (ls : Array Slot), lv_has ls 4 [(0, .ref A_h), (2, .int y2)] → W p l e (headSpec wsX2_takeRunFor rm_X2_takeRunFor).room s m (([.ref A_h, .int p1] : List Value).toArray) below meth c H5b locs5b 0 0 Q (F0 m 5 ls []) := by
    intro n
    induction n with
    | zero =>
      intro y2 f3 hm
      exact g_loop_z hm
    | succ n ih =>
      intro y2 f3 hm H5b locs5b hP hD hS ls hl
      obtain ⟨q, hm, hy⟩ := g_loop_s hm
      have hm : m_X2_takeRunFor_L5 y2 f3 = some q := hm
      unfold m_X2_takeRunFor_L5 at hm
      refine lv_iload_n hx hb dX2_takeRunFor_5 rfl (lv_at hl 1 rfl) ?_
      refine lv_if_lt (tgt := 27) hx hb dX2_takeRunFor_6 (by decide) (fun c6 => ?_) (fun c6 => ?_)
      · have hm := g_t c6 hm
        cases hm
        exact hE5 _ hy _ _ hP hD hS _ (lv_sub hl [] rfl)
      · have hm := g_f c6 hm
        refine lv_aload_n hx hb dX2_takeRunFor_9 rfl (lv_at hl 0 rfl) ?_
        refine lv_iload_n hx hb dX2_takeRunFor_10 rfl (lv_at hl 1 rfl) ?_
        obtain ⟨⟨x7, f8⟩, ex, hm⟩ := g_bind hm
        have hm := g_k2_s hm
        have hPc := hP.sub (ws' := (wH A_h A_a K_a f3)) [0, 1] rfl
        have hDc := hD.sub (ws' := (wH A_h A_a K_a f3)) [0, 1] (by decide) rfl
        have hKc := hK.sub (tys' := (tH K_a)) [0] rfl
        have hFc := va_free (wc := (wH A_h A_a K_a f3)) hD hS hA [0, 1] rfl
        refine va_calli (va_runV (As := [.int y2]) (rest := []) ⟨hx, hb, hml, hown, hts⟩ (k_X2_takeRun l dC dI A_h A_a K_a f3 H5b.size y2 _ _ ex) (cwV 1 hts gX2_takeRunFor_X2_takeRun rfl rfl rfl (by decide +kernel) ⟨Nat.le_of_ble_eq_true rfl, Nat.le_of_ble_eq_true rfl⟩) ⟨w_blW, va_recv hKc hPc (ci := 1) (q0 := 0) rfl rfl, fun U hU hW => ⟨rfl, by rw [hU], by rw [hU]; exact hPc, va_K.moved hW.alike hKc, hDc.weaken (fun _ _ _ _ => trivial)⟩⟩ rfl rfl hl.1 rfl (lv_room (Nat.le_of_ble_eq_true rfl)) dX2_takeRunFor_11 ⟨Nat.zero_le _, Nat.zero_le _⟩) hS (fun q _ h => hFc q h) hFc (fun _ _ t H9 locs9 ht hvm hw hB hz1 hk1 hS => ?_)
        subst hw
        refine W.widen (k := 0) (n := 0) (Nat.le_refl 0) (Nat.le_refl 0) ?_
        obtain ⟨hP1, hD1⟩ := hB
        rw [ht] at hP1
        obtain ⟨hP, hD⟩ := va_join (wr := []) (w1 := (wH A_h A_a K_a f8)) hP hD [0, 1] [] rfl rfl (by decide) (by decide) hk1 hFc hP1 hD1
        have hP : va_P (dC, dI) vwCl (wH A_h A_a K_a f8) H9 := hP.sub [0, 1] rfl
        have hD : va_D A (wH A_h A_a K_a f8) := hD.sub [0, 1] (by decide) rfl
        refine lv_istore_n (lv' := [(3, .int x7), (0, .ref A_h), (2, .int y2)]) hx hb dX2_takeRunFor_14 rfl hl (by decide) rfl (fun ls hl => ?_)
        refine lv_iload_n hx hb dX2_takeRunFor_15 rfl (lv_at hl 0 rfl) ?_
        refine lv_if_eq (tgt := 21) hx hb dX2_takeRunFor_16 (by decide) (fun c10 => ?_) (fun c10 => ?_)
        · have hm := g_t c10 hm
          refine lv_iinc (v := (y2 + (-1 : Int32))) (lv' := [(2, .int (y2 + (-1 : Int32))), (3, .int x7), (0, .ref A_h)]) hx hb dX2_takeRunFor_21 hl (k := 2) rfl rfl (by decide) rfl (fun ls hl => ?_)
          refine lv_goto (tgt := 5) hx hb dX2_takeRunFor_24 (by decide) ?_
          cases hm
          exact ih _ _ hy _ _ hP hD hS _ (lv_sub hl [2, 0] rfl)
        · have hm := g_f c10 hm
          refine lv_iload_n hx hb dX2_takeRunFor_19 rfl (lv_at hl 0 rfl) ?_
          cases hm
          have hq := hV5 _ hy
          cases hq
          subst hQ
          exact W.iret hx hb hr (fun t ht hW => ⟨⟨_, (), rfl, rfl, by rw [ht]; exact hP, hD⟩, hS.F ht⟩) hS.2.2 dX2_takeRunFor_20
  exact hL5 _ _ _ hlp _ _ hP hD hS _ (lv_sub hl [1, 0] rfl)
abbrev rm_X2_takeRuns : Room := { frames := 4, cells := 0, slots := 0, locals := 92 }
set_option maxHeartbeats 4000000 in
set_option maxRecDepth 100000 in
theorem k_X2_takeRuns (l : Launch) (dC : Nat → ClassId) (dI : Nat → Nat → Nat) (A_h A_a : Nat) (K_a : ClassId) (c_a : Nat → Int32) (sz : Nat) (p1 : Int32) (p2 : Int32) (p3 : Int32) (r0 : Int32) (o_a : (Nat → Int32)) (hm : m_X2_takeRuns c_a p1 p2 p3 = some (r0, o_a)) : Met l yX2_takeRuns wsX2_takeRuns rm_X2_takeRuns (va_Pc [.ref A_h, .int p1, .int p2, .int p3] (fun U => U.heap.size = sz ∧ va_P (dC, dI) vwCl (wH A_h A_a K_a c_a) U.heap ∧ va_K (dC, dI) vwCl (tH K_a) U ∧ va_D (fun _ => True) (wH A_h A_a K_a c_a))) (va_Qi (fun (r : Int32) (_ : Unit) => r0 = r) (fun _ t => va_P (dC, dI) vwCl (wH A_h A_a K_a o_a) t.heap ∧ va_D (va_A (wH A_h A_a K_a c_a) sz) (wH A_h A_a K_a o_a)) (va_A (wH A_h A_a K_a c_a) sz)) 0 0 (va_A (wH A_h A_a K_a c_a) sz) := by
  refine Met.ofW (cc := cX2_takeRuns) (maxL := 7) (ret := (some .int)) (by decide) rfl ?_
  intro p e s m args below meth c s₁ B hml hv
  obtain ⟨rfl, hsz, hP, hK, hD0⟩ := hv
  have hx := B.exec
  have hb := B.bytes
  have hr := B.returns
  have hts := atoms_spec (ws := wsX2_takeRuns) B.pre
  have hown : s.vm.findClass RX2 = some m.cls := findClass_of_methodNamed B.named
  have hlocks := B.notSynchronized
  subst hsz
  have hD := hD0.self (sz := s.heap.size)
  generalize hAe : va_A (wH A_h A_a K_a c_a) s.heap.size = A at hD ⊢
  have hA : ∀ q : Nat, s.heap.size ≤ q → A q := fun q h => by rw [← hAe]; exact Or.inr h
  have hS : va_S A s.heap s.heap [] := va_S.rf
  have hP : va_P (dC, dI) vwCl (wH A_h A_a K_a c_a) s.heap := hP
  have hl := lv_entry ([.ref A_h, .int p1, .int p2, .int p3]) (n := 7) (Nat.le_of_ble_eq_true rfl)
  rw [lg_entry_eq]
  generalize (lg_sl ([.ref A_h, .int p1, .int p2, .int p3]) ++ List.replicate (7 - (lg_sl ([.ref A_h, .int p1, .int p2, .int p3])).length) Slot.unset).toArray = ls at hl ⊢
  have hl : lv_has ls 7 [(0, .ref A_h), (1, .int p1), (2, .int p2), (3, .int p3)] := hl
  refine w_name (fun Q hQ => ?_)
  unfold m_X2_takeRuns at hm
  refine lv_aload_n hx hb dX2_takeRuns_0 rfl (lv_at hl 0 rfl) ?_
  refine lv_iload_n hx hb dX2_takeRuns_1 rfl (lv_at hl 1 rfl) ?_
  obtain ⟨x1, ex, hm⟩ := g_bind hm
  refine vp_callSi (W.runV (As := [.int p1]) (rest := []) ⟨hx, hb, hml, hown, hts⟩ (k_X2_blocksOf l dC dI A_h A_a K_a c_a p1 _ ex) (cwV 1 hts gX2_takeRuns_X2_blocksOf rfl rfl rfl (by decide +kernel) ⟨Nat.le_of_ble_eq_true rfl, Nat.le_of_ble_eq_true rfl⟩) ⟨w_blR, va_recv hK hP (ci := 1) (q0 := 0) rfl rfl, fun U hU hW => ⟨rfl, by rw [hU]; exact hP.sub [0, 1] rfl, va_K.moved hW.alike (hK.sub [0] rfl)⟩⟩ rfl rfl hl.1 rfl (lv_room (Nat.le_of_ble_eq_true rfl)) dX2_takeRuns_2 ⟨Nat.zero_le _, Nat.zero_le _⟩) (fun _ ey => ?_)
  subst ey
  refine lv_istore (lv' := [(4, .int x1), (0, .ref A_h), (1, .int p1), (2, .int p2), (3, .int p3)]) hx hb dX2_takeRuns_5 hl (by decide) rfl (fun ls hl => ?_)
  refine lv_iload_n hx hb dX2_takeRuns_7 rfl (lv_at hl 3 rfl) ?_
  refine lv_istore (lv' := [(5, .int p2), (4, .int x1), (0, .ref A_h), (1, .int p1), (2, .int p2), (3, .int p3)]) hx hb dX2_takeRuns_8 hl (by decide) rfl (fun ls hl => ?_)
  obtain ⟨rl7, hlp, hm⟩ := g_bind hm
  have hE7 : ∀ (z5 : Int32) (f6 : (Nat → Int32)), Sum.inr (z5, f6) = rl7 → ∀ (H7e : Heap) (locs7e : List Loc), va_P (dC, dI) vwCl (wH A_h A_a K_a f6) H7e → va_D A (wH A_h A_a K_a f6) → va_S A s.heap H7e locs7e → ∀ (ls : Array Slot), lv_has ls 7 [(3, .int p3), (4, .int z5)] → W p l e (headSpec wsX2_takeRuns rm_X2_takeRuns).room s m (([.ref A_h, .int p1, .int p2, .int p3] : List Value).toArray) below meth c H7e locs7e 0 0 Q (F0 m 65 ls []) := by
    intro z5 f6 hq H7e locs7e hP hD hS ls hl
    subst hq
    have hm := g_sk_r hm
    have hm := g_k2_s hm
    refine lv_iload hx hb dX2_takeRuns_65 (lv_at hl 1 rfl) ?_
    refine lv_iload_n hx hb dX2_takeRuns_67 rfl (lv_at hl 0 rfl) ?_
    refine lv_icmp_ge (tgt := 76) hx hb dX2_takeRuns_68 (by decide) (fun c17 => ?_) (fun c17 => ?_)
    · have hm := g_t c17 hm
      refine lv_iconst (v := 0) hx hb dX2_takeRuns_76 (by decide) ?_
      cases hm
      subst hQ
      exact W.iret hx hb hr (fun t ht hW => ⟨⟨_, (), rfl, rfl, by rw [ht]; exact hP, hD⟩, hS.F ht⟩) hS.2.2 dX2_takeRuns_77
    · have hm := g_f c17 hm
      refine lv_bipush (v := -8) hx hb dX2_takeRuns_71 (by decide) ?_
      refine lv_goto (tgt := 77) hx hb dX2_takeRuns_73 (by decide) ?_
      cases hm
      subst hQ
      exact W.iret hx hb hr (fun t ht hW => ⟨⟨_, (), rfl, rfl, by rw [ht]; exact hP, hD⟩, hS.F ht⟩) hS.2.2 dX2_takeRuns_77
  have hV7 : ∀ v, Sum.inl v = rl7 → v = (r0, o_a) := by
    intro v hq
    subst hq
    have hm := g_sk_l hm
    exact Option.some.inj hm
  have hL7 : ∀ (n : Nat) (y2 : Int32) (y3 : Int32) (f4 : (Nat → Int32)), g_loop (fun q => m_X2_takeRuns_L10 p1 p3 q.1 q.2.1 q.2.2) n (y2, y3, f4) = some rl7 → ∀ (H7b : Heap) (locs7b : List Loc), va_P (dC, dI) vwCl (wH A_h A_a K_a f4) H7b → va_D A (wH A_h A_a K_a f4) → va_S A s.heap H7b locs7b → ∀ (ls : Array Slot), lv_has ls 7 [(0, .ref A_h), (1, .int p1), (3, .int p3), (4, .int y2), (5, .int y3)] → W p l e (headSpec wsX2_takeRuns rm_X2_takeRuns).room s m (([.ref A_h, .int p1, .int p2, .int p3] : List Value).toArray) below meth c H7b locs7b 0 0 Q (F0 m 10 ls []) := by
    intro n
    induction n with
    | zero =>
      intro y2 y3 f4 hm
      exact g_loop_z hm
    | succ n ih =>
      intro y2 y3 f4 hm H7b locs7b hP hD hS ls hl
      obtain ⟨q, hm, hy⟩ := g_loop_s hm
      have hm : m_X2_takeRuns_L10 p1 p3 y2 y3 f4 = some q := hm
      unfold m_X2_takeRuns_L10 at hm
      refine lv_iload hx hb dX2_takeRuns_10 (lv_at hl 4 rfl) ?_
      refine lv_iconst (v := 4) hx hb dX2_takeRuns_12 (by decide) ?_
      refine lv_icmp_ge (tgt := 65) hx hb dX2_takeRuns_13 (by decide) (fun c8 => ?_) (fun c8 => ?_)
      · have hm := g_t c8 hm
        cases hm
        exact hE7 _ _ hy _ _ hP hD hS _ (lv_sub hl [2, 3] rfl)
      · have hm := g_f c8 hm
        refine lv_iload hx hb dX2_takeRuns_16 (lv_at hl 3 rfl) ?_
        refine lv_iload_n hx hb dX2_takeRuns_18 rfl (lv_at hl 2 rfl) ?_
        refine lv_icmp_ge (tgt := 65) hx hb dX2_takeRuns_19 (by decide) (fun c9 => ?_) (fun c9 => ?_)
        · have hm := g_t c9 hm
          cases hm
          exact hE7 _ _ hy _ _ hP hD hS _ (lv_sub hl [2, 3] rfl)
        · have hm := g_f c9 hm
          refine lv_aload_n hx hb dX2_takeRuns_22 rfl (lv_at hl 0 rfl) ?_
          refine lv_iload_n hx hb dX2_takeRuns_23 rfl (lv_at hl 2 rfl) ?_
          refine lv_iload hx hb dX2_takeRuns_24 (lv_at hl 3 rfl) ?_
          refine lv_isub hx hb dX2_takeRuns_26 ?_
          obtain ⟨⟨x10, f11⟩, ex, hm⟩ := g_bind hm
          have hm := g_k2_s hm
          have hPc := hP.sub (ws' := (wH A_h A_a K_a f4)) [0, 1] rfl
          have hDc := hD.sub (ws' := (wH A_h A_a K_a f4)) [0, 1] (by decide) rfl
          have hKc := hK.sub (tys' := (tH K_a)) [0] rfl
          have hFc := va_free (wc := (wH A_h A_a K_a f4)) hD hS hA [0, 1] rfl
          refine va_calli (va_runV (As := [.int (p3 - y2)]) (rest := []) ⟨hx, hb, hml, hown, hts⟩ (k_X2_takeRunFor l dC dI A_h A_a K_a f4 H7b.size (p3 - y2) _ _ ex) (cwV 1 hts gX2_takeRuns_X2_takeRunFor rfl rfl rfl (by decide +kernel) ⟨Nat.le_of_ble_eq_true rfl, Nat.le_of_ble_eq_true rfl⟩) ⟨w_blW, va_recv hKc hPc (ci := 1) (q0 := 0) rfl rfl, fun U hU hW => ⟨rfl, by rw [hU], by rw [hU]; exact hPc, va_K.moved hW.alike hKc, hDc.weaken (fun _ _ _ _ => trivial)⟩⟩ rfl rfl hl.1 rfl (lv_room (Nat.le_of_ble_eq_true rfl)) dX2_takeRuns_27 ⟨Nat.zero_le _, Nat.zero_le _⟩) hS (fun q _ h => hFc q h) hFc (fun _ _ t H12 locs12 ht hvm hw hB hz1 hk1 hS => ?_)
          subst hw
          refine W.widen (k := 0) (n := 0) (Nat.le_refl 0) (Nat.le_refl 0) ?_
          obtain ⟨hP1, hD1⟩ := hB
          rw [ht] at hP1
          obtain ⟨hP, hD⟩ := va_join (wr := []) (w1 := (wH A_h A_a K_a f11)) hP hD [0, 1] [] rfl rfl (by decide) (by decide) hk1 hFc hP1 hD1
          have hP : va_P (dC, dI) vwCl (wH A_h A_a K_a f11) H12 := hP.sub [0, 1] rfl
          have hD : va_D A (wH A_h A_a K_a f11) := hD.sub [0, 1] (by decide) rfl
          refine lv_istore (lv' := [(6, .int x10), (0, .ref A_h), (1, .int p1), (3, .int p3), (4, .int y2), (5, .int y3)]) hx hb dX2_takeRuns_30 hl (by decide) rfl (fun ls hl => ?_)
          refine lv_iload hx hb dX2_takeRuns_32 (lv_at hl 0 rfl) ?_
          refine lv_if_ne (tgt := 40) hx hb dX2_takeRuns_34 (by decide) (fun c13 => ?_) (fun c13 => ?_)
          · have hm := g_f c13 hm
            refine lv_aload_n hx hb dX2_takeRuns_40 rfl (lv_at hl 1 rfl) ?_
            refine lv_iload_n hx hb dX2_takeRuns_41 rfl (lv_at hl 2 rfl) ?_
            refine lv_iload hx hb dX2_takeRuns_42 (lv_at hl 5 rfl) ?_
            refine lv_iload hx hb dX2_takeRuns_44 (lv_at hl 0 rfl) ?_
            obtain ⟨f14, ex, hm⟩ := g_bind hm
            have hPc := hP.sub (ws' := (wH A_h A_a K_a f11)) [0, 1] rfl
            have hDc := hD.sub (ws' := (wH A_h A_a K_a f11)) [0, 1] (by decide) rfl
            have hKc := hK.sub (tys' := (tH K_a)) [0] rfl
            have hFc := va_free (wc := (wH A_h A_a K_a f11)) hD hS hA [0, 1] rfl
            refine va_callv (va_runV (As := [.int p1, .int y3, .int x10]) (rest := []) ⟨hx, hb, hml, hown, hts⟩ (k_X2_putExtent l dC dI A_h A_a K_a f11 H12.size p1 y3 x10 _ ex) (cwV 3 hts gX2_takeRuns_X2_putExtent rfl rfl rfl (by decide +kernel) ⟨Nat.le_of_ble_eq_true rfl, Nat.le_of_ble_eq_true rfl⟩) ⟨w_blW, va_recv hKc hPc (ci := 1) (q0 := 0) rfl rfl, fun U hU hW => ⟨rfl, by rw [hU], by rw [hU]; exact hPc, va_K.moved hW.alike hKc, hDc.weaken (fun _ _ _ _ => trivial)⟩⟩ rfl rfl hl.1 rfl (lv_room (Nat.le_of_ble_eq_true rfl)) dX2_takeRuns_46 ⟨Nat.zero_le _, Nat.zero_le _⟩) hS (fun q _ h => hFc q h) hFc (fun _ t H15 locs15 ht hvm hw hB hz1 hk1 hS => ?_)
            refine W.widen (k := 0) (n := 0) (Nat.le_refl 0) (Nat.le_refl 0) ?_
            obtain ⟨hP1, hD1⟩ := hB
            rw [ht] at hP1
            obtain ⟨hP, hD⟩ := va_join (wr := []) (w1 := (wH A_h A_a K_a f14)) hP hD [0, 1] [] rfl rfl (by decide) (by decide) hk1 hFc hP1 hD1
            have hP : va_P (dC, dI) vwCl (wH A_h A_a K_a f14) H15 := hP.sub [0, 1] rfl
            have hD : va_D A (wH A_h A_a K_a f14) := hD.sub [0, 1] (by decide) rfl
            refine lv_iload hx hb dX2_takeRuns_49 (lv_at hl 4 rfl) ?_
            refine lv_iload hx hb dX2_takeRuns_51 (lv_at hl 0 rfl) ?_
            obtain ⟨x16, ex, hm⟩ := g_bind hm
            refine vp_callSi (W.runS (As := [.int x10]) (rest := [.int y2]) ⟨hx, hb, hml, hown, hts⟩ (k_X3_blocksOf l  x10 _ ex) (va_cwS 1 hts gX2_takeRuns_X3_blocksOf rfl rfl rfl (by decide +kernel) ⟨Nat.le_of_ble_eq_true rfl, Nat.le_of_ble_eq_true rfl⟩) ⟨w_bl0, fun U hU hW => ⟨rfl, trivial⟩⟩ rfl rfl hl.1 rfl (lv_room (Nat.le_of_ble_eq_true rfl)) dX2_takeRuns_53 ⟨Nat.zero_le _, Nat.zero_le _⟩) (fun _ ey => ?_)
            subst ey
            refine lv_iadd hx hb dX2_takeRuns_56 ?_
            refine lv_istore (lv' := [(4, .int (y2 + x16)), (6, .int x10), (0, .ref A_h), (1, .int p1), (3, .int p3), (5, .int y3)]) hx hb dX2_takeRuns_57 hl (by decide) rfl (fun ls hl => ?_)
            refine lv_iinc (v := (y3 + (1 : Int32))) (lv' := [(5, .int (y3 + (1 : Int32))), (4, .int (y2 + x16)), (6, .int x10), (0, .ref A_h), (1, .int p1), (3, .int p3)]) hx hb dX2_takeRuns_59 hl (k := 5) rfl rfl (by decide) rfl (fun ls hl => ?_)
            refine lv_goto (tgt := 10) hx hb dX2_takeRuns_62 (by decide) ?_
            cases hm
            exact ih _ _ _ hy _ _ hP hD hS _ (lv_sub hl [3, 4, 5, 1, 0] rfl)
          · have hm := g_t c13 hm
            refine lv_bipush (v := -8) hx hb dX2_takeRuns_37 (by decide) ?_
            cases hm
            have hq := hV7 _ hy
            cases hq
            subst hQ
            exact W.iret hx hb hr (fun t ht hW => ⟨⟨_, (), rfl, rfl, by rw [ht]; exact hP, hD⟩, hS.F ht⟩) hS.2.2 dX2_takeRuns_39
  exact hL7 _ _ _ _ hlp _ _ hP hD hS _ (lv_sub hl [2, 3, 5, 1, 0] rfl)
theorem hi_X2_grow_X2 : ∀ w ∈ wsX20, w ∈ wsX2_grow := by decide +kernel
theorem hk_X2_grow_9 : Cond.fieldLink RX2 9 "BuddyFiles$Home" "cells" "[I" ∈ wsX2_grow := by decide +kernel
abbrev rm_X2_grow : Room := { frames := 5, cells := 0, slots := 0, locals := 118 }
set_option maxHeartbeats 4000000 in
set_option maxRecDepth 100000 in
theorem k_X2_grow (l : Launch) (dC : Nat → ClassId) (dI : Nat → Nat → Nat) (A_h A_a : Nat) (K_a : ClassId) (c_a : Nat → Int32) (sz : Nat) (p1 : Int32) (p2 : Int32) (r0 : Int32) (o_a : (Nat → Int32)) (hm : m_X2_grow c_a p1 p2 = some (r0, o_a)) : Met l yX2_grow wsX2_grow rm_X2_grow (va_Pc [.ref A_h, .int p1, .int p2] (fun U => U.heap.size = sz ∧ va_P (dC, dI) vwCl (wH A_h A_a K_a c_a) U.heap ∧ va_K (dC, dI) vwCl (tH K_a) U ∧ va_D (fun _ => True) (wH A_h A_a K_a c_a))) (va_Qi (fun (r : Int32) (_ : Unit) => r0 = r) (fun _ t => va_P (dC, dI) vwCl (wH A_h A_a K_a o_a) t.heap ∧ va_D (va_A (wH A_h A_a K_a c_a) sz) (wH A_h A_a K_a o_a)) (va_A (wH A_h A_a K_a c_a) sz)) 0 0 (va_A (wH A_h A_a K_a c_a) sz) := by
  refine Met.ofW (cc := cX2_grow) (maxL := 7) (ret := (some .int)) (by decide) rfl ?_
  intro p e s m args below meth c s₁ B hml hv
  obtain ⟨rfl, hsz, hP, hK, hD0⟩ := hv
  have hx := B.exec
  have hb := B.bytes
  have hr := B.returns
  have hts := atoms_spec (ws := wsX2_grow) B.pre
  have hown : s.vm.findClass RX2 = some m.cls := findClass_of_methodNamed B.named
  have hlocks := B.notSynchronized
  subst hsz
  have hD := hD0.self (sz := s.heap.size)
  generalize hAe : va_A (wH A_h A_a K_a c_a) s.heap.size = A at hD ⊢
  have hA : ∀ q : Nat, s.heap.size ≤ q → A q := fun q h => by rw [← hAe]; exact Or.inr h
  have hS : va_S A s.heap s.heap [] := va_S.rf
  have hP : va_P (dC, dI) vwCl (wH A_h A_a K_a c_a) s.heap := hP
  have hl := lv_entry ([.ref A_h, .int p1, .int p2]) (n := 7) (Nat.le_of_ble_eq_true rfl)
  rw [lg_entry_eq]
  generalize (lg_sl ([.ref A_h, .int p1, .int p2]) ++ List.replicate (7 - (lg_sl ([.ref A_h, .int p1, .int p2])).length) Slot.unset).toArray = ls at hl ⊢
  have hl : lv_has ls 7 [(0, .ref A_h), (1, .int p1), (2, .int p2)] := hl
  refine w_name (fun Q hQ => ?_)
  unfold m_X2_grow at hm
  refine lv_aload_n hx hb dX2_grow_0 rfl (lv_at hl 0 rfl) ?_
  refine va_get (D := (dC, dI)) (ci := 1) (v := .ref A_a) (C := RX2) (T := TX2) (N := 1) hx hb hts hi_X2_grow_X2 hown hK hP 0 rfl rfl 0 (by decide) (hts (Cond.fieldLink RX2 9 "BuddyFiles$Home" "cells" "[I") hk_X2_grow_9) (fun _ h9 => h9) rfl dX2_grow_1 ?_
  refine lv_bipush (v := 45) hx hb dX2_grow_4 (by decide) ?_
  obtain ⟨x1, ex, hm⟩ := g_bind hm
  refine w_ald hx hb hK hP 1 0 rfl rfl ex dX2_grow_6 ?_
  refine lv_istore_n (lv' := [(3, .int x1), (0, .ref A_h), (1, .int p1), (2, .int p2)]) hx hb dX2_grow_7 rfl hl (by decide) rfl (fun ls hl => ?_)
  refine lv_aload_n hx hb dX2_grow_8 rfl (lv_at hl 1 rfl) ?_
  refine lv_iload_n hx hb dX2_grow_9 rfl (lv_at hl 2 rfl) ?_
  obtain ⟨x2, ex, hm⟩ := g_bind hm
  refine vp_callSi (W.runV (As := [.int p1]) (rest := []) ⟨hx, hb, hml, hown, hts⟩ (k_X2_runsOf l dC dI A_h A_a K_a c_a p1 _ ex) (cwV 1 hts gX2_grow_X2_runsOf rfl rfl rfl (by decide +kernel) ⟨Nat.le_of_ble_eq_true rfl, Nat.le_of_ble_eq_true rfl⟩) ⟨w_blR, va_recv hK hP (ci := 1) (q0 := 0) rfl rfl, fun U hU hW => ⟨rfl, by rw [hU]; exact hP.sub [0, 1] rfl, va_K.moved hW.alike (hK.sub [0] rfl)⟩⟩ rfl rfl hl.1 rfl (lv_room (Nat.le_of_ble_eq_true rfl)) dX2_grow_10 ⟨Nat.zero_le _, Nat.zero_le _⟩) (fun _ ey => ?_)
  subst ey
  refine lv_istore (lv' := [(4, .int x2), (3, .int x1), (0, .ref A_h), (1, .int p1), (2, .int p2)]) hx hb dX2_grow_13 hl (by decide) rfl (fun ls hl => ?_)
  refine lv_aload_n hx hb dX2_grow_15 rfl (lv_at hl 2 rfl) ?_
  refine lv_iload_n hx hb dX2_grow_16 rfl (lv_at hl 3 rfl) ?_
  refine lv_iload hx hb dX2_grow_17 (lv_at hl 0 rfl) ?_
  refine lv_iload_n hx hb dX2_grow_19 rfl (lv_at hl 4 rfl) ?_
  obtain ⟨x3, ex, hm⟩ := g_bind hm
  refine vp_callSi (W.runS (As := [.int p2]) (rest := [.int x2, .int p1, .ref A_h]) ⟨hx, hb, hml, hown, hts⟩ (k_X2_needOf l  p2 _ ex) (va_cwS 1 hts gX2_grow_X2_needOf rfl rfl rfl (by decide +kernel) ⟨Nat.le_of_ble_eq_true rfl, Nat.le_of_ble_eq_true rfl⟩) ⟨w_bl0, fun U hU hW => ⟨rfl, trivial⟩⟩ rfl rfl hl.1 rfl (lv_room (Nat.le_of_ble_eq_true rfl)) dX2_grow_20 ⟨Nat.zero_le _, Nat.zero_le _⟩) (fun _ ey => ?_)
  subst ey
  obtain ⟨⟨x4, f5⟩, ex, hm⟩ := g_bind hm
  have hm := g_k2_s hm
  have hPc := hP.sub (ws' := (wH A_h A_a K_a c_a)) [0, 1] rfl
  have hDc := hD.sub (ws' := (wH A_h A_a K_a c_a)) [0, 1] (by decide) rfl
  have hKc := hK.sub (tys' := (tH K_a)) [0] rfl
  have hFc := va_free (wc := (wH A_h A_a K_a c_a)) hD hS hA [0, 1] rfl
  refine va_calli (va_runV (As := [.int p1, .int x2, .int x3]) (rest := []) ⟨hx, hb, hml, hown, hts⟩ (k_X2_takeRuns l dC dI A_h A_a K_a c_a s.heap.size p1 x2 x3 _ _ ex) (cwV 3 hts gX2_grow_X2_takeRuns rfl rfl rfl (by decide +kernel) ⟨Nat.le_of_ble_eq_true rfl, Nat.le_of_ble_eq_true rfl⟩) ⟨w_blW, va_recv hKc hPc (ci := 1) (q0 := 0) rfl rfl, fun U hU hW => ⟨rfl, by rw [hU], by rw [hU]; exact hPc, va_K.moved hW.alike hKc, hDc.weaken (fun _ _ _ _ => trivial)⟩⟩ rfl rfl hl.1 rfl (lv_room (Nat.le_of_ble_eq_true rfl)) dX2_grow_23 ⟨Nat.zero_le _, Nat.zero_le _⟩) hS (fun q _ h => hFc q h) hFc (fun _ _ t H6 locs6 ht hvm hw hB hz1 hk1 hS => ?_)
  subst hw
  refine W.widen (k := 0) (n := 0) (Nat.le_refl 0) (Nat.le_refl 0) ?_
  obtain ⟨hP1, hD1⟩ := hB
  rw [ht] at hP1
  obtain ⟨hP, hD⟩ := va_join (wr := []) (w1 := (wH A_h A_a K_a f5)) hP hD [0, 1] [] rfl rfl (by decide) (by decide) hk1 hFc hP1 hD1
  have hP : va_P (dC, dI) vwCl (wH A_h A_a K_a f5) H6 := hP.sub [0, 1] rfl
  have hD : va_D A (wH A_h A_a K_a f5) := hD.sub [0, 1] (by decide) rfl
  refine lv_istore (lv' := [(5, .int x4), (4, .int x2), (3, .int x1), (0, .ref A_h), (1, .int p1), (2, .int p2)]) hx hb dX2_grow_26 hl (by decide) rfl (fun ls hl => ?_)
  refine lv_iload hx hb dX2_grow_28 (lv_at hl 0 rfl) ?_
  obtain ⟨rj8, hreg, hm⟩ := g_bind hm
  have hJ8 : ∀ (v7 : Int32), v7 = rj8 → ∀ (H8 : Heap) (locs8 : List Loc), va_P (dC, dI) vwCl (wH A_h A_a K_a f5) H8 → va_D A (wH A_h A_a K_a f5) → va_S A s.heap H8 locs8 → ∀ (ls : Array Slot), lv_has ls 7 [(0, .ref A_h), (1, .int p1), (2, .int p2), (3, .int x1), (4, .int x2), (5, .int v7)] → W p l e (headSpec wsX2_grow rm_X2_grow).room s m (([.ref A_h, .int p1, .int p2] : List Value).toArray) below meth c H8 locs8 0 0 Q (F0 m 58 ls []) := by
    intro v7 hq H8 locs8 hP hD hS ls hl
    subst hq
    have hm := g_k1_s hm
    refine lv_iload hx hb dX2_grow_58 (lv_at hl 5 rfl) ?_
    refine lv_if_ne (tgt := 71) hx hb dX2_grow_60 (by decide) (fun c9 => ?_) (fun c9 => ?_)
    · have hm := g_f c9 hm
      refine lv_aload_n hx hb dX2_grow_71 rfl (lv_at hl 0 rfl) ?_
      refine va_get (D := (dC, dI)) (ci := 1) (v := .ref A_a) (C := RX2) (T := TX2) (N := 1) hx hb hts hi_X2_grow_X2 hown hK hP 0 rfl rfl 0 (by decide) (hts (Cond.fieldLink RX2 9 "BuddyFiles$Home" "cells" "[I") hk_X2_grow_9) (fun _ h9 => h9) rfl dX2_grow_72 ?_
      refine lv_bipush (v := 45) hx hb dX2_grow_75 (by decide) ?_
      refine lv_iload_n hx hb dX2_grow_77 rfl (lv_at hl 3 rfl) ?_
      obtain ⟨f10, ex, hm⟩ := g_bind hm
      refine w_ast hx hb hK hP hD hS 1 0 rfl rfl ex dX2_grow_78 (fun H11 locs11 hP hD hS => ?_)
      have hP : va_P (dC, dI) vwCl (wH A_h A_a K_a f10) H11 := hP
      have hD : va_D A (wH A_h A_a K_a f10) := hD
      refine lv_iload hx hb dX2_grow_79 (lv_at hl 4 rfl) ?_
      refine lv_istore (lv' := [(6, .int x2), (0, .ref A_h), (1, .int p1), (2, .int p2), (3, .int x1), (4, .int x2), (5, .int v7)]) hx hb dX2_grow_81 hl (by decide) rfl (fun ls hl => ?_)
      obtain ⟨rl15, hlp, hm⟩ := g_bind hm
      have hE15 : ∀ (f14 : (Nat → Int32)), f14 = rl15 → ∀ (H15e : Heap) (locs15e : List Loc), va_P (dC, dI) vwCl (wH A_h A_a K_a f14) H15e → va_D A (wH A_h A_a K_a f14) → va_S A s.heap H15e locs15e → ∀ (ls : Array Slot), lv_has ls 7 [(5, .int v7)] → W p l e (headSpec wsX2_grow rm_X2_grow).room s m (([.ref A_h, .int p1, .int p2] : List Value).toArray) below meth c H15e locs15e 0 0 Q (F0 m 103 ls []) := by
        intro f14 hq H15e locs15e hP hD hS ls hl
        subst hq
        have hm := g_k1_s hm
        refine lv_iload hx hb dX2_grow_103 (lv_at hl 0 rfl) ?_
        cases hm
        subst hQ
        exact W.iret hx hb hr (fun t ht hW => ⟨⟨_, (), rfl, rfl, by rw [ht]; exact hP, hD⟩, hS.F ht⟩) hS.2.2 dX2_grow_105
      have hL15 : ∀ (n : Nat) (y12 : Int32) (f13 : (Nat → Int32)), g_loop (fun q => m_X2_grow_L83 p1 q.1 q.2) n (y12, f13) = some rl15 → ∀ (H15b : Heap) (locs15b : List Loc), va_P (dC, dI) vwCl (wH A_h A_a K_a f13) H15b → va_D A (wH A_h A_a K_a f13) → va_S A s.heap H15b locs15b → ∀ (ls : Array Slot), lv_has ls 7 [(0, .ref A_h), (1, .int p1), (5, .int v7), (6, .int y12)] → W p l e (headSpec wsX2_grow rm_X2_grow).room s m (([.ref A_h, .int p1, .int p2] : List Value).toArray) below meth c H15b locs15b 0 0 Q (F0 m 83 ls []) := by
        intro n
        induction n with
        | zero =>
          intro y12 f13 hm
          exact g_loop_z hm
        | succ n ih =>
          intro y12 f13 hm H15b locs15b hP hD hS ls hl
          obtain ⟨q, hm, hy⟩ := g_loop_s hm
          have hm : m_X2_grow_L83 p1 y12 f13 = some q := hm
          unfold m_X2_grow_L83 at hm
          refine lv_iload hx hb dX2_grow_83 (lv_at hl 3 rfl) ?_
          refine lv_iconst (v := 4) hx hb dX2_grow_85 (by decide) ?_
          refine lv_icmp_ge (tgt := 103) hx hb dX2_grow_86 (by decide) (fun c16 => ?_) (fun c16 => ?_)
          · have hm := g_t c16 hm
            cases hm
            exact hE15 _ hy _ _ hP hD hS _ (lv_sub hl [2] rfl)
          · have hm := g_f c16 hm
            refine lv_aload_n hx hb dX2_grow_89 rfl (lv_at hl 0 rfl) ?_
            refine lv_iload_n hx hb dX2_grow_90 rfl (lv_at hl 1 rfl) ?_
            refine lv_iload hx hb dX2_grow_91 (lv_at hl 3 rfl) ?_
            refine lv_iconst (v := 0) hx hb dX2_grow_93 (by decide) ?_
            obtain ⟨f17, ex, hm⟩ := g_bind hm
            have hPc := hP.sub (ws' := (wH A_h A_a K_a f13)) [0, 1] rfl
            have hDc := hD.sub (ws' := (wH A_h A_a K_a f13)) [0, 1] (by decide) rfl
            have hKc := hK.sub (tys' := (tH K_a)) [0] rfl
            have hFc := va_free (wc := (wH A_h A_a K_a f13)) hD hS hA [0, 1] rfl
            refine va_callv (va_runV (As := [.int p1, .int y12, .int (0 : Int32)]) (rest := []) ⟨hx, hb, hml, hown, hts⟩ (k_X2_putExtent l dC dI A_h A_a K_a f13 H15b.size p1 y12 (0 : Int32) _ ex) (cwV 3 hts gX2_grow_X2_putExtent rfl rfl rfl (by decide +kernel) ⟨Nat.le_of_ble_eq_true rfl, Nat.le_of_ble_eq_true rfl⟩) ⟨w_blW, va_recv hKc hPc (ci := 1) (q0 := 0) rfl rfl, fun U hU hW => ⟨rfl, by rw [hU], by rw [hU]; exact hPc, va_K.moved hW.alike hKc, hDc.weaken (fun _ _ _ _ => trivial)⟩⟩ rfl rfl hl.1 rfl (lv_room (Nat.le_of_ble_eq_true rfl)) dX2_grow_94 ⟨Nat.zero_le _, Nat.zero_le _⟩) hS (fun q _ h => hFc q h) hFc (fun _ t H18 locs18 ht hvm hw hB hz1 hk1 hS => ?_)
            refine W.widen (k := 0) (n := 0) (Nat.le_refl 0) (Nat.le_refl 0) ?_
            obtain ⟨hP1, hD1⟩ := hB
            rw [ht] at hP1
            obtain ⟨hP, hD⟩ := va_join (wr := []) (w1 := (wH A_h A_a K_a f17)) hP hD [0, 1] [] rfl rfl (by decide) (by decide) hk1 hFc hP1 hD1
            have hP : va_P (dC, dI) vwCl (wH A_h A_a K_a f17) H18 := hP.sub [0, 1] rfl
            have hD : va_D A (wH A_h A_a K_a f17) := hD.sub [0, 1] (by decide) rfl
            refine lv_iinc (v := (y12 + (1 : Int32))) (lv' := [(6, .int (y12 + (1 : Int32))), (0, .ref A_h), (1, .int p1), (5, .int v7)]) hx hb dX2_grow_97 hl (k := 3) rfl rfl (by decide) rfl (fun ls hl => ?_)
            refine lv_goto (tgt := 83) hx hb dX2_grow_100 (by decide) ?_
            cases hm
            exact ih _ _ hy _ _ hP hD hS _ (lv_sub hl [1, 2, 3, 0] rfl)
      exact hL15 _ _ _ hlp _ _ hP hD hS _ (lv_sub hl [1, 2, 6, 0] rfl)
    · have hm := g_t c9 hm
      refine lv_aload_n hx hb dX2_grow_63 rfl (lv_at hl 0 rfl) ?_
      refine lv_iload_n hx hb dX2_grow_64 rfl (lv_at hl 1 rfl) ?_
      refine lv_iload_n hx hb dX2_grow_65 rfl (lv_at hl 2 rfl) ?_
      obtain ⟨f19, ex, hm⟩ := g_bind hm
      have hPc := hP.sub (ws' := (wH A_h A_a K_a f5)) [0, 1] rfl
      have hDc := hD.sub (ws' := (wH A_h A_a K_a f5)) [0, 1] (by decide) rfl
      have hKc := hK.sub (tys' := (tH K_a)) [0] rfl
      have hFc := va_free (wc := (wH A_h A_a K_a f5)) hD hS hA [0, 1] rfl
      refine va_callv (va_runV (As := [.int p1, .int p2]) (rest := []) ⟨hx, hb, hml, hown, hts⟩ (k_X2_putLength l dC dI A_h A_a K_a f5 H8.size p1 p2 _ ex) (cwV 2 hts gX2_grow_X2_putLength rfl rfl rfl (by decide +kernel) ⟨Nat.le_of_ble_eq_true rfl, Nat.le_of_ble_eq_true rfl⟩) ⟨w_blW, va_recv hKc hPc (ci := 1) (q0 := 0) rfl rfl, fun U hU hW => ⟨rfl, by rw [hU], by rw [hU]; exact hPc, va_K.moved hW.alike hKc, hDc.weaken (fun _ _ _ _ => trivial)⟩⟩ rfl rfl hl.1 rfl (lv_room (Nat.le_of_ble_eq_true rfl)) dX2_grow_66 ⟨Nat.zero_le _, Nat.zero_le _⟩) hS (fun q _ h => hFc q h) hFc (fun _ t H20 locs20 ht hvm hw hB hz1 hk1 hS => ?_)
      refine W.widen (k := 0) (n := 0) (Nat.le_refl 0) (Nat.le_refl 0) ?_
      obtain ⟨hP1, hD1⟩ := hB
      rw [ht] at hP1
      obtain ⟨hP, hD⟩ := va_join (wr := []) (w1 := (wH A_h A_a K_a f19)) hP hD [0, 1] [] rfl rfl (by decide) (by decide) hk1 hFc hP1 hD1
      have hP : va_P (dC, dI) vwCl (wH A_h A_a K_a f19) H20 := hP.sub [0, 1] rfl
      have hD : va_D A (wH A_h A_a K_a f19) := hD.sub [0, 1] (by decide) rfl
      refine lv_iconst (v := 0) hx hb dX2_grow_69 (by decide) ?_
      cases hm
      subst hQ
      exact W.iret hx hb hr (fun t ht hW => ⟨⟨_, (), rfl, rfl, by rw [ht]; exact hP, hD⟩, hS.F ht⟩) hS.2.2 dX2_grow_70
  have hm := hreg
  refine lv_if_ne (tgt := 58) hx hb dX2_grow_30 (by decide) (fun c21 => ?_) (fun c21 => ?_)
  · have hm := g_f c21 hm
    exact hJ8 _ (Option.some.inj hm) _ _ hP hD hS _ (lv_sub hl [3, 4, 5, 2, 1, 0] rfl)
  · have hm := g_t c21 hm
    refine lv_aload_n hx hb dX2_grow_33 rfl (lv_at hl 3 rfl) ?_
    refine lv_aload_n hx hb dX2_grow_34 rfl (lv_at hl 3 rfl) ?_
    refine lv_iload_n hx hb dX2_grow_35 rfl (lv_at hl 4 rfl) ?_
    obtain ⟨x22, ex, hm⟩ := g_bind hm
    refine vp_callSi (W.runV (As := [.int p1]) (rest := [.ref A_h]) ⟨hx, hb, hml, hown, hts⟩ (k_X2_ownerOf l dC dI A_h A_a K_a f5 p1 _ ex) (cwV 1 hts gX2_grow_X2_ownerOf rfl rfl rfl (by decide +kernel) ⟨Nat.le_of_ble_eq_true rfl, Nat.le_of_ble_eq_true rfl⟩) ⟨w_blR, va_recv hK hP (ci := 1) (q0 := 0) rfl rfl, fun U hU hW => ⟨rfl, by rw [hU]; exact hP.sub [0, 1] rfl, va_K.moved hW.alike (hK.sub [0] rfl)⟩⟩ rfl rfl hl.1 rfl (lv_room (Nat.le_of_ble_eq_true rfl)) dX2_grow_36 ⟨Nat.zero_le _, Nat.zero_le _⟩) (fun _ ey => ?_)
    subst ey
    obtain ⟨x23, ex, hm⟩ := g_bind hm
    refine vp_callSi (W.runV (As := [.int x22]) (rest := []) ⟨hx, hb, hml, hown, hts⟩ (k_X2_usageOf l dC dI A_h A_a K_a f5 x22 _ ex) (cwV 1 hts gX2_grow_X2_usageOf rfl rfl rfl (by decide +kernel) ⟨Nat.le_of_ble_eq_true rfl, Nat.le_of_ble_eq_true rfl⟩) ⟨w_blR, va_recv hK hP (ci := 1) (q0 := 0) rfl rfl, fun U hU hW => ⟨rfl, by rw [hU]; exact hP.sub [0, 1] rfl, va_K.moved hW.alike (hK.sub [0] rfl)⟩⟩ rfl rfl hl.1 rfl (lv_room (Nat.le_of_ble_eq_true rfl)) dX2_grow_39 ⟨Nat.zero_le _, Nat.zero_le _⟩) (fun _ ey => ?_)
    subst ey
    refine lv_aload_n hx hb dX2_grow_42 rfl (lv_at hl 3 rfl) ?_
    refine lv_aload_n hx hb dX2_grow_43 rfl (lv_at hl 3 rfl) ?_
    refine lv_iload_n hx hb dX2_grow_44 rfl (lv_at hl 4 rfl) ?_
    obtain ⟨x24, ex, hm⟩ := g_bind hm
    refine vp_callSi (W.runV (As := [.int p1]) (rest := [.ref A_h, .int x23]) ⟨hx, hb, hml, hown, hts⟩ (k_X2_ownerOf l dC dI A_h A_a K_a f5 p1 _ ex) (cwV 1 hts gX2_grow_X2_ownerOf rfl rfl rfl (by decide +kernel) ⟨Nat.le_of_ble_eq_true rfl, Nat.le_of_ble_eq_true rfl⟩) ⟨w_blR, va_recv hK hP (ci := 1) (q0 := 0) rfl rfl, fun U hU hW => ⟨rfl, by rw [hU]; exact hP.sub [0, 1] rfl, va_K.moved hW.alike (hK.sub [0] rfl)⟩⟩ rfl rfl hl.1 rfl (lv_room (Nat.le_of_ble_eq_true rfl)) dX2_grow_45 ⟨Nat.zero_le _, Nat.zero_le _⟩) (fun _ ey => ?_)
    subst ey
    obtain ⟨x25, ex, hm⟩ := g_bind hm
    refine vp_callSi (W.runV (As := [.int x24]) (rest := [.int x23]) ⟨hx, hb, hml, hown, hts⟩ (k_X2_quotaOf l dC dI A_h A_a K_a f5 x24 _ ex) (cwV 1 hts gX2_grow_X2_quotaOf rfl rfl rfl (by decide +kernel) ⟨Nat.le_of_ble_eq_true rfl, Nat.le_of_ble_eq_true rfl⟩) ⟨w_blR, va_recv hK hP (ci := 1) (q0 := 0) rfl rfl, fun U hU hW => ⟨rfl, by rw [hU]; exact hP.sub [0, 1] rfl, va_K.moved hW.alike (hK.sub [0] rfl)⟩⟩ rfl rfl hl.1 rfl (lv_room (Nat.le_of_ble_eq_true rfl)) dX2_grow_48 ⟨Nat.zero_le _, Nat.zero_le _⟩) (fun _ ey => ?_)
    subst ey
    refine lv_icmp_le (tgt := 58) hx hb dX2_grow_51 (by decide) (fun c26 => ?_) (fun c26 => ?_)
    · have hm := g_t c26 hm
      exact hJ8 _ (Option.some.inj hm) _ _ hP hD hS _ (lv_sub hl [3, 4, 5, 2, 1, 0] rfl)
    · have hm := g_f c26 hm
      refine lv_bipush (v := -9) hx hb dX2_grow_54 (by decide) ?_
      refine lv_istore (lv' := [(5, .int (-9 : Int32)), (4, .int x2), (3, .int x1), (0, .ref A_h), (1, .int p1), (2, .int p2)]) hx hb dX2_grow_56 hl (by decide) rfl (fun ls hl => ?_)
      exact hJ8 _ (Option.some.inj hm) _ _ hP hD hS _ (lv_sub hl [3, 4, 5, 2, 1, 0] rfl)
