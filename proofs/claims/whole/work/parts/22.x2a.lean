theorem hi_X2_nameOf_X2 : ∀ w ∈ wsX20, w ∈ wsX2_nameOf := by decide +kernel
theorem hk_X2_nameOf_9 : Cond.fieldLink RX2 9 "BuddyFiles$Home" "cells" "[I" ∈ wsX2_nameOf := by decide +kernel
abbrev rm_X2_nameOf : Room := { frames := 0, cells := 0, slots := 0, locals := 0 }
set_option maxHeartbeats 4000000 in
set_option maxRecDepth 100000 in
theorem k_X2_nameOf (l : Launch) (dC : Nat → ClassId) (dI : Nat → Nat → Nat) (A_h A_a : Nat) (K_a : ClassId) (c_a : Nat → Int32) (p1 : Int32) (r0 : Int32) (hm : m_X2_nameOf c_a p1 = some r0) : Met l yX2_nameOf wsX2_nameOf rm_X2_nameOf (va_Pc [.ref A_h, .int p1] (fun U => va_P (dC, dI) vwCl (wH A_h A_a K_a c_a) U.heap ∧ va_K (dC, dI) vwCl (tH K_a) U)) (vp_Si (fun r => r0 = r)) 0 0 (fun _ => False) := by
  refine Met.ofW (cc := cX2_nameOf) (maxL := 2) (ret := (some .int)) (by decide) rfl ?_
  intro p e s m args below meth c s₁ B hml hv
  obtain ⟨rfl, hP, hK⟩ := hv
  have hx := B.exec
  have hb := B.bytes
  have hr := B.returns
  have hts := atoms_spec (ws := wsX2_nameOf) B.pre
  have hown : s.vm.findClass RX2 = some m.cls := findClass_of_methodNamed B.named
  have hlocks := B.notSynchronized
  have hl := lv_entry ([.ref A_h, .int p1]) (n := 2) (Nat.le_of_ble_eq_true rfl)
  rw [lg_entry_eq]
  generalize (lg_sl ([.ref A_h, .int p1]) ++ List.replicate (2 - (lg_sl ([.ref A_h, .int p1])).length) Slot.unset).toArray = ls at hl ⊢
  have hl : lv_has ls 2 [(0, .ref A_h), (1, .int p1)] := hl
  refine w_name (fun Q hQ => ?_)
  unfold m_X2_nameOf at hm
  refine lv_aload_n hx hb dX2_nameOf_0 rfl (lv_at hl 0 rfl) ?_
  refine va_get (D := (dC, dI)) (ci := 1) (v := .ref A_a) (C := RX2) (T := TX2) (N := 1) hx hb hts hi_X2_nameOf_X2 hown hK hP 0 rfl rfl 0 (by decide) (hts (Cond.fieldLink RX2 9 "BuddyFiles$Home" "cells" "[I") hk_X2_nameOf_9) (fun _ h9 => h9) rfl dX2_nameOf_1 ?_
  refine lv_bipush (v := 7) hx hb dX2_nameOf_4 (by decide) ?_
  refine lv_iload_n hx hb dX2_nameOf_6 rfl (lv_at hl 1 rfl) ?_
  refine lv_imul hx hb dX2_nameOf_7 ?_
  obtain ⟨x1, ex, hm⟩ := g_bind hm
  refine w_ald hx hb hK hP 1 0 rfl rfl ex dX2_nameOf_8 ?_
  cases hm
  subst hQ
  exact W.iret hx hb hr (fun t ht hW => ⟨_, rfl, rfl, ht⟩) (fun _ h => nomatch h) dX2_nameOf_9
theorem hi_X2_ownerOf_X2 : ∀ w ∈ wsX20, w ∈ wsX2_ownerOf := by decide +kernel
theorem hk_X2_ownerOf_9 : Cond.fieldLink RX2 9 "BuddyFiles$Home" "cells" "[I" ∈ wsX2_ownerOf := by decide +kernel
abbrev rm_X2_ownerOf : Room := { frames := 0, cells := 0, slots := 0, locals := 0 }
set_option maxHeartbeats 4000000 in
set_option maxRecDepth 100000 in
theorem k_X2_ownerOf (l : Launch) (dC : Nat → ClassId) (dI : Nat → Nat → Nat) (A_h A_a : Nat) (K_a : ClassId) (c_a : Nat → Int32) (p1 : Int32) (r0 : Int32) (hm : m_X2_ownerOf c_a p1 = some r0) : Met l yX2_ownerOf wsX2_ownerOf rm_X2_ownerOf (va_Pc [.ref A_h, .int p1] (fun U => va_P (dC, dI) vwCl (wH A_h A_a K_a c_a) U.heap ∧ va_K (dC, dI) vwCl (tH K_a) U)) (vp_Si (fun r => r0 = r)) 0 0 (fun _ => False) := by
  refine Met.ofW (cc := cX2_ownerOf) (maxL := 2) (ret := (some .int)) (by decide) rfl ?_
  intro p e s m args below meth c s₁ B hml hv
  obtain ⟨rfl, hP, hK⟩ := hv
  have hx := B.exec
  have hb := B.bytes
  have hr := B.returns
  have hts := atoms_spec (ws := wsX2_ownerOf) B.pre
  have hown : s.vm.findClass RX2 = some m.cls := findClass_of_methodNamed B.named
  have hlocks := B.notSynchronized
  have hl := lv_entry ([.ref A_h, .int p1]) (n := 2) (Nat.le_of_ble_eq_true rfl)
  rw [lg_entry_eq]
  generalize (lg_sl ([.ref A_h, .int p1]) ++ List.replicate (2 - (lg_sl ([.ref A_h, .int p1])).length) Slot.unset).toArray = ls at hl ⊢
  have hl : lv_has ls 2 [(0, .ref A_h), (1, .int p1)] := hl
  refine w_name (fun Q hQ => ?_)
  unfold m_X2_ownerOf at hm
  refine lv_aload_n hx hb dX2_ownerOf_0 rfl (lv_at hl 0 rfl) ?_
  refine va_get (D := (dC, dI)) (ci := 1) (v := .ref A_a) (C := RX2) (T := TX2) (N := 1) hx hb hts hi_X2_ownerOf_X2 hown hK hP 0 rfl rfl 0 (by decide) (hts (Cond.fieldLink RX2 9 "BuddyFiles$Home" "cells" "[I") hk_X2_ownerOf_9) (fun _ h9 => h9) rfl dX2_ownerOf_1 ?_
  refine lv_bipush (v := 7) hx hb dX2_ownerOf_4 (by decide) ?_
  refine lv_iload_n hx hb dX2_ownerOf_6 rfl (lv_at hl 1 rfl) ?_
  refine lv_imul hx hb dX2_ownerOf_7 ?_
  refine lv_iconst (v := 1) hx hb dX2_ownerOf_8 (by decide) ?_
  refine lv_iadd hx hb dX2_ownerOf_9 ?_
  obtain ⟨x1, ex, hm⟩ := g_bind hm
  refine w_ald hx hb hK hP 1 0 rfl rfl ex dX2_ownerOf_10 ?_
  cases hm
  subst hQ
  exact W.iret hx hb hr (fun t ht hW => ⟨_, rfl, rfl, ht⟩) (fun _ h => nomatch h) dX2_ownerOf_11
theorem hi_X2_lengthOf_X2 : ∀ w ∈ wsX20, w ∈ wsX2_lengthOf := by decide +kernel
theorem hk_X2_lengthOf_9 : Cond.fieldLink RX2 9 "BuddyFiles$Home" "cells" "[I" ∈ wsX2_lengthOf := by decide +kernel
abbrev rm_X2_lengthOf : Room := { frames := 0, cells := 0, slots := 0, locals := 0 }
set_option maxHeartbeats 4000000 in
set_option maxRecDepth 100000 in
theorem k_X2_lengthOf (l : Launch) (dC : Nat → ClassId) (dI : Nat → Nat → Nat) (A_h A_a : Nat) (K_a : ClassId) (c_a : Nat → Int32) (p1 : Int32) (r0 : Int32) (hm : m_X2_lengthOf c_a p1 = some r0) : Met l yX2_lengthOf wsX2_lengthOf rm_X2_lengthOf (va_Pc [.ref A_h, .int p1] (fun U => va_P (dC, dI) vwCl (wH A_h A_a K_a c_a) U.heap ∧ va_K (dC, dI) vwCl (tH K_a) U)) (vp_Si (fun r => r0 = r)) 0 0 (fun _ => False) := by
  refine Met.ofW (cc := cX2_lengthOf) (maxL := 2) (ret := (some .int)) (by decide) rfl ?_
  intro p e s m args below meth c s₁ B hml hv
  obtain ⟨rfl, hP, hK⟩ := hv
  have hx := B.exec
  have hb := B.bytes
  have hr := B.returns
  have hts := atoms_spec (ws := wsX2_lengthOf) B.pre
  have hown : s.vm.findClass RX2 = some m.cls := findClass_of_methodNamed B.named
  have hlocks := B.notSynchronized
  have hl := lv_entry ([.ref A_h, .int p1]) (n := 2) (Nat.le_of_ble_eq_true rfl)
  rw [lg_entry_eq]
  generalize (lg_sl ([.ref A_h, .int p1]) ++ List.replicate (2 - (lg_sl ([.ref A_h, .int p1])).length) Slot.unset).toArray = ls at hl ⊢
  have hl : lv_has ls 2 [(0, .ref A_h), (1, .int p1)] := hl
  refine w_name (fun Q hQ => ?_)
  unfold m_X2_lengthOf at hm
  refine lv_aload_n hx hb dX2_lengthOf_0 rfl (lv_at hl 0 rfl) ?_
  refine va_get (D := (dC, dI)) (ci := 1) (v := .ref A_a) (C := RX2) (T := TX2) (N := 1) hx hb hts hi_X2_lengthOf_X2 hown hK hP 0 rfl rfl 0 (by decide) (hts (Cond.fieldLink RX2 9 "BuddyFiles$Home" "cells" "[I") hk_X2_lengthOf_9) (fun _ h9 => h9) rfl dX2_lengthOf_1 ?_
  refine lv_bipush (v := 7) hx hb dX2_lengthOf_4 (by decide) ?_
  refine lv_iload_n hx hb dX2_lengthOf_6 rfl (lv_at hl 1 rfl) ?_
  refine lv_imul hx hb dX2_lengthOf_7 ?_
  refine lv_iconst (v := 2) hx hb dX2_lengthOf_8 (by decide) ?_
  refine lv_iadd hx hb dX2_lengthOf_9 ?_
  obtain ⟨x1, ex, hm⟩ := g_bind hm
  refine w_ald hx hb hK hP 1 0 rfl rfl ex dX2_lengthOf_10 ?_
  cases hm
  subst hQ
  exact W.iret hx hb hr (fun t ht hW => ⟨_, rfl, rfl, ht⟩) (fun _ h => nomatch h) dX2_lengthOf_11
theorem hi_X2_extentOf_X2 : ∀ w ∈ wsX20, w ∈ wsX2_extentOf := by decide +kernel
theorem hk_X2_extentOf_9 : Cond.fieldLink RX2 9 "BuddyFiles$Home" "cells" "[I" ∈ wsX2_extentOf := by decide +kernel
abbrev rm_X2_extentOf : Room := { frames := 0, cells := 0, slots := 0, locals := 0 }
set_option maxHeartbeats 4000000 in
set_option maxRecDepth 100000 in
theorem k_X2_extentOf (l : Launch) (dC : Nat → ClassId) (dI : Nat → Nat → Nat) (A_h A_a : Nat) (K_a : ClassId) (c_a : Nat → Int32) (p1 : Int32) (p2 : Int32) (r0 : Int32) (hm : m_X2_extentOf c_a p1 p2 = some r0) : Met l yX2_extentOf wsX2_extentOf rm_X2_extentOf (va_Pc [.ref A_h, .int p1, .int p2] (fun U => va_P (dC, dI) vwCl (wH A_h A_a K_a c_a) U.heap ∧ va_K (dC, dI) vwCl (tH K_a) U)) (vp_Si (fun r => r0 = r)) 0 0 (fun _ => False) := by
  refine Met.ofW (cc := cX2_extentOf) (maxL := 3) (ret := (some .int)) (by decide) rfl ?_
  intro p e s m args below meth c s₁ B hml hv
  obtain ⟨rfl, hP, hK⟩ := hv
  have hx := B.exec
  have hb := B.bytes
  have hr := B.returns
  have hts := atoms_spec (ws := wsX2_extentOf) B.pre
  have hown : s.vm.findClass RX2 = some m.cls := findClass_of_methodNamed B.named
  have hlocks := B.notSynchronized
  have hl := lv_entry ([.ref A_h, .int p1, .int p2]) (n := 3) (Nat.le_of_ble_eq_true rfl)
  rw [lg_entry_eq]
  generalize (lg_sl ([.ref A_h, .int p1, .int p2]) ++ List.replicate (3 - (lg_sl ([.ref A_h, .int p1, .int p2])).length) Slot.unset).toArray = ls at hl ⊢
  have hl : lv_has ls 3 [(0, .ref A_h), (1, .int p1), (2, .int p2)] := hl
  refine w_name (fun Q hQ => ?_)
  unfold m_X2_extentOf at hm
  refine lv_aload_n hx hb dX2_extentOf_0 rfl (lv_at hl 0 rfl) ?_
  refine va_get (D := (dC, dI)) (ci := 1) (v := .ref A_a) (C := RX2) (T := TX2) (N := 1) hx hb hts hi_X2_extentOf_X2 hown hK hP 0 rfl rfl 0 (by decide) (hts (Cond.fieldLink RX2 9 "BuddyFiles$Home" "cells" "[I") hk_X2_extentOf_9) (fun _ h9 => h9) rfl dX2_extentOf_1 ?_
  refine lv_bipush (v := 7) hx hb dX2_extentOf_4 (by decide) ?_
  refine lv_iload_n hx hb dX2_extentOf_6 rfl (lv_at hl 1 rfl) ?_
  refine lv_imul hx hb dX2_extentOf_7 ?_
  refine lv_iconst (v := 3) hx hb dX2_extentOf_8 (by decide) ?_
  refine lv_iadd hx hb dX2_extentOf_9 ?_
  refine lv_iload_n hx hb dX2_extentOf_10 rfl (lv_at hl 2 rfl) ?_
  refine lv_iadd hx hb dX2_extentOf_11 ?_
  obtain ⟨x1, ex, hm⟩ := g_bind hm
  refine w_ald hx hb hK hP 1 0 rfl rfl ex dX2_extentOf_12 ?_
  cases hm
  subst hQ
  exact W.iret hx hb hr (fun t ht hW => ⟨_, rfl, rfl, ht⟩) (fun _ h => nomatch h) dX2_extentOf_13
abbrev rm_X2_needOf : Room := { frames := 0, cells := 0, slots := 0, locals := 0 }
set_option maxHeartbeats 4000000 in
set_option maxRecDepth 100000 in
theorem k_X2_needOf (l : Launch)  (p0 : Int32) (r0 : Int32) (hm : m_X2_needOf p0 = some r0) : Met l yX2_needOf wsX2_needOf rm_X2_needOf (va_Pc [.int p0] (fun _ => True)) (vp_Si (fun r => r0 = r)) 0 0 (fun _ => False) := by
  refine Met.ofW (cc := cX2_needOf) (maxL := 1) (ret := (some .int)) (by decide) rfl ?_
  intro p e s m args below meth c s₁ B hml hv
  obtain ⟨rfl, -⟩ := hv
  have hx := B.exec
  have hb := B.bytes
  have hr := B.returns
  have hts := atoms_spec (ws := wsX2_needOf) B.pre
  have hown : s.vm.findClass RX2 = some m.cls := findClass_of_methodNamed B.named
  have hlocks := B.notSynchronized
  have hl := lv_entry ([.int p0]) (n := 1) (Nat.le_of_ble_eq_true rfl)
  rw [lg_entry_eq]
  generalize (lg_sl ([.int p0]) ++ List.replicate (1 - (lg_sl ([.int p0])).length) Slot.unset).toArray = ls at hl ⊢
  have hl : lv_has ls 1 [(0, .int p0)] := hl
  refine w_name (fun Q hQ => ?_)
  unfold m_X2_needOf at hm
  refine lv_iload_n hx hb dX2_needOf_0 rfl (lv_at hl 0 rfl) ?_
  refine lv_iconst (v := 1) hx hb dX2_needOf_1 (by decide) ?_
  refine lv_iadd hx hb dX2_needOf_2 ?_
  refine lv_iconst (v := 2) hx hb dX2_needOf_3 (by decide) ?_
  refine lv_idiv hx hb dX2_needOf_4 (by decide) ?_
  cases hm
  subst hQ
  exact W.iret hx hb hr (fun t ht hW => ⟨_, rfl, rfl, ht⟩) (fun _ h => nomatch h) dX2_needOf_5
abbrev rm_X2_blocksOf : Room := { frames := 2, cells := 0, slots := 0, locals := 40 }
set_option maxHeartbeats 4000000 in
set_option maxRecDepth 100000 in
theorem k_X2_blocksOf (l : Launch) (dC : Nat → ClassId) (dI : Nat → Nat → Nat) (A_h A_a : Nat) (K_a : ClassId) (c_a : Nat → Int32) (p1 : Int32) (r0 : Int32) (hm : m_X2_blocksOf c_a p1 = some r0) : Met l yX2_blocksOf wsX2_blocksOf rm_X2_blocksOf (va_Pc [.ref A_h, .int p1] (fun U => va_P (dC, dI) vwCl (wH A_h A_a K_a c_a) U.heap ∧ va_K (dC, dI) vwCl (tH K_a) U)) (vp_Si (fun r => r0 = r)) 0 0 (fun _ => False) := by
  refine Met.ofW (cc := cX2_blocksOf) (maxL := 4) (ret := (some .int)) (by decide) rfl ?_
  intro p e s m args below meth c s₁ B hml hv
  obtain ⟨rfl, hP, hK⟩ := hv
  have hx := B.exec
  have hb := B.bytes
  have hr := B.returns
  have hts := atoms_spec (ws := wsX2_blocksOf) B.pre
  have hown : s.vm.findClass RX2 = some m.cls := findClass_of_methodNamed B.named
  have hlocks := B.notSynchronized
  have hl := lv_entry ([.ref A_h, .int p1]) (n := 4) (Nat.le_of_ble_eq_true rfl)
  rw [lg_entry_eq]
  generalize (lg_sl ([.ref A_h, .int p1]) ++ List.replicate (4 - (lg_sl ([.ref A_h, .int p1])).length) Slot.unset).toArray = ls at hl ⊢
  have hl : lv_has ls 4 [(0, .ref A_h), (1, .int p1)] := hl
  refine w_name (fun Q hQ => ?_)
  unfold m_X2_blocksOf at hm
  refine lv_iconst (v := 0) hx hb dX2_blocksOf_0 (by decide) ?_
  refine lv_istore_n (lv' := [(2, .int (0 : Int32)), (0, .ref A_h), (1, .int p1)]) hx hb dX2_blocksOf_1 rfl hl (by decide) rfl (fun ls hl => ?_)
  refine lv_iconst (v := 0) hx hb dX2_blocksOf_2 (by decide) ?_
  refine lv_istore_n (lv' := [(3, .int (0 : Int32)), (2, .int (0 : Int32)), (0, .ref A_h), (1, .int p1)]) hx hb dX2_blocksOf_3 rfl hl (by decide) rfl (fun ls hl => ?_)
  obtain ⟨rl4, hlp, hm⟩ := g_bind hm
  have hE4 : ∀ (z3 : Int32), z3 = rl4 → ∀ (ls : Array Slot), lv_has ls 4 [(2, .int z3)] → W p l e (headSpec wsX2_blocksOf rm_X2_blocksOf).room s m (([.ref A_h, .int p1] : List Value).toArray) below meth c s.heap [] 0 0 Q (F0 m 27 ls []) := by
    intro z3 hq ls hl
    subst hq
    have hm := g_k1_s hm
    refine lv_iload_n hx hb dX2_blocksOf_27 rfl (lv_at hl 0 rfl) ?_
    cases hm
    subst hQ
    exact W.iret hx hb hr (fun t ht hW => ⟨_, rfl, rfl, ht⟩) (fun _ h => nomatch h) dX2_blocksOf_28
  have hL4 : ∀ (n : Nat) (y1 : Int32) (y2 : Int32), g_loop (fun q => m_X2_blocksOf_L4 p1 c_a q.1 q.2) n (y1, y2) = some rl4 → ∀ (ls : Array Slot), lv_has ls 4 [(0, .ref A_h), (1, .int p1), (2, .int y1), (3, .int y2)] → W p l e (headSpec wsX2_blocksOf rm_X2_blocksOf).room s m (([.ref A_h, .int p1] : List Value).toArray) below meth c s.heap [] 0 0 Q (F0 m 4 ls []) := by
    intro n
    induction n with
    | zero =>
      intro y1 y2 hm
      exact g_loop_z hm
    | succ n ih =>
      intro y1 y2 hm ls hl
      obtain ⟨q, hm, hy⟩ := g_loop_s hm
      have hm : m_X2_blocksOf_L4 p1 c_a y1 y2 = some q := hm
      unfold m_X2_blocksOf_L4 at hm
      refine lv_iload_n hx hb dX2_blocksOf_4 rfl (lv_at hl 3 rfl) ?_
      refine lv_iconst (v := 4) hx hb dX2_blocksOf_5 (by decide) ?_
      refine lv_icmp_ge (tgt := 27) hx hb dX2_blocksOf_6 (by decide) (fun c5 => ?_) (fun c5 => ?_)
      · have hm := g_t c5 hm
        cases hm
        exact hE4 _ hy _ (lv_sub hl [2] rfl)
      · have hm := g_f c5 hm
        refine lv_iload_n hx hb dX2_blocksOf_9 rfl (lv_at hl 2 rfl) ?_
        refine lv_aload_n hx hb dX2_blocksOf_10 rfl (lv_at hl 0 rfl) ?_
        refine lv_iload_n hx hb dX2_blocksOf_11 rfl (lv_at hl 1 rfl) ?_
        refine lv_iload_n hx hb dX2_blocksOf_12 rfl (lv_at hl 3 rfl) ?_
        obtain ⟨x6, ex, hm⟩ := g_bind hm
        refine vp_callSi (W.runV (As := [.int p1, .int y2]) (rest := [.int y1]) ⟨hx, hb, hml, hown, hts⟩ (k_X2_extentOf l dC dI A_h A_a K_a c_a p1 y2 _ ex) (cwV 2 hts gX2_blocksOf_X2_extentOf rfl rfl rfl (by decide +kernel) ⟨Nat.le_of_ble_eq_true rfl, Nat.le_of_ble_eq_true rfl⟩) ⟨w_blR, va_recv hK hP (ci := 1) (q0 := 0) rfl rfl, fun U hU hW => ⟨rfl, by rw [hU]; exact hP.sub [0, 1] rfl, va_K.moved hW.alike (hK.sub [0] rfl)⟩⟩ rfl rfl hl.1 rfl (lv_room (Nat.le_of_ble_eq_true rfl)) dX2_blocksOf_13 ⟨Nat.zero_le _, Nat.zero_le _⟩) (fun _ ey => ?_)
        subst ey
        obtain ⟨x7, ex, hm⟩ := g_bind hm
        refine vp_callSi (W.runS (As := [.int x6]) (rest := [.int y1]) ⟨hx, hb, hml, hown, hts⟩ (k_X3_blocksOf l  x6 _ ex) (va_cwS 1 hts gX2_blocksOf_X3_blocksOf rfl rfl rfl (by decide +kernel) ⟨Nat.le_of_ble_eq_true rfl, Nat.le_of_ble_eq_true rfl⟩) ⟨w_bl0, fun U hU hW => ⟨rfl, trivial⟩⟩ rfl rfl hl.1 rfl (lv_room (Nat.le_of_ble_eq_true rfl)) dX2_blocksOf_16 ⟨Nat.zero_le _, Nat.zero_le _⟩) (fun _ ey => ?_)
        subst ey
        refine lv_iadd hx hb dX2_blocksOf_19 ?_
        refine lv_istore_n (lv' := [(2, .int (y1 + x7)), (0, .ref A_h), (1, .int p1), (3, .int y2)]) hx hb dX2_blocksOf_20 rfl hl (by decide) rfl (fun ls hl => ?_)
        refine lv_iinc (v := (y2 + (1 : Int32))) (lv' := [(3, .int (y2 + (1 : Int32))), (2, .int (y1 + x7)), (0, .ref A_h), (1, .int p1)]) hx hb dX2_blocksOf_21 hl (k := 3) rfl rfl (by decide) rfl (fun ls hl => ?_)
        refine lv_goto (tgt := 4) hx hb dX2_blocksOf_24 (by decide) ?_
        cases hm
        exact ih _ _ hy _ (lv_sub hl [2, 3, 1, 0] rfl)
  exact hL4 _ _ _ hlp _ (lv_sub hl [2, 3, 1, 0] rfl)
abbrev rm_X2_runsOf : Room := { frames := 1, cells := 0, slots := 0, locals := 22 }
set_option maxHeartbeats 4000000 in
set_option maxRecDepth 100000 in
theorem k_X2_runsOf (l : Launch) (dC : Nat → ClassId) (dI : Nat → Nat → Nat) (A_h A_a : Nat) (K_a : ClassId) (c_a : Nat → Int32) (p1 : Int32) (r0 : Int32) (hm : m_X2_runsOf c_a p1 = some r0) : Met l yX2_runsOf wsX2_runsOf rm_X2_runsOf (va_Pc [.ref A_h, .int p1] (fun U => va_P (dC, dI) vwCl (wH A_h A_a K_a c_a) U.heap ∧ va_K (dC, dI) vwCl (tH K_a) U)) (vp_Si (fun r => r0 = r)) 0 0 (fun _ => False) := by
  refine Met.ofW (cc := cX2_runsOf) (maxL := 4) (ret := (some .int)) (by decide) rfl ?_
  intro p e s m args below meth c s₁ B hml hv
  obtain ⟨rfl, hP, hK⟩ := hv
  have hx := B.exec
  have hb := B.bytes
  have hr := B.returns
  have hts := atoms_spec (ws := wsX2_runsOf) B.pre
  have hown : s.vm.findClass RX2 = some m.cls := findClass_of_methodNamed B.named
  have hlocks := B.notSynchronized
  have hl := lv_entry ([.ref A_h, .int p1]) (n := 4) (Nat.le_of_ble_eq_true rfl)
  rw [lg_entry_eq]
  generalize (lg_sl ([.ref A_h, .int p1]) ++ List.replicate (4 - (lg_sl ([.ref A_h, .int p1])).length) Slot.unset).toArray = ls at hl ⊢
  have hl : lv_has ls 4 [(0, .ref A_h), (1, .int p1)] := hl
  refine w_name (fun Q hQ => ?_)
  unfold m_X2_runsOf at hm
  refine lv_iconst (v := 0) hx hb dX2_runsOf_0 (by decide) ?_
  refine lv_istore_n (lv' := [(2, .int (0 : Int32)), (0, .ref A_h), (1, .int p1)]) hx hb dX2_runsOf_1 rfl hl (by decide) rfl (fun ls hl => ?_)
  refine lv_iconst (v := 0) hx hb dX2_runsOf_2 (by decide) ?_
  refine lv_istore_n (lv' := [(3, .int (0 : Int32)), (2, .int (0 : Int32)), (0, .ref A_h), (1, .int p1)]) hx hb dX2_runsOf_3 rfl hl (by decide) rfl (fun ls hl => ?_)
  obtain ⟨rl4, hlp, hm⟩ := g_bind hm
  have hE4 : ∀ (z3 : Int32), z3 = rl4 → ∀ (ls : Array Slot), lv_has ls 4 [(2, .int z3)] → W p l e (headSpec wsX2_runsOf rm_X2_runsOf).room s m (([.ref A_h, .int p1] : List Value).toArray) below meth c s.heap [] 0 0 Q (F0 m 27 ls []) := by
    intro z3 hq ls hl
    subst hq
    have hm := g_k1_s hm
    refine lv_iload_n hx hb dX2_runsOf_27 rfl (lv_at hl 0 rfl) ?_
    cases hm
    subst hQ
    exact W.iret hx hb hr (fun t ht hW => ⟨_, rfl, rfl, ht⟩) (fun _ h => nomatch h) dX2_runsOf_28
  have hL4 : ∀ (n : Nat) (y1 : Int32) (y2 : Int32), g_loop (fun q => m_X2_runsOf_L4 p1 c_a q.1 q.2) n (y1, y2) = some rl4 → ∀ (ls : Array Slot), lv_has ls 4 [(0, .ref A_h), (1, .int p1), (2, .int y1), (3, .int y2)] → W p l e (headSpec wsX2_runsOf rm_X2_runsOf).room s m (([.ref A_h, .int p1] : List Value).toArray) below meth c s.heap [] 0 0 Q (F0 m 4 ls []) := by
    intro n
    induction n with
    | zero =>
      intro y1 y2 hm
      exact g_loop_z hm
    | succ n ih =>
      intro y1 y2 hm ls hl
      obtain ⟨q, hm, hy⟩ := g_loop_s hm
      have hm : m_X2_runsOf_L4 p1 c_a y1 y2 = some q := hm
      unfold m_X2_runsOf_L4 at hm
      refine lv_iload_n hx hb dX2_runsOf_4 rfl (lv_at hl 3 rfl) ?_
      refine lv_iconst (v := 4) hx hb dX2_runsOf_5 (by decide) ?_
      refine lv_icmp_ge (tgt := 27) hx hb dX2_runsOf_6 (by decide) (fun c5 => ?_) (fun c5 => ?_)
      · have hm := g_t c5 hm
        cases hm
        exact hE4 _ hy _ (lv_sub hl [2] rfl)
      · have hm := g_f c5 hm
        refine lv_aload_n hx hb dX2_runsOf_9 rfl (lv_at hl 0 rfl) ?_
        refine lv_iload_n hx hb dX2_runsOf_10 rfl (lv_at hl 1 rfl) ?_
        refine lv_iload_n hx hb dX2_runsOf_11 rfl (lv_at hl 3 rfl) ?_
        obtain ⟨x6, ex, hm⟩ := g_bind hm
        refine vp_callSi (W.runV (As := [.int p1, .int y2]) (rest := []) ⟨hx, hb, hml, hown, hts⟩ (k_X2_extentOf l dC dI A_h A_a K_a c_a p1 y2 _ ex) (cwV 2 hts gX2_runsOf_X2_extentOf rfl rfl rfl (by decide +kernel) ⟨Nat.le_of_ble_eq_true rfl, Nat.le_of_ble_eq_true rfl⟩) ⟨w_blR, va_recv hK hP (ci := 1) (q0 := 0) rfl rfl, fun U hU hW => ⟨rfl, by rw [hU]; exact hP.sub [0, 1] rfl, va_K.moved hW.alike (hK.sub [0] rfl)⟩⟩ rfl rfl hl.1 rfl (lv_room (Nat.le_of_ble_eq_true rfl)) dX2_runsOf_12 ⟨Nat.zero_le _, Nat.zero_le _⟩) (fun _ ey => ?_)
        subst ey
        refine lv_if_eq (tgt := 21) hx hb dX2_runsOf_15 (by decide) (fun c7 => ?_) (fun c7 => ?_)
        · have hm := g_t c7 hm
          refine lv_iinc (v := (y2 + (1 : Int32))) (lv' := [(3, .int (y2 + (1 : Int32))), (0, .ref A_h), (1, .int p1), (2, .int y1)]) hx hb dX2_runsOf_21 hl (k := 3) rfl rfl (by decide) rfl (fun ls hl => ?_)
          refine lv_goto (tgt := 4) hx hb dX2_runsOf_24 (by decide) ?_
          cases hm
          exact ih _ _ hy _ (lv_sub hl [1, 2, 3, 0] rfl)
        · have hm := g_f c7 hm
          refine lv_iinc (v := (y1 + (1 : Int32))) (lv' := [(2, .int (y1 + (1 : Int32))), (0, .ref A_h), (1, .int p1), (3, .int y2)]) hx hb dX2_runsOf_18 hl (k := 2) rfl rfl (by decide) rfl (fun ls hl => ?_)
          refine lv_iinc (v := (y2 + (1 : Int32))) (lv' := [(3, .int (y2 + (1 : Int32))), (2, .int (y1 + (1 : Int32))), (0, .ref A_h), (1, .int p1)]) hx hb dX2_runsOf_21 hl (k := 3) rfl rfl (by decide) rfl (fun ls hl => ?_)
          refine lv_goto (tgt := 4) hx hb dX2_runsOf_24 (by decide) ?_
          cases hm
          exact ih _ _ hy _ (lv_sub hl [2, 3, 1, 0] rfl)
  exact hL4 _ _ _ hlp _ (lv_sub hl [2, 3, 1, 0] rfl)
theorem hi_X2_quotaOf_X2 : ∀ w ∈ wsX20, w ∈ wsX2_quotaOf := by decide +kernel
theorem hk_X2_quotaOf_9 : Cond.fieldLink RX2 9 "BuddyFiles$Home" "cells" "[I" ∈ wsX2_quotaOf := by decide +kernel
abbrev rm_X2_quotaOf : Room := { frames := 0, cells := 0, slots := 0, locals := 0 }
set_option maxHeartbeats 4000000 in
set_option maxRecDepth 100000 in
theorem k_X2_quotaOf (l : Launch) (dC : Nat → ClassId) (dI : Nat → Nat → Nat) (A_h A_a : Nat) (K_a : ClassId) (c_a : Nat → Int32) (p1 : Int32) (r0 : Int32) (hm : m_X2_quotaOf c_a p1 = some r0) : Met l yX2_quotaOf wsX2_quotaOf rm_X2_quotaOf (va_Pc [.ref A_h, .int p1] (fun U => va_P (dC, dI) vwCl (wH A_h A_a K_a c_a) U.heap ∧ va_K (dC, dI) vwCl (tH K_a) U)) (vp_Si (fun r => r0 = r)) 0 0 (fun _ => False) := by
  refine Met.ofW (cc := cX2_quotaOf) (maxL := 2) (ret := (some .int)) (by decide) rfl ?_
  intro p e s m args below meth c s₁ B hml hv
  obtain ⟨rfl, hP, hK⟩ := hv
  have hx := B.exec
  have hb := B.bytes
  have hr := B.returns
  have hts := atoms_spec (ws := wsX2_quotaOf) B.pre
  have hown : s.vm.findClass RX2 = some m.cls := findClass_of_methodNamed B.named
  have hlocks := B.notSynchronized
  have hl := lv_entry ([.ref A_h, .int p1]) (n := 2) (Nat.le_of_ble_eq_true rfl)
  rw [lg_entry_eq]
  generalize (lg_sl ([.ref A_h, .int p1]) ++ List.replicate (2 - (lg_sl ([.ref A_h, .int p1])).length) Slot.unset).toArray = ls at hl ⊢
  have hl : lv_has ls 2 [(0, .ref A_h), (1, .int p1)] := hl
  refine w_name (fun Q hQ => ?_)
  unfold m_X2_quotaOf at hm
  refine lv_aload_n hx hb dX2_quotaOf_0 rfl (lv_at hl 0 rfl) ?_
  refine va_get (D := (dC, dI)) (ci := 1) (v := .ref A_a) (C := RX2) (T := TX2) (N := 1) hx hb hts hi_X2_quotaOf_X2 hown hK hP 0 rfl rfl 0 (by decide) (hts (Cond.fieldLink RX2 9 "BuddyFiles$Home" "cells" "[I") hk_X2_quotaOf_9) (fun _ h9 => h9) rfl dX2_quotaOf_1 ?_
  refine lv_bipush (v := 42) hx hb dX2_quotaOf_4 (by decide) ?_
  refine lv_iload_n hx hb dX2_quotaOf_6 rfl (lv_at hl 1 rfl) ?_
  refine lv_iadd hx hb dX2_quotaOf_7 ?_
  obtain ⟨x1, ex, hm⟩ := g_bind hm
  refine w_ald hx hb hK hP 1 0 rfl rfl ex dX2_quotaOf_8 ?_
  cases hm
  subst hQ
  exact W.iret hx hb hr (fun t ht hW => ⟨_, rfl, rfl, ht⟩) (fun _ h => nomatch h) dX2_quotaOf_9
abbrev rm_X2_usageOf : Room := { frames := 3, cells := 0, slots := 0, locals := 63 }
set_option maxHeartbeats 4000000 in
set_option maxRecDepth 100000 in
theorem k_X2_usageOf (l : Launch) (dC : Nat → ClassId) (dI : Nat → Nat → Nat) (A_h A_a : Nat) (K_a : ClassId) (c_a : Nat → Int32) (p1 : Int32) (r0 : Int32) (hm : m_X2_usageOf c_a p1 = some r0) : Met l yX2_usageOf wsX2_usageOf rm_X2_usageOf (va_Pc [.ref A_h, .int p1] (fun U => va_P (dC, dI) vwCl (wH A_h A_a K_a c_a) U.heap ∧ va_K (dC, dI) vwCl (tH K_a) U)) (vp_Si (fun r => r0 = r)) 0 0 (fun _ => False) := by
  refine Met.ofW (cc := cX2_usageOf) (maxL := 4) (ret := (some .int)) (by decide) rfl ?_
  intro p e s m args below meth c s₁ B hml hv
  obtain ⟨rfl, hP, hK⟩ := hv
  have hx := B.exec
  have hb := B.bytes
  have hr := B.returns
  have hts := atoms_spec (ws := wsX2_usageOf) B.pre
  have hown : s.vm.findClass RX2 = some m.cls := findClass_of_methodNamed B.named
  have hlocks := B.notSynchronized
  have hl := lv_entry ([.ref A_h, .int p1]) (n := 4) (Nat.le_of_ble_eq_true rfl)
  rw [lg_entry_eq]
  generalize (lg_sl ([.ref A_h, .int p1]) ++ List.replicate (4 - (lg_sl ([.ref A_h, .int p1])).length) Slot.unset).toArray = ls at hl ⊢
  have hl : lv_has ls 4 [(0, .ref A_h), (1, .int p1)] := hl
  refine w_name (fun Q hQ => ?_)
  unfold m_X2_usageOf at hm
  refine lv_iconst (v := 0) hx hb dX2_usageOf_0 (by decide) ?_
  refine lv_istore_n (lv' := [(2, .int (0 : Int32)), (0, .ref A_h), (1, .int p1)]) hx hb dX2_usageOf_1 rfl hl (by decide) rfl (fun ls hl => ?_)
  refine lv_iconst (v := 0) hx hb dX2_usageOf_2 (by decide) ?_
  refine lv_istore_n (lv' := [(3, .int (0 : Int32)), (2, .int (0 : Int32)), (0, .ref A_h), (1, .int p1)]) hx hb dX2_usageOf_3 rfl hl (by decide) rfl (fun ls hl => ?_)
  obtain ⟨rl4, hlp, hm⟩ := g_bind hm
  have hE4 : ∀ (z3 : Int32), z3 = rl4 → ∀ (ls : Array Slot), lv_has ls 4 [(2, .int z3)] → W p l e (headSpec wsX2_usageOf rm_X2_usageOf).room s m (([.ref A_h, .int p1] : List Value).toArray) below meth c s.heap [] 0 0 Q (F0 m 33 ls []) := by
    intro z3 hq ls hl
    subst hq
    have hm := g_k1_s hm
    refine lv_iload_n hx hb dX2_usageOf_33 rfl (lv_at hl 0 rfl) ?_
    cases hm
    subst hQ
    exact W.iret hx hb hr (fun t ht hW => ⟨_, rfl, rfl, ht⟩) (fun _ h => nomatch h) dX2_usageOf_34
  have hL4 : ∀ (n : Nat) (y1 : Int32) (y2 : Int32), g_loop (fun q => m_X2_usageOf_L4 p1 c_a q.1 q.2) n (y1, y2) = some rl4 → ∀ (ls : Array Slot), lv_has ls 4 [(0, .ref A_h), (1, .int p1), (2, .int y1), (3, .int y2)] → W p l e (headSpec wsX2_usageOf rm_X2_usageOf).room s m (([.ref A_h, .int p1] : List Value).toArray) below meth c s.heap [] 0 0 Q (F0 m 4 ls []) := by
    intro n
    induction n with
    | zero =>
      intro y1 y2 hm
      exact g_loop_z hm
    | succ n ih =>
      intro y1 y2 hm ls hl
      obtain ⟨q, hm, hy⟩ := g_loop_s hm
      have hm : m_X2_usageOf_L4 p1 c_a y1 y2 = some q := hm
      unfold m_X2_usageOf_L4 at hm
      refine lv_iload_n hx hb dX2_usageOf_4 rfl (lv_at hl 3 rfl) ?_
      refine lv_bipush (v := 6) hx hb dX2_usageOf_5 (by decide) ?_
      refine lv_icmp_ge (tgt := 33) hx hb dX2_usageOf_7 (by decide) (fun c5 => ?_) (fun c5 => ?_)
      · have hm := g_t c5 hm
        cases hm
        exact hE4 _ hy _ (lv_sub hl [2] rfl)
      · have hm := g_f c5 hm
        refine lv_aload_n hx hb dX2_usageOf_10 rfl (lv_at hl 0 rfl) ?_
        refine lv_iload_n hx hb dX2_usageOf_11 rfl (lv_at hl 3 rfl) ?_
        obtain ⟨x6, ex, hm⟩ := g_bind hm
        refine vp_callSi (W.runV (As := [.int y2]) (rest := []) ⟨hx, hb, hml, hown, hts⟩ (k_X2_ownerOf l dC dI A_h A_a K_a c_a y2 _ ex) (cwV 1 hts gX2_usageOf_X2_ownerOf rfl rfl rfl (by decide +kernel) ⟨Nat.le_of_ble_eq_true rfl, Nat.le_of_ble_eq_true rfl⟩) ⟨w_blR, va_recv hK hP (ci := 1) (q0 := 0) rfl rfl, fun U hU hW => ⟨rfl, by rw [hU]; exact hP.sub [0, 1] rfl, va_K.moved hW.alike (hK.sub [0] rfl)⟩⟩ rfl rfl hl.1 rfl (lv_room (Nat.le_of_ble_eq_true rfl)) dX2_usageOf_12 ⟨Nat.zero_le _, Nat.zero_le _⟩) (fun _ ey => ?_)
        subst ey
        refine lv_iload_n hx hb dX2_usageOf_15 rfl (lv_at hl 1 rfl) ?_
        refine lv_icmp_ne (tgt := 27) hx hb dX2_usageOf_16 (by decide) (fun c7 => ?_) (fun c7 => ?_)
        · have hm := g_f c7 hm
          refine lv_iinc (v := (y2 + (1 : Int32))) (lv' := [(3, .int (y2 + (1 : Int32))), (0, .ref A_h), (1, .int p1), (2, .int y1)]) hx hb dX2_usageOf_27 hl (k := 3) rfl rfl (by decide) rfl (fun ls hl => ?_)
          refine lv_goto (tgt := 4) hx hb dX2_usageOf_30 (by decide) ?_
          cases hm
          exact ih _ _ hy _ (lv_sub hl [1, 2, 3, 0] rfl)
        · have hm := g_t c7 hm
          refine lv_iload_n hx hb dX2_usageOf_19 rfl (lv_at hl 2 rfl) ?_
          refine lv_aload_n hx hb dX2_usageOf_20 rfl (lv_at hl 0 rfl) ?_
          refine lv_iload_n hx hb dX2_usageOf_21 rfl (lv_at hl 3 rfl) ?_
          obtain ⟨x8, ex, hm⟩ := g_bind hm
          refine vp_callSi (W.runV (As := [.int y2]) (rest := [.int y1]) ⟨hx, hb, hml, hown, hts⟩ (k_X2_blocksOf l dC dI A_h A_a K_a c_a y2 _ ex) (cwV 1 hts gX2_usageOf_X2_blocksOf rfl rfl rfl (by decide +kernel) ⟨Nat.le_of_ble_eq_true rfl, Nat.le_of_ble_eq_true rfl⟩) ⟨w_blR, va_recv hK hP (ci := 1) (q0 := 0) rfl rfl, fun U hU hW => ⟨rfl, by rw [hU]; exact hP.sub [0, 1] rfl, va_K.moved hW.alike (hK.sub [0] rfl)⟩⟩ rfl rfl hl.1 rfl (lv_room (Nat.le_of_ble_eq_true rfl)) dX2_usageOf_22 ⟨Nat.zero_le _, Nat.zero_le _⟩) (fun _ ey => ?_)
          subst ey
          refine lv_iadd hx hb dX2_usageOf_25 ?_
          refine lv_istore_n (lv' := [(2, .int (y1 + x8)), (0, .ref A_h), (1, .int p1), (3, .int y2)]) hx hb dX2_usageOf_26 rfl hl (by decide) rfl (fun ls hl => ?_)
          refine lv_iinc (v := (y2 + (1 : Int32))) (lv' := [(3, .int (y2 + (1 : Int32))), (2, .int (y1 + x8)), (0, .ref A_h), (1, .int p1)]) hx hb dX2_usageOf_27 hl (k := 3) rfl rfl (by decide) rfl (fun ls hl => ?_)
          refine lv_goto (tgt := 4) hx hb dX2_usageOf_30 (by decide) ?_
          cases hm
          exact ih _ _ hy _ (lv_sub hl [2, 3, 1, 0] rfl)
  exact hL4 _ _ _ hlp _ (lv_sub hl [2, 3, 1, 0] rfl)
abbrev rm_X2_wordIndex : Room := { frames := 2, cells := 0, slots := 0, locals := 40 }
set_option maxHeartbeats 4000000 in
set_option maxRecDepth 100000 in
theorem k_X2_wordIndex (l : Launch) (dC : Nat → ClassId) (dI : Nat → Nat → Nat) (A_h A_a : Nat) (K_a : ClassId) (c_a : Nat → Int32) (p1 : Int32) (p2 : Int32) (r0 : Int32) (hm : m_X2_wordIndex c_a p1 p2 = some r0) : Met l yX2_wordIndex wsX2_wordIndex rm_X2_wordIndex (va_Pc [.ref A_h, .int p1, .int p2] (fun U => va_P (dC, dI) vwCl (wH A_h A_a K_a c_a) U.heap ∧ va_K (dC, dI) vwCl (tH K_a) U)) (vp_Si (fun r => r0 = r)) 0 0 (fun _ => False) := by
  refine Met.ofW (cc := cX2_wordIndex) (maxL := 7) (ret := (some .int)) (by decide) rfl ?_
  intro p e s m args below meth c s₁ B hml hv
  obtain ⟨rfl, hP, hK⟩ := hv
  have hx := B.exec
  have hb := B.bytes
  have hr := B.returns
  have hts := atoms_spec (ws := wsX2_wordIndex) B.pre
  have hown : s.vm.findClass RX2 = some m.cls := findClass_of_methodNamed B.named
  have hlocks := B.notSynchronized
  have hl := lv_entry ([.ref A_h, .int p1, .int p2]) (n := 7) (Nat.le_of_ble_eq_true rfl)
  rw [lg_entry_eq]
  generalize (lg_sl ([.ref A_h, .int p1, .int p2]) ++ List.replicate (7 - (lg_sl ([.ref A_h, .int p1, .int p2])).length) Slot.unset).toArray = ls at hl ⊢
  have hl : lv_has ls 7 [(0, .ref A_h), (1, .int p1), (2, .int p2)] := hl
  refine w_name (fun Q hQ => ?_)
  unfold m_X2_wordIndex at hm
  refine lv_iload_n hx hb dX2_wordIndex_0 rfl (lv_at hl 2 rfl) ?_
  refine lv_istore_n (lv' := [(3, .int p2), (0, .ref A_h), (1, .int p1), (2, .int p2)]) hx hb dX2_wordIndex_1 rfl hl (by decide) rfl (fun ls hl => ?_)
  refine lv_iconst (v := 0) hx hb dX2_wordIndex_2 (by decide) ?_
  refine lv_istore (lv' := [(4, .int (0 : Int32)), (3, .int p2), (0, .ref A_h), (1, .int p1), (2, .int p2)]) hx hb dX2_wordIndex_3 hl (by decide) rfl (fun ls hl => ?_)
  obtain ⟨rl3, hlp, hm⟩ := g_bind hm
  have hE3 : Sum.inr () = rl3 → ∀ (ls : Array Slot), lv_has ls 7 [] → W p l e (headSpec wsX2_wordIndex rm_X2_wordIndex).room s m (([.ref A_h, .int p1, .int p2] : List Value).toArray) below meth c s.heap [] 0 0 Q (F0 m 56 ls []) := by
    intro  hq ls hl
    subst hq
    have hm := g_sk_r hm
    have hm := g_k0_s hm
    refine lv_iconst (v := -1) hx hb dX2_wordIndex_56 (by decide) ?_
    cases hm
    subst hQ
    exact W.iret hx hb hr (fun t ht hW => ⟨_, rfl, rfl, ht⟩) (fun _ h => nomatch h) dX2_wordIndex_57
  have hV3 : ∀ v, Sum.inl v = rl3 → v = r0 := by
    intro v hq
    subst hq
    have hm := g_sk_l hm
    exact Option.some.inj hm
  have hL3 : ∀ (n : Nat) (y1 : Int32) (y2 : Int32), g_loop (fun q => m_X2_wordIndex_L5 p1 c_a q.1 q.2) n (y1, y2) = some rl3 → ∀ (ls : Array Slot), lv_has ls 7 [(0, .ref A_h), (1, .int p1), (3, .int y1), (4, .int y2)] → W p l e (headSpec wsX2_wordIndex rm_X2_wordIndex).room s m (([.ref A_h, .int p1, .int p2] : List Value).toArray) below meth c s.heap [] 0 0 Q (F0 m 5 ls []) := by
    intro n
    induction n with
    | zero =>
      intro y1 y2 hm
      exact g_loop_z hm
    | succ n ih =>
      intro y1 y2 hm ls hl
      obtain ⟨q, hm, hy⟩ := g_loop_s hm
      have hm : m_X2_wordIndex_L5 p1 c_a y1 y2 = some q := hm
      unfold m_X2_wordIndex_L5 at hm
      refine lv_iload hx hb dX2_wordIndex_5 (lv_at hl 3 rfl) ?_
      refine lv_iconst (v := 4) hx hb dX2_wordIndex_7 (by decide) ?_
      refine lv_icmp_ge (tgt := 56) hx hb dX2_wordIndex_8 (by decide) (fun c4 => ?_) (fun c4 => ?_)
      · have hm := g_t c4 hm
        cases hm
        exact hE3 hy _ (lv_sub hl [] rfl)
      · have hm := g_f c4 hm
        refine lv_aload_n hx hb dX2_wordIndex_11 rfl (lv_at hl 0 rfl) ?_
        refine lv_iload_n hx hb dX2_wordIndex_12 rfl (lv_at hl 1 rfl) ?_
        refine lv_iload hx hb dX2_wordIndex_13 (lv_at hl 3 rfl) ?_
        obtain ⟨x5, ex, hm⟩ := g_bind hm
        refine vp_callSi (W.runV (As := [.int p1, .int y2]) (rest := []) ⟨hx, hb, hml, hown, hts⟩ (k_X2_extentOf l dC dI A_h A_a K_a c_a p1 y2 _ ex) (cwV 2 hts gX2_wordIndex_X2_extentOf rfl rfl rfl (by decide +kernel) ⟨Nat.le_of_ble_eq_true rfl, Nat.le_of_ble_eq_true rfl⟩) ⟨w_blR, va_recv hK hP (ci := 1) (q0 := 0) rfl rfl, fun U hU hW => ⟨rfl, by rw [hU]; exact hP.sub [0, 1] rfl, va_K.moved hW.alike (hK.sub [0] rfl)⟩⟩ rfl rfl hl.1 rfl (lv_room (Nat.le_of_ble_eq_true rfl)) dX2_wordIndex_15 ⟨Nat.zero_le _, Nat.zero_le _⟩) (fun _ ey => ?_)
        subst ey
        refine lv_istore (lv' := [(5, .int x5), (0, .ref A_h), (1, .int p1), (3, .int y1), (4, .int y2)]) hx hb dX2_wordIndex_18 hl (by decide) rfl (fun ls hl => ?_)
        refine lv_iconst (v := 2) hx hb dX2_wordIndex_20 (by decide) ?_
        refine lv_iload hx hb dX2_wordIndex_21 (lv_at hl 0 rfl) ?_
        obtain ⟨x6, ex, hm⟩ := g_bind hm
        refine vp_callSi (W.runS (As := [.int x5]) (rest := [.int (2 : Int32)]) ⟨hx, hb, hml, hown, hts⟩ (k_X3_blocksOf l  x5 _ ex) (va_cwS 1 hts gX2_wordIndex_X3_blocksOf rfl rfl rfl (by decide +kernel) ⟨Nat.le_of_ble_eq_true rfl, Nat.le_of_ble_eq_true rfl⟩) ⟨w_bl0, fun U hU hW => ⟨rfl, trivial⟩⟩ rfl rfl hl.1 rfl (lv_room (Nat.le_of_ble_eq_true rfl)) dX2_wordIndex_23 ⟨Nat.zero_le _, Nat.zero_le _⟩) (fun _ ey => ?_)
        subst ey
        refine lv_imul hx hb dX2_wordIndex_26 ?_
        refine lv_istore (lv' := [(6, .int ((2 : Int32) * x6)), (5, .int x5), (0, .ref A_h), (1, .int p1), (3, .int y1), (4, .int y2)]) hx hb dX2_wordIndex_27 hl (by decide) rfl (fun ls hl => ?_)
        refine lv_iload_n hx hb dX2_wordIndex_29 rfl (lv_at hl 4 rfl) ?_
        refine lv_iload hx hb dX2_wordIndex_30 (lv_at hl 0 rfl) ?_
        refine lv_icmp_ge (tgt := 45) hx hb dX2_wordIndex_32 (by decide) (fun c7 => ?_) (fun c7 => ?_)
        · have hm := g_t c7 hm
          refine lv_iload_n hx hb dX2_wordIndex_45 rfl (lv_at hl 4 rfl) ?_
          refine lv_iload hx hb dX2_wordIndex_46 (lv_at hl 0 rfl) ?_
          refine lv_isub hx hb dX2_wordIndex_48 ?_
          refine lv_istore_n (lv' := [(3, .int (y1 - ((2 : Int32) * x6))), (6, .int ((2 : Int32) * x6)), (5, .int x5), (0, .ref A_h), (1, .int p1), (4, .int y2)]) hx hb dX2_wordIndex_49 rfl hl (by decide) rfl (fun ls hl => ?_)
          refine lv_iinc (v := (y2 + (1 : Int32))) (lv' := [(4, .int (y2 + (1 : Int32))), (3, .int (y1 - ((2 : Int32) * x6))), (6, .int ((2 : Int32) * x6)), (5, .int x5), (0, .ref A_h), (1, .int p1)]) hx hb dX2_wordIndex_50 hl (k := 5) rfl rfl (by decide) rfl (fun ls hl => ?_)
          refine lv_goto (tgt := 5) hx hb dX2_wordIndex_53 (by decide) ?_
          cases hm
          exact ih _ _ hy _ (lv_sub hl [4, 5, 1, 0] rfl)
        · have hm := g_f c7 hm
          refine lv_iconst (v := 2) hx hb dX2_wordIndex_35 (by decide) ?_
          refine lv_iload hx hb dX2_wordIndex_36 (lv_at hl 1 rfl) ?_
          obtain ⟨x8, ex, hm⟩ := g_bind hm
          refine vp_callSi (W.runS (As := [.int x5]) (rest := [.int (2 : Int32)]) ⟨hx, hb, hml, hown, hts⟩ (k_X3_firstOf l  x5 _ ex) (va_cwS 1 hts gX2_wordIndex_X3_firstOf rfl rfl rfl (by decide +kernel) ⟨Nat.le_of_ble_eq_true rfl, Nat.le_of_ble_eq_true rfl⟩) ⟨w_bl0, fun U hU hW => ⟨rfl, trivial⟩⟩ rfl rfl hl.1 rfl (lv_room (Nat.le_of_ble_eq_true rfl)) dX2_wordIndex_38 ⟨Nat.zero_le _, Nat.zero_le _⟩) (fun _ ey => ?_)
          subst ey
          refine lv_imul hx hb dX2_wordIndex_41 ?_
          refine lv_iload_n hx hb dX2_wordIndex_42 rfl (lv_at hl 4 rfl) ?_
          refine lv_iadd hx hb dX2_wordIndex_43 ?_
          cases hm
          have hq := hV3 _ hy
          cases hq
          subst hQ
          exact W.iret hx hb hr (fun t ht hW => ⟨_, rfl, rfl, ht⟩) (fun _ h => nomatch h) dX2_wordIndex_44
  exact hL3 _ _ _ hlp _ (lv_sub hl [2, 3, 1, 0] rfl)
abbrev rm_X2_slotOf : Room := { frames := 1, cells := 0, slots := 0, locals := 21 }
set_option maxHeartbeats 4000000 in
set_option maxRecDepth 100000 in
theorem k_X2_slotOf (l : Launch) (dC : Nat → ClassId) (dI : Nat → Nat → Nat) (A_h A_a : Nat) (K_a : ClassId) (c_a : Nat → Int32) (p1 : Int32) (r0 : Int32) (hm : m_X2_slotOf c_a p1 = some r0) : Met l yX2_slotOf wsX2_slotOf rm_X2_slotOf (va_Pc [.ref A_h, .int p1] (fun U => va_P (dC, dI) vwCl (wH A_h A_a K_a c_a) U.heap ∧ va_K (dC, dI) vwCl (tH K_a) U)) (vp_Si (fun r => r0 = r)) 0 0 (fun _ => False) := by
  refine Met.ofW (cc := cX2_slotOf) (maxL := 3) (ret := (some .int)) (by decide) rfl ?_
  intro p e s m args below meth c s₁ B hml hv
  obtain ⟨rfl, hP, hK⟩ := hv
  have hx := B.exec
  have hb := B.bytes
  have hr := B.returns
  have hts := atoms_spec (ws := wsX2_slotOf) B.pre
  have hown : s.vm.findClass RX2 = some m.cls := findClass_of_methodNamed B.named
  have hlocks := B.notSynchronized
  have hl := lv_entry ([.ref A_h, .int p1]) (n := 3) (Nat.le_of_ble_eq_true rfl)
  rw [lg_entry_eq]
  generalize (lg_sl ([.ref A_h, .int p1]) ++ List.replicate (3 - (lg_sl ([.ref A_h, .int p1])).length) Slot.unset).toArray = ls at hl ⊢
  have hl : lv_has ls 3 [(0, .ref A_h), (1, .int p1)] := hl
  refine w_name (fun Q hQ => ?_)
  unfold m_X2_slotOf at hm
  refine lv_iconst (v := 0) hx hb dX2_slotOf_0 (by decide) ?_
  refine lv_istore_n (lv' := [(2, .int (0 : Int32)), (0, .ref A_h), (1, .int p1)]) hx hb dX2_slotOf_1 rfl hl (by decide) rfl (fun ls hl => ?_)
  obtain ⟨rl2, hlp, hm⟩ := g_bind hm
  have hE2 : Sum.inr () = rl2 → ∀ (ls : Array Slot), lv_has ls 3 [] → W p l e (headSpec wsX2_slotOf rm_X2_slotOf).room s m (([.ref A_h, .int p1] : List Value).toArray) below meth c s.heap [] 0 0 Q (F0 m 29 ls []) := by
    intro  hq ls hl
    subst hq
    have hm := g_sk_r hm
    have hm := g_k0_s hm
    refine lv_iconst (v := -1) hx hb dX2_slotOf_29 (by decide) ?_
    cases hm
    subst hQ
    exact W.iret hx hb hr (fun t ht hW => ⟨_, rfl, rfl, ht⟩) (fun _ h => nomatch h) dX2_slotOf_30
  have hV2 : ∀ v, Sum.inl v = rl2 → v = r0 := by
    intro v hq
    subst hq
    have hm := g_sk_l hm
    exact Option.some.inj hm
  have hL2 : ∀ (n : Nat) (y1 : Int32), g_loop (fun q => m_X2_slotOf_L2 p1 c_a q) n y1 = some rl2 → ∀ (ls : Array Slot), lv_has ls 3 [(0, .ref A_h), (1, .int p1), (2, .int y1)] → W p l e (headSpec wsX2_slotOf rm_X2_slotOf).room s m (([.ref A_h, .int p1] : List Value).toArray) below meth c s.heap [] 0 0 Q (F0 m 2 ls []) := by
    intro n
    induction n with
    | zero =>
      intro y1 hm
      exact g_loop_z hm
    | succ n ih =>
      intro y1 hm ls hl
      obtain ⟨q, hm, hy⟩ := g_loop_s hm
      have hm : m_X2_slotOf_L2 p1 c_a y1 = some q := hm
      unfold m_X2_slotOf_L2 at hm
      refine lv_iload_n hx hb dX2_slotOf_2 rfl (lv_at hl 2 rfl) ?_
      refine lv_bipush (v := 6) hx hb dX2_slotOf_3 (by decide) ?_
      refine lv_icmp_ge (tgt := 29) hx hb dX2_slotOf_5 (by decide) (fun c3 => ?_) (fun c3 => ?_)
      · have hm := g_t c3 hm
        cases hm
        exact hE2 hy _ (lv_sub hl [] rfl)
      · have hm := g_f c3 hm
        refine lv_iload_n hx hb dX2_slotOf_8 rfl (lv_at hl 1 rfl) ?_
        refine lv_if_eq (tgt := 23) hx hb dX2_slotOf_9 (by decide) (fun c4 => ?_) (fun c4 => ?_)
        · have hm := g_t c4 hm
          refine lv_iinc (v := (y1 + (1 : Int32))) (lv' := [(2, .int (y1 + (1 : Int32))), (0, .ref A_h), (1, .int p1)]) hx hb dX2_slotOf_23 hl (k := 2) rfl rfl (by decide) rfl (fun ls hl => ?_)
          refine lv_goto (tgt := 2) hx hb dX2_slotOf_26 (by decide) ?_
          cases hm
          exact ih _ hy _ (lv_sub hl [1, 2, 0] rfl)
        · have hm := g_f c4 hm
          refine lv_aload_n hx hb dX2_slotOf_12 rfl (lv_at hl 0 rfl) ?_
          refine lv_iload_n hx hb dX2_slotOf_13 rfl (lv_at hl 2 rfl) ?_
          obtain ⟨x5, ex, hm⟩ := g_bind hm
          refine vp_callSi (W.runV (As := [.int y1]) (rest := []) ⟨hx, hb, hml, hown, hts⟩ (k_X2_nameOf l dC dI A_h A_a K_a c_a y1 _ ex) (cwV 1 hts gX2_slotOf_X2_nameOf rfl rfl rfl (by decide +kernel) ⟨Nat.le_of_ble_eq_true rfl, Nat.le_of_ble_eq_true rfl⟩) ⟨w_blR, va_recv hK hP (ci := 1) (q0 := 0) rfl rfl, fun U hU hW => ⟨rfl, by rw [hU]; exact hP.sub [0, 1] rfl, va_K.moved hW.alike (hK.sub [0] rfl)⟩⟩ rfl rfl hl.1 rfl (lv_room (Nat.le_of_ble_eq_true rfl)) dX2_slotOf_14 ⟨Nat.zero_le _, Nat.zero_le _⟩) (fun _ ey => ?_)
          subst ey
          refine lv_iload_n hx hb dX2_slotOf_17 rfl (lv_at hl 1 rfl) ?_
          refine lv_icmp_ne (tgt := 23) hx hb dX2_slotOf_18 (by decide) (fun c6 => ?_) (fun c6 => ?_)
          · have hm := g_f c6 hm
            refine lv_iinc (v := (y1 + (1 : Int32))) (lv' := [(2, .int (y1 + (1 : Int32))), (0, .ref A_h), (1, .int p1)]) hx hb dX2_slotOf_23 hl (k := 2) rfl rfl (by decide) rfl (fun ls hl => ?_)
            refine lv_goto (tgt := 2) hx hb dX2_slotOf_26 (by decide) ?_
            cases hm
            exact ih _ hy _ (lv_sub hl [1, 2, 0] rfl)
          · have hm := g_t c6 hm
            refine lv_iload_n hx hb dX2_slotOf_21 rfl (lv_at hl 2 rfl) ?_
            cases hm
            have hq := hV2 _ hy
            cases hq
            subst hQ
            exact W.iret hx hb hr (fun t ht hW => ⟨_, rfl, rfl, ht⟩) (fun _ h => nomatch h) dX2_slotOf_22
  exact hL2 _ _ hlp _ (lv_sub hl [1, 2, 0] rfl)
abbrev rm_X2_emptySlot : Room := { frames := 1, cells := 0, slots := 0, locals := 21 }
set_option maxHeartbeats 4000000 in
set_option maxRecDepth 100000 in
theorem k_X2_emptySlot (l : Launch) (dC : Nat → ClassId) (dI : Nat → Nat → Nat) (A_h A_a : Nat) (K_a : ClassId) (c_a : Nat → Int32)  (r0 : Int32) (hm : m_X2_emptySlot c_a = some r0) : Met l yX2_emptySlot wsX2_emptySlot rm_X2_emptySlot (va_Pc [.ref A_h] (fun U => va_P (dC, dI) vwCl (wH A_h A_a K_a c_a) U.heap ∧ va_K (dC, dI) vwCl (tH K_a) U)) (vp_Si (fun r => r0 = r)) 0 0 (fun _ => False) := by
  refine Met.ofW (cc := cX2_emptySlot) (maxL := 2) (ret := (some .int)) (by decide) rfl ?_
  intro p e s m args below meth c s₁ B hml hv
  obtain ⟨rfl, hP, hK⟩ := hv
  have hx := B.exec
  have hb := B.bytes
  have hr := B.returns
  have hts := atoms_spec (ws := wsX2_emptySlot) B.pre
  have hown : s.vm.findClass RX2 = some m.cls := findClass_of_methodNamed B.named
  have hlocks := B.notSynchronized
  have hl := lv_entry ([.ref A_h]) (n := 2) (Nat.le_of_ble_eq_true rfl)
  rw [lg_entry_eq]
  generalize (lg_sl ([.ref A_h]) ++ List.replicate (2 - (lg_sl ([.ref A_h])).length) Slot.unset).toArray = ls at hl ⊢
  have hl : lv_has ls 2 [(0, .ref A_h)] := hl
  refine w_name (fun Q hQ => ?_)
  unfold m_X2_emptySlot at hm
  refine lv_iconst (v := 0) hx hb dX2_emptySlot_0 (by decide) ?_
  refine lv_istore_n (lv' := [(1, .int (0 : Int32)), (0, .ref A_h)]) hx hb dX2_emptySlot_1 rfl hl (by decide) rfl (fun ls hl => ?_)
  obtain ⟨rl2, hlp, hm⟩ := g_bind hm
  have hE2 : Sum.inr () = rl2 → ∀ (ls : Array Slot), lv_has ls 2 [] → W p l e (headSpec wsX2_emptySlot rm_X2_emptySlot).room s m (([.ref A_h] : List Value).toArray) below meth c s.heap [] 0 0 Q (F0 m 24 ls []) := by
    intro  hq ls hl
    subst hq
    have hm := g_sk_r hm
    have hm := g_k0_s hm
    refine lv_iconst (v := -1) hx hb dX2_emptySlot_24 (by decide) ?_
    cases hm
    subst hQ
    exact W.iret hx hb hr (fun t ht hW => ⟨_, rfl, rfl, ht⟩) (fun _ h => nomatch h) dX2_emptySlot_25
  have hV2 : ∀ v, Sum.inl v = rl2 → v = r0 := by
    intro v hq
    subst hq
    have hm := g_sk_l hm
    exact Option.some.inj hm
  have hL2 : ∀ (n : Nat) (y1 : Int32), g_loop (fun q => m_X2_emptySlot_L2 c_a q) n y1 = some rl2 → ∀ (ls : Array Slot), lv_has ls 2 [(0, .ref A_h), (1, .int y1)] → W p l e (headSpec wsX2_emptySlot rm_X2_emptySlot).room s m (([.ref A_h] : List Value).toArray) below meth c s.heap [] 0 0 Q (F0 m 2 ls []) := by
    intro n
    induction n with
    | zero =>
      intro y1 hm
      exact g_loop_z hm
    | succ n ih =>
      intro y1 hm ls hl
      obtain ⟨q, hm, hy⟩ := g_loop_s hm
      have hm : m_X2_emptySlot_L2 c_a y1 = some q := hm
      unfold m_X2_emptySlot_L2 at hm
      refine lv_iload_n hx hb dX2_emptySlot_2 rfl (lv_at hl 1 rfl) ?_
      refine lv_bipush (v := 6) hx hb dX2_emptySlot_3 (by decide) ?_
      refine lv_icmp_ge (tgt := 24) hx hb dX2_emptySlot_5 (by decide) (fun c3 => ?_) (fun c3 => ?_)
      · have hm := g_t c3 hm
        cases hm
        exact hE2 hy _ (lv_sub hl [] rfl)
      · have hm := g_f c3 hm
        refine lv_aload_n hx hb dX2_emptySlot_8 rfl (lv_at hl 0 rfl) ?_
        refine lv_iload_n hx hb dX2_emptySlot_9 rfl (lv_at hl 1 rfl) ?_
        obtain ⟨x4, ex, hm⟩ := g_bind hm
        refine vp_callSi (W.runV (As := [.int y1]) (rest := []) ⟨hx, hb, hml, hown, hts⟩ (k_X2_nameOf l dC dI A_h A_a K_a c_a y1 _ ex) (cwV 1 hts gX2_emptySlot_X2_nameOf rfl rfl rfl (by decide +kernel) ⟨Nat.le_of_ble_eq_true rfl, Nat.le_of_ble_eq_true rfl⟩) ⟨w_blR, va_recv hK hP (ci := 1) (q0 := 0) rfl rfl, fun U hU hW => ⟨rfl, by rw [hU]; exact hP.sub [0, 1] rfl, va_K.moved hW.alike (hK.sub [0] rfl)⟩⟩ rfl rfl hl.1 rfl (lv_room (Nat.le_of_ble_eq_true rfl)) dX2_emptySlot_10 ⟨Nat.zero_le _, Nat.zero_le _⟩) (fun _ ey => ?_)
        subst ey
        refine lv_if_ne (tgt := 18) hx hb dX2_emptySlot_13 (by decide) (fun c5 => ?_) (fun c5 => ?_)
        · have hm := g_f c5 hm
          refine lv_iinc (v := (y1 + (1 : Int32))) (lv' := [(1, .int (y1 + (1 : Int32))), (0, .ref A_h)]) hx hb dX2_emptySlot_18 hl (k := 1) rfl rfl (by decide) rfl (fun ls hl => ?_)
          refine lv_goto (tgt := 2) hx hb dX2_emptySlot_21 (by decide) ?_
          cases hm
          exact ih _ hy _ (lv_sub hl [1, 0] rfl)
        · have hm := g_t c5 hm
          refine lv_iload_n hx hb dX2_emptySlot_16 rfl (lv_at hl 1 rfl) ?_
          cases hm
          have hq := hV2 _ hy
          cases hq
          subst hQ
          exact W.iret hx hb hr (fun t ht hW => ⟨_, rfl, rfl, ht⟩) (fun _ h => nomatch h) dX2_emptySlot_17
  exact hL2 _ _ hlp _ (lv_sub hl [1, 0] rfl)
theorem hi_X2_wordAt_X2 : ∀ w ∈ wsX20, w ∈ wsX2_wordAt := by decide +kernel
theorem hk_X2_wordAt_9 : Cond.fieldLink RX2 9 "BuddyFiles$Home" "cells" "[I" ∈ wsX2_wordAt := by decide +kernel
abbrev rm_X2_wordAt : Room := { frames := 3, cells := 0, slots := 0, locals := 66 }
set_option maxHeartbeats 4000000 in
set_option maxRecDepth 100000 in
theorem k_X2_wordAt (l : Launch) (dC : Nat → ClassId) (dI : Nat → Nat → Nat) (A_h A_a : Nat) (K_a : ClassId) (c_a : Nat → Int32) (p1 : Int32) (p2 : Int32) (r0 : Int32) (hm : m_X2_wordAt c_a p1 p2 = some r0) : Met l yX2_wordAt wsX2_wordAt rm_X2_wordAt (va_Pc [.ref A_h, .int p1, .int p2] (fun U => va_P (dC, dI) vwCl (wH A_h A_a K_a c_a) U.heap ∧ va_K (dC, dI) vwCl (tH K_a) U)) (vp_Si (fun r => r0 = r)) 0 0 (fun _ => False) := by
  refine Met.ofW (cc := cX2_wordAt) (maxL := 4) (ret := (some .int)) (by decide) rfl ?_
  intro p e s m args below meth c s₁ B hml hv
  obtain ⟨rfl, hP, hK⟩ := hv
  have hx := B.exec
  have hb := B.bytes
  have hr := B.returns
  have hts := atoms_spec (ws := wsX2_wordAt) B.pre
  have hown : s.vm.findClass RX2 = some m.cls := findClass_of_methodNamed B.named
  have hlocks := B.notSynchronized
  have hl := lv_entry ([.ref A_h, .int p1, .int p2]) (n := 4) (Nat.le_of_ble_eq_true rfl)
  rw [lg_entry_eq]
  generalize (lg_sl ([.ref A_h, .int p1, .int p2]) ++ List.replicate (4 - (lg_sl ([.ref A_h, .int p1, .int p2])).length) Slot.unset).toArray = ls at hl ⊢
  have hl : lv_has ls 4 [(0, .ref A_h), (1, .int p1), (2, .int p2)] := hl
  refine w_name (fun Q hQ => ?_)
  unfold m_X2_wordAt at hm
  refine lv_aload_n hx hb dX2_wordAt_0 rfl (lv_at hl 0 rfl) ?_
  refine lv_iload_n hx hb dX2_wordAt_1 rfl (lv_at hl 1 rfl) ?_
  refine lv_iload_n hx hb dX2_wordAt_2 rfl (lv_at hl 2 rfl) ?_
  obtain ⟨x1, ex, hm⟩ := g_bind hm
  refine vp_callSi (W.runV (As := [.int p1, .int p2]) (rest := []) ⟨hx, hb, hml, hown, hts⟩ (k_X2_wordIndex l dC dI A_h A_a K_a c_a p1 p2 _ ex) (cwV 2 hts gX2_wordAt_X2_wordIndex rfl rfl rfl (by decide +kernel) ⟨Nat.le_of_ble_eq_true rfl, Nat.le_of_ble_eq_true rfl⟩) ⟨w_blR, va_recv hK hP (ci := 1) (q0 := 0) rfl rfl, fun U hU hW => ⟨rfl, by rw [hU]; exact hP.sub [0, 1] rfl, va_K.moved hW.alike (hK.sub [0] rfl)⟩⟩ rfl rfl hl.1 rfl (lv_room (Nat.le_of_ble_eq_true rfl)) dX2_wordAt_3 ⟨Nat.zero_le _, Nat.zero_le _⟩) (fun _ ey => ?_)
  subst ey
  refine lv_istore_n (lv' := [(3, .int x1), (0, .ref A_h), (1, .int p1), (2, .int p2)]) hx hb dX2_wordAt_6 rfl hl (by decide) rfl (fun ls hl => ?_)
  refine lv_iload_n hx hb dX2_wordAt_7 rfl (lv_at hl 0 rfl) ?_
  refine lv_iconst (v := -1) hx hb dX2_wordAt_8 (by decide) ?_
  refine lv_icmp_ne (tgt := 16) hx hb dX2_wordAt_9 (by decide) (fun c2 => ?_) (fun c2 => ?_)
  · have hm := g_f c2 hm
    refine lv_aload_n hx hb dX2_wordAt_16 rfl (lv_at hl 1 rfl) ?_
    refine va_get (D := (dC, dI)) (ci := 1) (v := .ref A_a) (C := RX2) (T := TX2) (N := 1) hx hb hts hi_X2_wordAt_X2 hown hK hP 0 rfl rfl 0 (by decide) (hts (Cond.fieldLink RX2 9 "BuddyFiles$Home" "cells" "[I") hk_X2_wordAt_9) (fun _ h9 => h9) rfl dX2_wordAt_17 ?_
    refine lv_bipush (v := 46) hx hb dX2_wordAt_20 (by decide) ?_
    refine lv_iload_n hx hb dX2_wordAt_22 rfl (lv_at hl 0 rfl) ?_
    refine lv_iadd hx hb dX2_wordAt_23 ?_
    obtain ⟨x3, ex, hm⟩ := g_bind hm
    refine w_ald hx hb hK hP 1 0 rfl rfl ex dX2_wordAt_24 ?_
    cases hm
    subst hQ
    exact W.iret hx hb hr (fun t ht hW => ⟨_, rfl, rfl, ht⟩) (fun _ h => nomatch h) dX2_wordAt_25
  · have hm := g_t c2 hm
    refine lv_iconst (v := 0) hx hb dX2_wordAt_12 (by decide) ?_
    refine lv_goto (tgt := 25) hx hb dX2_wordAt_13 (by decide) ?_
    cases hm
    subst hQ
    exact W.iret hx hb hr (fun t ht hW => ⟨_, rfl, rfl, ht⟩) (fun _ h => nomatch h) dX2_wordAt_25
abbrev rm_X2_orderFor : Room := { frames := 0, cells := 0, slots := 0, locals := 0 }
set_option maxHeartbeats 4000000 in
set_option maxRecDepth 100000 in
theorem k_X2_orderFor (l : Launch)  (p0 : Int32) (r0 : Int32) (hm : m_X2_orderFor p0 = some r0) : Met l yX2_orderFor wsX2_orderFor rm_X2_orderFor (va_Pc [.int p0] (fun _ => True)) (vp_Si (fun r => r0 = r)) 0 0 (fun _ => False) := by
  refine Met.ofW (cc := cX2_orderFor) (maxL := 2) (ret := (some .int)) (by decide) rfl ?_
  intro p e s m args below meth c s₁ B hml hv
  obtain ⟨rfl, -⟩ := hv
  have hx := B.exec
  have hb := B.bytes
  have hr := B.returns
  have hts := atoms_spec (ws := wsX2_orderFor) B.pre
  have hown : s.vm.findClass RX2 = some m.cls := findClass_of_methodNamed B.named
  have hlocks := B.notSynchronized
  have hl := lv_entry ([.int p0]) (n := 2) (Nat.le_of_ble_eq_true rfl)
  rw [lg_entry_eq]
  generalize (lg_sl ([.int p0]) ++ List.replicate (2 - (lg_sl ([.int p0])).length) Slot.unset).toArray = ls at hl ⊢
  have hl : lv_has ls 2 [(0, .int p0)] := hl
  refine w_name (fun Q hQ => ?_)
  unfold m_X2_orderFor at hm
  refine lv_iconst (v := 0) hx hb dX2_orderFor_0 (by decide) ?_
  refine lv_istore_n (lv' := [(1, .int (0 : Int32)), (0, .int p0)]) hx hb dX2_orderFor_1 rfl hl (by decide) rfl (fun ls hl => ?_)
  obtain ⟨rl3, hlp, hm⟩ := g_bind hm
  have hE3 : ∀ (z2 : Int32), z2 = rl3 → ∀ (ls : Array Slot), lv_has ls 2 [(1, .int z2)] → W p l e (headSpec wsX2_orderFor rm_X2_orderFor).room s m (([.int p0] : List Value).toArray) below meth c s.heap [] 0 0 Q (F0 m 20 ls []) := by
    intro z2 hq ls hl
    subst hq
    have hm := g_k1_s hm
    refine lv_iload_n hx hb dX2_orderFor_20 rfl (lv_at hl 0 rfl) ?_
    cases hm
    subst hQ
    exact W.iret hx hb hr (fun t ht hW => ⟨_, rfl, rfl, ht⟩) (fun _ h => nomatch h) dX2_orderFor_21
  have hL3 : ∀ (n : Nat) (y1 : Int32), g_loop (fun q => m_X2_orderFor_L2 p0 q) n y1 = some rl3 → ∀ (ls : Array Slot), lv_has ls 2 [(0, .int p0), (1, .int y1)] → W p l e (headSpec wsX2_orderFor rm_X2_orderFor).room s m (([.int p0] : List Value).toArray) below meth c s.heap [] 0 0 Q (F0 m 2 ls []) := by
    intro n
    induction n with
    | zero =>
      intro y1 hm
      exact g_loop_z hm
    | succ n ih =>
      intro y1 hm ls hl
      obtain ⟨q, hm, hy⟩ := g_loop_s hm
      have hm : m_X2_orderFor_L2 p0 y1 = some q := hm
      unfold m_X2_orderFor_L2 at hm
      refine lv_iload_n hx hb dX2_orderFor_2 rfl (lv_at hl 1 rfl) ?_
      refine lv_iconst (v := 5) hx hb dX2_orderFor_3 (by decide) ?_
      refine lv_icmp_ge (tgt := 20) hx hb dX2_orderFor_4 (by decide) (fun c4 => ?_) (fun c4 => ?_)
      · have hm := g_t c4 hm
        cases hm
        exact hE3 _ hy _ (lv_sub hl [1] rfl)
      · have hm := g_f c4 hm
        refine lv_iconst (v := 1) hx hb dX2_orderFor_7 (by decide) ?_
        refine lv_iload_n hx hb dX2_orderFor_8 rfl (lv_at hl 1 rfl) ?_
        refine lv_ishl hx hb dX2_orderFor_9 ?_
        show W _ _ _ _ _ _ _ _ _ _ _ _ _ _ _ (F0 m 10 _ [.int (g_shl (1 : Int32) y1)])
        refine lv_iload_n hx hb dX2_orderFor_10 rfl (lv_at hl 0 rfl) ?_
        refine lv_icmp_ge (tgt := 20) hx hb dX2_orderFor_11 (by decide) (fun c5 => ?_) (fun c5 => ?_)
        · have hm := g_t c5 hm
          cases hm
          exact hE3 _ hy _ (lv_sub hl [1] rfl)
        · have hm := g_f c5 hm
          refine lv_iinc (v := (y1 + (1 : Int32))) (lv' := [(1, .int (y1 + (1 : Int32))), (0, .int p0)]) hx hb dX2_orderFor_14 hl (k := 1) rfl rfl (by decide) rfl (fun ls hl => ?_)
          refine lv_goto (tgt := 2) hx hb dX2_orderFor_17 (by decide) ?_
          cases hm
          exact ih _ hy _ (lv_sub hl [1, 0] rfl)
  exact hL3 _ _ hlp _ (lv_sub hl [1, 0] rfl)
theorem hi_X2_isFreeRun_X2 : ∀ w ∈ wsX20, w ∈ wsX2_isFreeRun := by decide +kernel
theorem hk_X2_isFreeRun_9 : Cond.fieldLink RX2 9 "BuddyFiles$Home" "cells" "[I" ∈ wsX2_isFreeRun := by decide +kernel
abbrev rm_X2_isFreeRun : Room := { frames := 1, cells := 0, slots := 0, locals := 21 }
set_option maxHeartbeats 4000000 in
set_option maxRecDepth 100000 in
theorem k_X2_isFreeRun (l : Launch) (dC : Nat → ClassId) (dI : Nat → Nat → Nat) (A_h A_a : Nat) (K_a : ClassId) (c_a : Nat → Int32) (p1 : Int32) (p2 : Int32) (r0 : Int32) (hm : m_X2_isFreeRun c_a p1 p2 = some r0) : Met l yX2_isFreeRun wsX2_isFreeRun rm_X2_isFreeRun (va_Pc [.ref A_h, .int p1, .int p2] (fun U => va_P (dC, dI) vwCl (wH A_h A_a K_a c_a) U.heap ∧ va_K (dC, dI) vwCl (tH K_a) U)) (vp_Si (fun r => r0 = r)) 0 0 (fun _ => False) := by
  refine Met.ofW (cc := cX2_isFreeRun) (maxL := 5) (ret := (some .boolean)) (by decide) rfl ?_
  intro p e s m args below meth c s₁ B hml hv
  obtain ⟨rfl, hP, hK⟩ := hv
  have hx := B.exec
  have hb := B.bytes
  have hr := B.returns
  have hts := atoms_spec (ws := wsX2_isFreeRun) B.pre
  have hown : s.vm.findClass RX2 = some m.cls := findClass_of_methodNamed B.named
  have hlocks := B.notSynchronized
  have hl := lv_entry ([.ref A_h, .int p1, .int p2]) (n := 5) (Nat.le_of_ble_eq_true rfl)
  rw [lg_entry_eq]
  generalize (lg_sl ([.ref A_h, .int p1, .int p2]) ++ List.replicate (5 - (lg_sl ([.ref A_h, .int p1, .int p2])).length) Slot.unset).toArray = ls at hl ⊢
  have hl : lv_has ls 5 [(0, .ref A_h), (1, .int p1), (2, .int p2)] := hl
  refine w_name (fun Q hQ => ?_)
  unfold m_X2_isFreeRun at hm
  refine lv_aload_n hx hb dX2_isFreeRun_0 rfl (lv_at hl 0 rfl) ?_
  refine va_get (D := (dC, dI)) (ci := 1) (v := .ref A_a) (C := RX2) (T := TX2) (N := 1) hx hb hts hi_X2_isFreeRun_X2 hown hK hP 0 rfl rfl 0 (by decide) (hts (Cond.fieldLink RX2 9 "BuddyFiles$Home" "cells" "[I") hk_X2_isFreeRun_9) (fun _ h9 => h9) rfl dX2_isFreeRun_1 ?_
  refine lv_bipush (v := 45) hx hb dX2_isFreeRun_4 (by decide) ?_
  obtain ⟨x1, ex, hm⟩ := g_bind hm
  refine w_ald hx hb hK hP 1 0 rfl rfl ex dX2_isFreeRun_6 ?_
  refine lv_istore_n (lv' := [(3, .int x1), (0, .ref A_h), (1, .int p1), (2, .int p2)]) hx hb dX2_isFreeRun_7 rfl hl (by decide) rfl (fun ls hl => ?_)
  refine lv_iload_n hx hb dX2_isFreeRun_8 rfl (lv_at hl 0 rfl) ?_
  refine lv_iload_n hx hb dX2_isFreeRun_9 rfl (lv_at hl 2 rfl) ?_
  refine lv_iload_n hx hb dX2_isFreeRun_10 rfl (lv_at hl 3 rfl) ?_
  obtain ⟨x2, ex, hm⟩ := g_bind hm
  refine vp_callSi (W.runS (As := [.int p1, .int p2]) (rest := [.int x1]) ⟨hx, hb, hml, hown, hts⟩ (k_X3_mapBits l  p1 p2 _ ex) (va_cwS 2 hts gX2_isFreeRun_X3_mapBits rfl rfl rfl (by decide +kernel) ⟨Nat.le_of_ble_eq_true rfl, Nat.le_of_ble_eq_true rfl⟩) ⟨w_bl0, fun U hU hW => ⟨rfl, trivial⟩⟩ rfl rfl hl.1 rfl (lv_room (Nat.le_of_ble_eq_true rfl)) dX2_isFreeRun_11 ⟨Nat.zero_le _, Nat.zero_le _⟩) (fun _ ey => ?_)
  subst ey
  refine lv_iand hx hb dX2_isFreeRun_14 ?_
  refine lv_if_eq (tgt := 20) hx hb dX2_isFreeRun_15 (by decide) (fun c3 => ?_) (fun c3 => ?_)
  · have hm := g_t c3 hm
    refine lv_iload_n hx hb dX2_isFreeRun_20 rfl (lv_at hl 3 rfl) ?_
    refine lv_iconst (v := 5) hx hb dX2_isFreeRun_21 (by decide) ?_
    refine lv_icmp_ne (tgt := 27) hx hb dX2_isFreeRun_22 (by decide) (fun c4 => ?_) (fun c4 => ?_)
    · have hm := g_f c4 hm
      refine lv_iload_n hx hb dX2_isFreeRun_27 rfl (lv_at hl 2 rfl) ?_
      refine lv_iconst (v := 2) hx hb dX2_isFreeRun_28 (by decide) ?_
      refine lv_iload_n hx hb dX2_isFreeRun_29 rfl (lv_at hl 3 rfl) ?_
      refine lv_ishl hx hb dX2_isFreeRun_30 ?_
      show W _ _ _ _ _ _ _ _ _ _ _ _ _ _ _ (F0 m 31 _ [.int (g_shl (2 : Int32) p2), .int p1])
      refine lv_ineg hx hb dX2_isFreeRun_31 ?_
      refine lv_iand hx hb dX2_isFreeRun_32 ?_
      refine lv_istore (lv' := [(4, .int (p1 &&& (-(g_shl (2 : Int32) p2)))), (3, .int x1), (0, .ref A_h), (1, .int p1), (2, .int p2)]) hx hb dX2_isFreeRun_33 hl (by decide) rfl (fun ls hl => ?_)
      refine lv_iload_n hx hb dX2_isFreeRun_35 rfl (lv_at hl 1 rfl) ?_
      refine lv_iload hx hb dX2_isFreeRun_36 (lv_at hl 0 rfl) ?_
      refine lv_iload_n hx hb dX2_isFreeRun_38 rfl (lv_at hl 4 rfl) ?_
      refine lv_iconst (v := 1) hx hb dX2_isFreeRun_39 (by decide) ?_
      refine lv_iadd hx hb dX2_isFreeRun_40 ?_
      obtain ⟨x5, ex, hm⟩ := g_bind hm
      refine vp_callSi (W.runS (As := [.int (p1 &&& (-(g_shl (2 : Int32) p2))), .int (p2 + (1 : Int32))]) (rest := [.int x1]) ⟨hx, hb, hml, hown, hts⟩ (k_X3_mapBits l  (p1 &&& (-(g_shl (2 : Int32) p2))) (p2 + (1 : Int32)) _ ex) (va_cwS 2 hts gX2_isFreeRun_X3_mapBits rfl rfl rfl (by decide +kernel) ⟨Nat.le_of_ble_eq_true rfl, Nat.le_of_ble_eq_true rfl⟩) ⟨w_bl0, fun U hU hW => ⟨rfl, trivial⟩⟩ rfl rfl hl.1 rfl (lv_room (Nat.le_of_ble_eq_true rfl)) dX2_isFreeRun_41 ⟨Nat.zero_le _, Nat.zero_le _⟩) (fun _ ey => ?_)
      subst ey
      refine lv_iand hx hb dX2_isFreeRun_44 ?_
      refine lv_if_eq (tgt := 52) hx hb dX2_isFreeRun_45 (by decide) (fun c6 => ?_) (fun c6 => ?_)
      · have hm := g_t c6 hm
        refine lv_iconst (v := 0) hx hb dX2_isFreeRun_52 (by decide) ?_
        cases hm
        subst hQ
        exact W.zret hx hb hr rfl (fun t ht hW => ⟨_, rfl, rfl, ht⟩) (fun _ h => nomatch h) dX2_isFreeRun_53
      · have hm := g_f c6 hm
        refine lv_iconst (v := 1) hx hb dX2_isFreeRun_48 (by decide) ?_
        refine lv_goto (tgt := 53) hx hb dX2_isFreeRun_49 (by decide) ?_
        cases hm
        subst hQ
        exact W.zret hx hb hr rfl (fun t ht hW => ⟨_, rfl, rfl, ht⟩) (fun _ h => nomatch h) dX2_isFreeRun_53
    · have hm := g_t c4 hm
      refine lv_iconst (v := 1) hx hb dX2_isFreeRun_25 (by decide) ?_
      cases hm
      subst hQ
      exact W.zret hx hb hr rfl (fun t ht hW => ⟨_, rfl, rfl, ht⟩) (fun _ h => nomatch h) dX2_isFreeRun_26
  · have hm := g_f c3 hm
    refine lv_iconst (v := 0) hx hb dX2_isFreeRun_18 (by decide) ?_
    cases hm
    subst hQ
    exact W.zret hx hb hr rfl (fun t ht hW => ⟨_, rfl, rfl, ht⟩) (fun _ h => nomatch h) dX2_isFreeRun_19
abbrev rm_X2_freeRunsOf : Room := { frames := 2, cells := 0, slots := 0, locals := 45 }
set_option maxHeartbeats 4000000 in
set_option maxRecDepth 100000 in
theorem k_X2_freeRunsOf (l : Launch) (dC : Nat → ClassId) (dI : Nat → Nat → Nat) (A_h A_a : Nat) (K_a : ClassId) (c_a : Nat → Int32) (p1 : Int32) (r0 : Int32) (hm : m_X2_freeRunsOf c_a p1 = some r0) : Met l yX2_freeRunsOf wsX2_freeRunsOf rm_X2_freeRunsOf (va_Pc [.ref A_h, .int p1] (fun U => va_P (dC, dI) vwCl (wH A_h A_a K_a c_a) U.heap ∧ va_K (dC, dI) vwCl (tH K_a) U)) (vp_Si (fun r => r0 = r)) 0 0 (fun _ => False) := by
  refine Met.ofW (cc := cX2_freeRunsOf) (maxL := 4) (ret := (some .int)) (by decide) rfl ?_
  intro p e s m args below meth c s₁ B hml hv
  obtain ⟨rfl, hP, hK⟩ := hv
  have hx := B.exec
  have hb := B.bytes
  have hr := B.returns
  have hts := atoms_spec (ws := wsX2_freeRunsOf) B.pre
  have hown : s.vm.findClass RX2 = some m.cls := findClass_of_methodNamed B.named
  have hlocks := B.notSynchronized
  have hl := lv_entry ([.ref A_h, .int p1]) (n := 4) (Nat.le_of_ble_eq_true rfl)
  rw [lg_entry_eq]
  generalize (lg_sl ([.ref A_h, .int p1]) ++ List.replicate (4 - (lg_sl ([.ref A_h, .int p1])).length) Slot.unset).toArray = ls at hl ⊢
  have hl : lv_has ls 4 [(0, .ref A_h), (1, .int p1)] := hl
  refine w_name (fun Q hQ => ?_)
  unfold m_X2_freeRunsOf at hm
  refine lv_iconst (v := 0) hx hb dX2_freeRunsOf_0 (by decide) ?_
  refine lv_istore_n (lv' := [(2, .int (0 : Int32)), (0, .ref A_h), (1, .int p1)]) hx hb dX2_freeRunsOf_1 rfl hl (by decide) rfl (fun ls hl => ?_)
  refine lv_iconst (v := 0) hx hb dX2_freeRunsOf_2 (by decide) ?_
  refine lv_istore_n (lv' := [(3, .int (0 : Int32)), (2, .int (0 : Int32)), (0, .ref A_h), (1, .int p1)]) hx hb dX2_freeRunsOf_3 rfl hl (by decide) rfl (fun ls hl => ?_)
  obtain ⟨rl4, hlp, hm⟩ := g_bind hm
  have hE4 : ∀ (z3 : Int32), z3 = rl4 → ∀ (ls : Array Slot), lv_has ls 4 [(2, .int z3)] → W p l e (headSpec wsX2_freeRunsOf rm_X2_freeRunsOf).room s m (([.ref A_h, .int p1] : List Value).toArray) below meth c s.heap [] 0 0 Q (F0 m 32 ls []) := by
    intro z3 hq ls hl
    subst hq
    have hm := g_k1_s hm
    refine lv_iload_n hx hb dX2_freeRunsOf_32 rfl (lv_at hl 0 rfl) ?_
    cases hm
    subst hQ
    exact W.iret hx hb hr (fun t ht hW => ⟨_, rfl, rfl, ht⟩) (fun _ h => nomatch h) dX2_freeRunsOf_33
  have hL4 : ∀ (n : Nat) (y1 : Int32) (y2 : Int32), g_loop (fun q => m_X2_freeRunsOf_L4 p1 c_a q.1 q.2) n (y1, y2) = some rl4 → ∀ (ls : Array Slot), lv_has ls 4 [(0, .ref A_h), (1, .int p1), (2, .int y1), (3, .int y2)] → W p l e (headSpec wsX2_freeRunsOf rm_X2_freeRunsOf).room s m (([.ref A_h, .int p1] : List Value).toArray) below meth c s.heap [] 0 0 Q (F0 m 4 ls []) := by
    intro n
    induction n with
    | zero =>
      intro y1 y2 hm
      exact g_loop_z hm
    | succ n ih =>
      intro y1 y2 hm ls hl
      obtain ⟨q, hm, hy⟩ := g_loop_s hm
      have hm : m_X2_freeRunsOf_L4 p1 c_a y1 y2 = some q := hm
      unfold m_X2_freeRunsOf_L4 at hm
      refine lv_iload_n hx hb dX2_freeRunsOf_4 rfl (lv_at hl 3 rfl) ?_
      refine lv_bipush (v := 32) hx hb dX2_freeRunsOf_5 (by decide) ?_
      refine lv_iload_n hx hb dX2_freeRunsOf_7 rfl (lv_at hl 1 rfl) ?_
      refine lv_ishr hx hb dX2_freeRunsOf_8 ?_
      show W _ _ _ _ _ _ _ _ _ _ _ _ _ _ _ (F0 m 9 _ [.int (g_shr (32 : Int32) p1), .int y2])
      refine lv_icmp_ge (tgt := 32) hx hb dX2_freeRunsOf_9 (by decide) (fun c5 => ?_) (fun c5 => ?_)
      · have hm := g_t c5 hm
        cases hm
        exact hE4 _ hy _ (lv_sub hl [2] rfl)
      · have hm := g_f c5 hm
        refine lv_aload_n hx hb dX2_freeRunsOf_12 rfl (lv_at hl 0 rfl) ?_
        refine lv_iload_n hx hb dX2_freeRunsOf_13 rfl (lv_at hl 3 rfl) ?_
        refine lv_iload_n hx hb dX2_freeRunsOf_14 rfl (lv_at hl 1 rfl) ?_
        refine lv_ishl hx hb dX2_freeRunsOf_15 ?_
        show W _ _ _ _ _ _ _ _ _ _ _ _ _ _ _ (F0 m 16 _ [.int (g_shl y2 p1), .ref A_h])
        refine lv_iload_n hx hb dX2_freeRunsOf_16 rfl (lv_at hl 1 rfl) ?_
        obtain ⟨x6, ex, hm⟩ := g_bind hm
        refine vp_callSi (W.runV (As := [.int (g_shl y2 p1), .int p1]) (rest := []) ⟨hx, hb, hml, hown, hts⟩ (k_X2_isFreeRun l dC dI A_h A_a K_a c_a (g_shl y2 p1) p1 _ ex) (cwV 2 hts gX2_freeRunsOf_X2_isFreeRun rfl rfl rfl (by decide +kernel) ⟨Nat.le_of_ble_eq_true rfl, Nat.le_of_ble_eq_true rfl⟩) ⟨w_blR, va_recv hK hP (ci := 1) (q0 := 0) rfl rfl, fun U hU hW => ⟨rfl, by rw [hU]; exact hP.sub [0, 1] rfl, va_K.moved hW.alike (hK.sub [0] rfl)⟩⟩ rfl rfl hl.1 rfl (lv_room (Nat.le_of_ble_eq_true rfl)) dX2_freeRunsOf_17 ⟨Nat.zero_le _, Nat.zero_le _⟩) (fun _ ey => ?_)
        subst ey
        refine lv_if_eq (tgt := 26) hx hb dX2_freeRunsOf_20 (by decide) (fun c7 => ?_) (fun c7 => ?_)
        · have hm := g_t c7 hm
          refine lv_iinc (v := (y2 + (1 : Int32))) (lv' := [(3, .int (y2 + (1 : Int32))), (0, .ref A_h), (1, .int p1), (2, .int y1)]) hx hb dX2_freeRunsOf_26 hl (k := 3) rfl rfl (by decide) rfl (fun ls hl => ?_)
          refine lv_goto (tgt := 4) hx hb dX2_freeRunsOf_29 (by decide) ?_
          cases hm
          exact ih _ _ hy _ (lv_sub hl [1, 2, 3, 0] rfl)
        · have hm := g_f c7 hm
          refine lv_iinc (v := (y1 + (1 : Int32))) (lv' := [(2, .int (y1 + (1 : Int32))), (0, .ref A_h), (1, .int p1), (3, .int y2)]) hx hb dX2_freeRunsOf_23 hl (k := 2) rfl rfl (by decide) rfl (fun ls hl => ?_)
          refine lv_iinc (v := (y2 + (1 : Int32))) (lv' := [(3, .int (y2 + (1 : Int32))), (2, .int (y1 + (1 : Int32))), (0, .ref A_h), (1, .int p1)]) hx hb dX2_freeRunsOf_26 hl (k := 3) rfl rfl (by decide) rfl (fun ls hl => ?_)
          refine lv_goto (tgt := 4) hx hb dX2_freeRunsOf_29 (by decide) ?_
          cases hm
          exact ih _ _ hy _ (lv_sub hl [2, 3, 1, 0] rfl)
  exact hL4 _ _ _ hlp _ (lv_sub hl [2, 3, 1, 0] rfl)
