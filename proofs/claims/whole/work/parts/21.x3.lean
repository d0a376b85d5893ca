abbrev rm_X3_cellOf : Room := { frames := 0, cells := 0, slots := 0, locals := 0 }
set_option maxHeartbeats 4000000 in
set_option maxRecDepth 100000 in
theorem k_X3_cellOf (l : Launch)  (p0 : Int32) (p1 : Int32) (r0 : Int32) (hm : m_X3_cellOf p0 p1 = some r0) : Met l yX3_cellOf wsX3_cellOf rm_X3_cellOf (va_Pc [.int p0, .int p1] (fun _ => True)) (vp_Si (fun r => r0 = r)) 0 0 (fun _ => False) := by
  refine Met.ofW (cc := cX3_cellOf) (maxL := 2) (ret := (some .int)) (by decide) rfl ?_
  intro p e s m args below meth c s₁ B hml hv
  obtain ⟨rfl, -⟩ := hv
  have hx := B.exec
  have hb := B.bytes
  have hr := B.returns
  have hts := atoms_spec (ws := wsX3_cellOf) B.pre
  have hown : s.vm.findClass RX3 = some m.cls := findClass_of_methodNamed B.named
  have hlocks := B.notSynchronized
  have hl := lv_entry ([.int p0, .int p1]) (n := 2) (Nat.le_of_ble_eq_true rfl)
  rw [lg_entry_eq]
  generalize (lg_sl ([.int p0, .int p1]) ++ List.replicate (2 - (lg_sl ([.int p0, .int p1])).length) Slot.unset).toArray = ls at hl ⊢
  have hl : lv_has ls 2 [(0, .int p0), (1, .int p1)] := hl
  refine w_name (fun Q hQ => ?_)
  unfold m_X3_cellOf at hm
  refine lv_iconst (v := 1) hx hb dX3_cellOf_0 (by decide) ?_
  refine lv_iload_n hx hb dX3_cellOf_1 rfl (lv_at hl 0 rfl) ?_
  refine lv_iadd hx hb dX3_cellOf_2 ?_
  refine lv_bipush (v := 32) hx hb dX3_cellOf_3 (by decide) ?_
  refine lv_iload_n hx hb dX3_cellOf_5 rfl (lv_at hl 1 rfl) ?_
  refine lv_imul hx hb dX3_cellOf_6 ?_
  refine lv_iadd hx hb dX3_cellOf_7 ?_
  cases hm
  subst hQ
  exact W.iret hx hb hr (fun t ht hW => ⟨_, rfl, rfl, ht⟩) (fun _ h => nomatch h) dX3_cellOf_8
abbrev rm_X3_firstOf : Room := { frames := 0, cells := 0, slots := 0, locals := 0 }
set_option maxHeartbeats 4000000 in
set_option maxRecDepth 100000 in
theorem k_X3_firstOf (l : Launch)  (p0 : Int32) (r0 : Int32) (hm : m_X3_firstOf p0 = some r0) : Met l yX3_firstOf wsX3_firstOf rm_X3_firstOf (va_Pc [.int p0] (fun _ => True)) (vp_Si (fun r => r0 = r)) 0 0 (fun _ => False) := by
  refine Met.ofW (cc := cX3_firstOf) (maxL := 1) (ret := (some .int)) (by decide) rfl ?_
  intro p e s m args below meth c s₁ B hml hv
  obtain ⟨rfl, -⟩ := hv
  have hx := B.exec
  have hb := B.bytes
  have hr := B.returns
  have hts := atoms_spec (ws := wsX3_firstOf) B.pre
  have hown : s.vm.findClass RX3 = some m.cls := findClass_of_methodNamed B.named
  have hlocks := B.notSynchronized
  have hl := lv_entry ([.int p0]) (n := 1) (Nat.le_of_ble_eq_true rfl)
  rw [lg_entry_eq]
  generalize (lg_sl ([.int p0]) ++ List.replicate (1 - (lg_sl ([.int p0])).length) Slot.unset).toArray = ls at hl ⊢
  have hl : lv_has ls 1 [(0, .int p0)] := hl
  refine w_name (fun Q hQ => ?_)
  unfold m_X3_firstOf at hm
  refine lv_iload_n hx hb dX3_firstOf_0 rfl (lv_at hl 0 rfl) ?_
  refine lv_iconst (v := 1) hx hb dX3_firstOf_1 (by decide) ?_
  refine lv_isub hx hb dX3_firstOf_2 ?_
  refine lv_bipush (v := 32) hx hb dX3_firstOf_3 (by decide) ?_
  refine lv_irem hx hb dX3_firstOf_5 (by decide) ?_
  show W _ _ _ _ _ _ _ _ _ _ _ _ _ _ _ (F0 m 6 _ [.int (g_modc (p0 - (1 : Int32)) (32 : Int32))])
  cases hm
  subst hQ
  exact W.iret hx hb hr (fun t ht hW => ⟨_, rfl, rfl, ht⟩) (fun _ h => nomatch h) dX3_firstOf_6
abbrev rm_X3_orderOf : Room := { frames := 0, cells := 0, slots := 0, locals := 0 }
set_option maxHeartbeats 4000000 in
set_option maxRecDepth 100000 in
theorem k_X3_orderOf (l : Launch)  (p0 : Int32) (r0 : Int32) (hm : m_X3_orderOf p0 = some r0) : Met l yX3_orderOf wsX3_orderOf rm_X3_orderOf (va_Pc [.int p0] (fun _ => True)) (vp_Si (fun r => r0 = r)) 0 0 (fun _ => False) := by
  refine Met.ofW (cc := cX3_orderOf) (maxL := 1) (ret := (some .int)) (by decide) rfl ?_
  intro p e s m args below meth c s₁ B hml hv
  obtain ⟨rfl, -⟩ := hv
  have hx := B.exec
  have hb := B.bytes
  have hr := B.returns
  have hts := atoms_spec (ws := wsX3_orderOf) B.pre
  have hown : s.vm.findClass RX3 = some m.cls := findClass_of_methodNamed B.named
  have hlocks := B.notSynchronized
  have hl := lv_entry ([.int p0]) (n := 1) (Nat.le_of_ble_eq_true rfl)
  rw [lg_entry_eq]
  generalize (lg_sl ([.int p0]) ++ List.replicate (1 - (lg_sl ([.int p0])).length) Slot.unset).toArray = ls at hl ⊢
  have hl : lv_has ls 1 [(0, .int p0)] := hl
  refine w_name (fun Q hQ => ?_)
  unfold m_X3_orderOf at hm
  refine lv_iload_n hx hb dX3_orderOf_0 rfl (lv_at hl 0 rfl) ?_
  refine lv_iconst (v := 1) hx hb dX3_orderOf_1 (by decide) ?_
  refine lv_isub hx hb dX3_orderOf_2 ?_
  refine lv_bipush (v := 32) hx hb dX3_orderOf_3 (by decide) ?_
  refine lv_idiv hx hb dX3_orderOf_5 (by decide) ?_
  cases hm
  subst hQ
  exact W.iret hx hb hr (fun t ht hW => ⟨_, rfl, rfl, ht⟩) (fun _ h => nomatch h) dX3_orderOf_6
abbrev rm_X3_blocksOf : Room := { frames := 1, cells := 0, slots := 0, locals := 20 }
set_option maxHeartbeats 4000000 in
set_option maxRecDepth 100000 in
theorem k_X3_blocksOf (l : Launch)  (p0 : Int32) (r0 : Int32) (hm : m_X3_blocksOf p0 = some r0) : Met l yX3_blocksOf wsX3_blocksOf rm_X3_blocksOf (va_Pc [.int p0] (fun _ => True)) (vp_Si (fun r => r0 = r)) 0 0 (fun _ => False) := by
  refine Met.ofW (cc := cX3_blocksOf) (maxL := 1) (ret := (some .int)) (by decide) rfl ?_
  intro p e s m args below meth c s₁ B hml hv
  obtain ⟨rfl, -⟩ := hv
  have hx := B.exec
  have hb := B.bytes
  have hr := B.returns
  have hts := atoms_spec (ws := wsX3_blocksOf) B.pre
  have hown : s.vm.findClass RX3 = some m.cls := findClass_of_methodNamed B.named
  have hlocks := B.notSynchronized
  have hl := lv_entry ([.int p0]) (n := 1) (Nat.le_of_ble_eq_true rfl)
  rw [lg_entry_eq]
  generalize (lg_sl ([.int p0]) ++ List.replicate (1 - (lg_sl ([.int p0])).length) Slot.unset).toArray = ls at hl ⊢
  have hl : lv_has ls 1 [(0, .int p0)] := hl
  refine w_name (fun Q hQ => ?_)
  unfold m_X3_blocksOf at hm
  refine lv_iload_n hx hb dX3_blocksOf_0 rfl (lv_at hl 0 rfl) ?_
  refine lv_if_ne (tgt := 8) hx hb dX3_blocksOf_1 (by decide) (fun c1 => ?_) (fun c1 => ?_)
  · have hm := g_f c1 hm
    refine lv_iconst (v := 1) hx hb dX3_blocksOf_8 (by decide) ?_
    refine lv_iload_n hx hb dX3_blocksOf_9 rfl (lv_at hl 0 rfl) ?_
    obtain ⟨x2, ex, hm⟩ := g_bind hm
    refine vp_callSi (W.runS (As := [.int p0]) (rest := [.int (1 : Int32)]) ⟨hx, hb, hml, hown, hts⟩ (k_X3_orderOf l  p0 _ ex) (va_cwS 1 hts gX3_blocksOf_X3_orderOf rfl rfl rfl (by decide +kernel) ⟨Nat.le_of_ble_eq_true rfl, Nat.le_of_ble_eq_true rfl⟩) ⟨w_bl0, fun U hU hW => ⟨rfl, trivial⟩⟩ rfl rfl hl.1 rfl (lv_room (Nat.le_of_ble_eq_true rfl)) dX3_blocksOf_10 ⟨Nat.zero_le _, Nat.zero_le _⟩) (fun _ ey => ?_)
    subst ey
    refine lv_ishl hx hb dX3_blocksOf_13 ?_
    show W _ _ _ _ _ _ _ _ _ _ _ _ _ _ _ (F0 m 14 _ [.int (g_shl (1 : Int32) x2)])
    cases hm
    subst hQ
    exact W.iret hx hb hr (fun t ht hW => ⟨_, rfl, rfl, ht⟩) (fun _ h => nomatch h) dX3_blocksOf_14
  · have hm := g_t c1 hm
    refine lv_iconst (v := 0) hx hb dX3_blocksOf_4 (by decide) ?_
    refine lv_goto (tgt := 14) hx hb dX3_blocksOf_5 (by decide) ?_
    cases hm
    subst hQ
    exact W.iret hx hb hr (fun t ht hW => ⟨_, rfl, rfl, ht⟩) (fun _ h => nomatch h) dX3_blocksOf_14
abbrev rm_X3_isRun : Room := { frames := 2, cells := 0, slots := 0, locals := 40 }
set_option maxHeartbeats 4000000 in
set_option maxRecDepth 100000 in
theorem k_X3_isRun (l : Launch)  (p0 : Int32) (r0 : Int32) (hm : m_X3_isRun p0 = some r0) : Met l yX3_isRun wsX3_isRun rm_X3_isRun (va_Pc [.int p0] (fun _ => True)) (vp_Si (fun r => r0 = r)) 0 0 (fun _ => False) := by
  refine Met.ofW (cc := cX3_isRun) (maxL := 1) (ret := (some .boolean)) (by decide) rfl ?_
  intro p e s m args below meth c s₁ B hml hv
  obtain ⟨rfl, -⟩ := hv
  have hx := B.exec
  have hb := B.bytes
  have hr := B.returns
  have hts := atoms_spec (ws := wsX3_isRun) B.pre
  have hown : s.vm.findClass RX3 = some m.cls := findClass_of_methodNamed B.named
  have hlocks := B.notSynchronized
  have hl := lv_entry ([.int p0]) (n := 1) (Nat.le_of_ble_eq_true rfl)
  rw [lg_entry_eq]
  generalize (lg_sl ([.int p0]) ++ List.replicate (1 - (lg_sl ([.int p0])).length) Slot.unset).toArray = ls at hl ⊢
  have hl : lv_has ls 1 [(0, .int p0)] := hl
  refine w_name (fun Q hQ => ?_)
  unfold m_X3_isRun at hm
  refine lv_iload_n hx hb dX3_isRun_0 rfl (lv_at hl 0 rfl) ?_
  refine lv_iconst (v := 1) hx hb dX3_isRun_1 (by decide) ?_
  refine lv_icmp_lt (tgt := 14) hx hb dX3_isRun_2 (by decide) (fun c1 => ?_) (fun c1 => ?_)
  · have hm := g_t c1 hm
    refine lv_iconst (v := 0) hx hb dX3_isRun_14 (by decide) ?_
    cases hm
    subst hQ
    exact W.zret hx hb hr rfl (fun t ht hW => ⟨_, rfl, rfl, ht⟩) (fun _ h => nomatch h) dX3_isRun_15
  · have hm := g_f c1 hm
    refine lv_iload_n hx hb dX3_isRun_5 rfl (lv_at hl 0 rfl) ?_
    refine lv_iconst (v := 0) hx hb dX3_isRun_6 (by decide) ?_
    refine lv_iconst (v := 5) hx hb dX3_isRun_7 (by decide) ?_
    obtain ⟨x2, ex, hm⟩ := g_bind hm
    refine vp_callSi (W.runS (As := [.int (0 : Int32), .int (5 : Int32)]) (rest := [.int p0]) ⟨hx, hb, hml, hown, hts⟩ (k_X3_cellOf l  (0 : Int32) (5 : Int32) _ ex) (va_cwS 2 hts gX3_isRun_X3_cellOf rfl rfl rfl (by decide +kernel) ⟨Nat.le_of_ble_eq_true rfl, Nat.le_of_ble_eq_true rfl⟩) ⟨w_bl0, fun U hU hW => ⟨rfl, trivial⟩⟩ rfl rfl hl.1 rfl (lv_room (Nat.le_of_ble_eq_true rfl)) dX3_isRun_8 ⟨Nat.zero_le _, Nat.zero_le _⟩) (fun _ ey => ?_)
    subst ey
    refine lv_icmp_le (tgt := 16) hx hb dX3_isRun_11 (by decide) (fun c3 => ?_) (fun c3 => ?_)
    · have hm := g_t c3 hm
      refine lv_iload_n hx hb dX3_isRun_16 rfl (lv_at hl 0 rfl) ?_
      obtain ⟨x4, ex, hm⟩ := g_bind hm
      refine vp_callSi (W.runS (As := [.int p0]) (rest := []) ⟨hx, hb, hml, hown, hts⟩ (k_X3_firstOf l  p0 _ ex) (va_cwS 1 hts gX3_isRun_X3_firstOf rfl rfl rfl (by decide +kernel) ⟨Nat.le_of_ble_eq_true rfl, Nat.le_of_ble_eq_true rfl⟩) ⟨w_bl0, fun U hU hW => ⟨rfl, trivial⟩⟩ rfl rfl hl.1 rfl (lv_room (Nat.le_of_ble_eq_true rfl)) dX3_isRun_17 ⟨Nat.zero_le _, Nat.zero_le _⟩) (fun _ ey => ?_)
      subst ey
      refine lv_iload_n hx hb dX3_isRun_20 rfl (lv_at hl 0 rfl) ?_
      obtain ⟨x5, ex, hm⟩ := g_bind hm
      refine vp_callSi (W.runS (As := [.int p0]) (rest := [.int x4]) ⟨hx, hb, hml, hown, hts⟩ (k_X3_blocksOf l  p0 _ ex) (va_cwS 1 hts gX3_isRun_X3_blocksOf rfl rfl rfl (by decide +kernel) ⟨Nat.le_of_ble_eq_true rfl, Nat.le_of_ble_eq_true rfl⟩) ⟨w_bl0, fun U hU hW => ⟨rfl, trivial⟩⟩ rfl rfl hl.1 rfl (lv_room (Nat.le_of_ble_eq_true rfl)) dX3_isRun_21 ⟨Nat.zero_le _, Nat.zero_le _⟩) (fun _ ey => ?_)
      subst ey
      refine lv_iconst (v := 1) hx hb dX3_isRun_24 (by decide) ?_
      refine lv_isub hx hb dX3_isRun_25 ?_
      refine lv_iand hx hb dX3_isRun_26 ?_
      refine lv_if_ne (tgt := 34) hx hb dX3_isRun_27 (by decide) (fun c6 => ?_) (fun c6 => ?_)
      · have hm := g_f c6 hm
        refine lv_iconst (v := 0) hx hb dX3_isRun_34 (by decide) ?_
        cases hm
        subst hQ
        exact W.zret hx hb hr rfl (fun t ht hW => ⟨_, rfl, rfl, ht⟩) (fun _ h => nomatch h) dX3_isRun_35
      · have hm := g_t c6 hm
        refine lv_iconst (v := 1) hx hb dX3_isRun_30 (by decide) ?_
        refine lv_goto (tgt := 35) hx hb dX3_isRun_31 (by decide) ?_
        cases hm
        subst hQ
        exact W.zret hx hb hr rfl (fun t ht hW => ⟨_, rfl, rfl, ht⟩) (fun _ h => nomatch h) dX3_isRun_35
    · have hm := g_f c3 hm
      refine lv_iconst (v := 0) hx hb dX3_isRun_14 (by decide) ?_
      cases hm
      subst hQ
      exact W.zret hx hb hr rfl (fun t ht hW => ⟨_, rfl, rfl, ht⟩) (fun _ h => nomatch h) dX3_isRun_15
abbrev rm_X3_mapBits : Room := { frames := 0, cells := 0, slots := 0, locals := 0 }
set_option maxHeartbeats 4000000 in
set_option maxRecDepth 100000 in
theorem k_X3_mapBits (l : Launch)  (p0 : Int32) (p1 : Int32) (r0 : Int32) (hm : m_X3_mapBits p0 p1 = some r0) : Met l yX3_mapBits wsX3_mapBits rm_X3_mapBits (va_Pc [.int p0, .int p1] (fun _ => True)) (vp_Si (fun r => r0 = r)) 0 0 (fun _ => False) := by
  refine Met.ofW (cc := cX3_mapBits) (maxL := 2) (ret := (some .int)) (by decide) rfl ?_
  intro p e s m args below meth c s₁ B hml hv
  obtain ⟨rfl, -⟩ := hv
  have hx := B.exec
  have hb := B.bytes
  have hr := B.returns
  have hts := atoms_spec (ws := wsX3_mapBits) B.pre
  have hown : s.vm.findClass RX3 = some m.cls := findClass_of_methodNamed B.named
  have hlocks := B.notSynchronized
  have hl := lv_entry ([.int p0, .int p1]) (n := 2) (Nat.le_of_ble_eq_true rfl)
  rw [lg_entry_eq]
  generalize (lg_sl ([.int p0, .int p1]) ++ List.replicate (2 - (lg_sl ([.int p0, .int p1])).length) Slot.unset).toArray = ls at hl ⊢
  have hl : lv_has ls 2 [(0, .int p0), (1, .int p1)] := hl
  refine w_name (fun Q hQ => ?_)
  unfold m_X3_mapBits at hm
  refine lv_iconst (v := -1) hx hb dX3_mapBits_0 (by decide) ?_
  refine lv_bipush (v := 32) hx hb dX3_mapBits_1 (by decide) ?_
  refine lv_iconst (v := 1) hx hb dX3_mapBits_3 (by decide) ?_
  refine lv_iload_n hx hb dX3_mapBits_4 rfl (lv_at hl 1 rfl) ?_
  refine lv_ishl hx hb dX3_mapBits_5 ?_
  show W _ _ _ _ _ _ _ _ _ _ _ _ _ _ _ (F0 m 6 _ [.int (g_shl (1 : Int32) p1), .int (32 : Int32), .int (-1 : Int32)])
  refine lv_isub hx hb dX3_mapBits_6 ?_
  refine lv_iushr (v := (g_ushr (-1 : Int32) ((32 : Int32) - (g_shl (1 : Int32) p1)))) hx hb dX3_mapBits_7 rfl ?_
  refine lv_iload_n hx hb dX3_mapBits_8 rfl (lv_at hl 0 rfl) ?_
  refine lv_ishl hx hb dX3_mapBits_9 ?_
  show W _ _ _ _ _ _ _ _ _ _ _ _ _ _ _ (F0 m 10 _ [.int (g_shl (g_ushr (-1 : Int32) ((32 : Int32) - (g_shl (1 : Int32) p1))) p0)])
  cases hm
  subst hQ
  exact W.iret hx hb hr (fun t ht hW => ⟨_, rfl, rfl, ht⟩) (fun _ h => nomatch h) dX3_mapBits_10
abbrev rm_X3_bitsOf : Room := { frames := 1, cells := 0, slots := 0, locals := 21 }
set_option maxHeartbeats 4000000 in
set_option maxRecDepth 100000 in
theorem k_X3_bitsOf (l : Launch)  (p0 : Int32) (r0 : Int32) (hm : m_X3_bitsOf p0 = some r0) : Met l yX3_bitsOf wsX3_bitsOf rm_X3_bitsOf (va_Pc [.int p0] (fun _ => True)) (vp_Si (fun r => r0 = r)) 0 0 (fun _ => False) := by
  refine Met.ofW (cc := cX3_bitsOf) (maxL := 1) (ret := (some .int)) (by decide) rfl ?_
  intro p e s m args below meth c s₁ B hml hv
  obtain ⟨rfl, -⟩ := hv
  have hx := B.exec
  have hb := B.bytes
  have hr := B.returns
  have hts := atoms_spec (ws := wsX3_bitsOf) B.pre
  have hown : s.vm.findClass RX3 = some m.cls := findClass_of_methodNamed B.named
  have hlocks := B.notSynchronized
  have hl := lv_entry ([.int p0]) (n := 1) (Nat.le_of_ble_eq_true rfl)
  rw [lg_entry_eq]
  generalize (lg_sl ([.int p0]) ++ List.replicate (1 - (lg_sl ([.int p0])).length) Slot.unset).toArray = ls at hl ⊢
  have hl : lv_has ls 1 [(0, .int p0)] := hl
  refine w_name (fun Q hQ => ?_)
  unfold m_X3_bitsOf at hm
  refine lv_iload_n hx hb dX3_bitsOf_0 rfl (lv_at hl 0 rfl) ?_
  refine lv_if_ne (tgt := 8) hx hb dX3_bitsOf_1 (by decide) (fun c1 => ?_) (fun c1 => ?_)
  · have hm := g_f c1 hm
    refine lv_iload_n hx hb dX3_bitsOf_8 rfl (lv_at hl 0 rfl) ?_
    obtain ⟨x2, ex, hm⟩ := g_bind hm
    refine vp_callSi (W.runS (As := [.int p0]) (rest := []) ⟨hx, hb, hml, hown, hts⟩ (k_X3_firstOf l  p0 _ ex) (va_cwS 1 hts gX3_bitsOf_X3_firstOf rfl rfl rfl (by decide +kernel) ⟨Nat.le_of_ble_eq_true rfl, Nat.le_of_ble_eq_true rfl⟩) ⟨w_bl0, fun U hU hW => ⟨rfl, trivial⟩⟩ rfl rfl hl.1 rfl (lv_room (Nat.le_of_ble_eq_true rfl)) dX3_bitsOf_9 ⟨Nat.zero_le _, Nat.zero_le _⟩) (fun _ ey => ?_)
    subst ey
    refine lv_iload_n hx hb dX3_bitsOf_12 rfl (lv_at hl 0 rfl) ?_
    obtain ⟨x3, ex, hm⟩ := g_bind hm
    refine vp_callSi (W.runS (As := [.int p0]) (rest := [.int x2]) ⟨hx, hb, hml, hown, hts⟩ (k_X3_orderOf l  p0 _ ex) (va_cwS 1 hts gX3_bitsOf_X3_orderOf rfl rfl rfl (by decide +kernel) ⟨Nat.le_of_ble_eq_true rfl, Nat.le_of_ble_eq_true rfl⟩) ⟨w_bl0, fun U hU hW => ⟨rfl, trivial⟩⟩ rfl rfl hl.1 rfl (lv_room (Nat.le_of_ble_eq_true rfl)) dX3_bitsOf_13 ⟨Nat.zero_le _, Nat.zero_le _⟩) (fun _ ey => ?_)
    subst ey
    obtain ⟨x4, ex, hm⟩ := g_bind hm
    refine vp_callSi (W.runS (As := [.int x2, .int x3]) (rest := []) ⟨hx, hb, hml, hown, hts⟩ (k_X3_mapBits l  x2 x3 _ ex) (va_cwS 2 hts gX3_bitsOf_X3_mapBits rfl rfl rfl (by decide +kernel) ⟨Nat.le_of_ble_eq_true rfl, Nat.le_of_ble_eq_true rfl⟩) ⟨w_bl0, fun U hU hW => ⟨rfl, trivial⟩⟩ rfl rfl hl.1 rfl (lv_room (Nat.le_of_ble_eq_true rfl)) dX3_bitsOf_16 ⟨Nat.zero_le _, Nat.zero_le _⟩) (fun _ ey => ?_)
    subst ey
    cases hm
    subst hQ
    exact W.iret hx hb hr (fun t ht hW => ⟨_, rfl, rfl, ht⟩) (fun _ h => nomatch h) dX3_bitsOf_19
  · have hm := g_t c1 hm
    refine lv_iconst (v := 0) hx hb dX3_bitsOf_4 (by decide) ?_
    refine lv_goto (tgt := 19) hx hb dX3_bitsOf_5 (by decide) ?_
    cases hm
    subst hQ
    exact W.iret hx hb hr (fun t ht hW => ⟨_, rfl, rfl, ht⟩) (fun _ h => nomatch h) dX3_bitsOf_19
