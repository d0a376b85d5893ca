abbrev rm_X0_isIn : Room := { frames := 0, cells := 0, slots := 0, locals := 0 }
set_option maxHeartbeats 4000000 in
set_option maxRecDepth 100000 in
theorem k_X0_isIn (l : Launch)  (p0 : Int32) (p1 : Int32) (p2 : Int32) (r0 : Int32) (hm : m_X0_isIn p0 p1 p2 = some r0) : Met l yX0_isIn wsX0_isIn rm_X0_isIn (va_Pc [.int p0, .int p1, .int p2] (fun _ => True)) (vp_Si (fun r => r0 = r)) 0 0 (fun _ => False) := by
  refine Met.ofW (cc := cX0_isIn) (maxL := 3) (ret := (some .boolean)) (by decide) rfl ?_
  intro p e s m args below meth c s₁ B hml hv
  obtain ⟨rfl, -⟩ := hv
  have hx := B.exec
  have hb := B.bytes
  have hr := B.returns
  have hts := atoms_spec (ws := wsX0_isIn) B.pre
  have hown : s.vm.findClass RX0 = some m.cls := findClass_of_methodNamed B.named
  have hlocks := B.notSynchronized
  have hl := lv_entry ([.int p0, .int p1, .int p2]) (n := 3) (Nat.le_of_ble_eq_true rfl)
  rw [lg_entry_eq]
  generalize (lg_sl ([.int p0, .int p1, .int p2]) ++ List.replicate (3 - (lg_sl ([.int p0, .int p1, .int p2])).length) Slot.unset).toArray = ls at hl ⊢
  have hl : lv_has ls 3 [(0, .int p0), (1, .int p1), (2, .int p2)] := hl
  refine w_name (fun Q hQ => ?_)
  unfold m_X0_isIn at hm
  refine lv_iload_n hx hb dX0_isIn_0 rfl (lv_at hl 0 rfl) ?_
  refine lv_iload_n hx hb dX0_isIn_1 rfl (lv_at hl 1 rfl) ?_
  refine lv_icmp_lt (tgt := 14) hx hb dX0_isIn_2 (by decide) (fun c1 => ?_) (fun c1 => ?_)
  · have hm := g_t c1 hm
    refine lv_iconst (v := 0) hx hb dX0_isIn_14 (by decide) ?_
    cases hm
    subst hQ
    exact W.zret hx hb hr rfl (fun t ht hW => ⟨_, rfl, rfl, ht⟩) (fun _ h => nomatch h) dX0_isIn_15
  · have hm := g_f c1 hm
    refine lv_iload_n hx hb dX0_isIn_5 rfl (lv_at hl 0 rfl) ?_
    refine lv_iload_n hx hb dX0_isIn_6 rfl (lv_at hl 2 rfl) ?_
    refine lv_icmp_gt (tgt := 14) hx hb dX0_isIn_7 (by decide) (fun c2 => ?_) (fun c2 => ?_)
    · have hm := g_t c2 hm
      refine lv_iconst (v := 0) hx hb dX0_isIn_14 (by decide) ?_
      cases hm
      subst hQ
      exact W.zret hx hb hr rfl (fun t ht hW => ⟨_, rfl, rfl, ht⟩) (fun _ h => nomatch h) dX0_isIn_15
    · have hm := g_f c2 hm
      refine lv_iconst (v := 1) hx hb dX0_isIn_10 (by decide) ?_
      refine lv_goto (tgt := 15) hx hb dX0_isIn_11 (by decide) ?_
      cases hm
      subst hQ
      exact W.zret hx hb hr rfl (fun t ht hW => ⟨_, rfl, rfl, ht⟩) (fun _ h => nomatch h) dX0_isIn_15
theorem hi_X0_isAllZero_X2 : ∀ w ∈ wsX20, w ∈ wsX0_isAllZero := by decide +kernel
theorem hk_X0_isAllZero_27 : Cond.fieldLink RX0 27 "BuddyFiles$Home" "cells" "[I" ∈ wsX0_isAllZero := by decide +kernel
abbrev rm_X0_isAllZero : Room := { frames := 0, cells := 0, slots := 0, locals := 0 }
set_option maxHeartbeats 4000000 in
set_option maxRecDepth 100000 in
theorem k_X0_isAllZero (l : Launch) (dC : Nat → ClassId) (dI : Nat → Nat → Nat) (A_h A_a : Nat) (K_a : ClassId) (c_a : Nat → Int32) (p1 : Int32) (r0 : Int32) (hm : m_X0_isAllZero c_a p1 = some r0) : Met l yX0_isAllZero wsX0_isAllZero rm_X0_isAllZero (va_Pc [.ref A_h, .int p1] (fun U => va_P (dC, dI) vwCl (wH A_h A_a K_a c_a) U.heap ∧ va_K (dC, dI) vwCl (tH K_a) U)) (vp_Si (fun r => r0 = r)) 0 0 (fun _ => False) := by
  refine Met.ofW (cc := cX0_isAllZero) (maxL := 3) (ret := (some .boolean)) (by decide) rfl ?_
  intro p e s m args below meth c s₁ B hml hv
  obtain ⟨rfl, hP, hK⟩ := hv
  have hx := B.exec
  have hb := B.bytes
  have hr := B.returns
  have hts := atoms_spec (ws := wsX0_isAllZero) B.pre
  have hown : s.vm.findClass RX0 = some m.cls := findClass_of_methodNamed B.named
  have hlocks := B.notSynchronized
  have hl := lv_entry ([.ref A_h, .int p1]) (n := 3) (Nat.le_of_ble_eq_true rfl)
  rw [lg_entry_eq]
  generalize (lg_sl ([.ref A_h, .int p1]) ++ List.replicate (3 - (lg_sl ([.ref A_h, .int p1])).length) Slot.unset).toArray = ls at hl ⊢
  have hl : lv_has ls 3 [(0, .ref A_h), (1, .int p1)] := hl
  refine w_name (fun Q hQ => ?_)
  unfold m_X0_isAllZero at hm
  refine lv_iconst (v := 0) hx hb dX0_isAllZero_0 (by decide) ?_
  refine lv_istore_n (lv' := [(2, .int (0 : Int32)), (0, .ref A_h), (1, .int p1)]) hx hb dX0_isAllZero_1 rfl hl (by decide) rfl (fun ls hl => ?_)
  obtain ⟨rl2, hlp, hm⟩ := g_bind hm
  have hE2 : Sum.inr () = rl2 → ∀ (ls : Array Slot), lv_has ls 3 [] → W p l e (headSpec wsX0_isAllZero rm_X0_isAllZero).room s m (([.ref A_h, .int p1] : List Value).toArray) below meth c s.heap [] 0 0 Q (F0 m 30 ls []) := by
    intro  hq ls hl
    subst hq
    have hm := g_sk_r hm
    have hm := g_k0_s hm
    refine lv_iconst (v := 1) hx hb dX0_isAllZero_30 (by decide) ?_
    cases hm
    subst hQ
    exact W.zret hx hb hr rfl (fun t ht hW => ⟨_, rfl, rfl, ht⟩) (fun _ h => nomatch h) dX0_isAllZero_31
  have hV2 : ∀ v, Sum.inl v = rl2 → v = r0 := by
    intro v hq
    subst hq
    have hm := g_sk_l hm
    exact Option.some.inj hm
  have hL2 : ∀ (n : Nat) (y1 : Int32), g_loop (fun q => m_X0_isAllZero_L2 p1 c_a q) n y1 = some rl2 → ∀ (ls : Array Slot), lv_has ls 3 [(0, .ref A_h), (1, .int p1), (2, .int y1)] → W p l e (headSpec wsX0_isAllZero rm_X0_isAllZero).room s m (([.ref A_h, .int p1] : List Value).toArray) below meth c s.heap [] 0 0 Q (F0 m 2 ls []) := by
    intro n
    induction n with
    | zero =>
      intro y1 hm
      exact g_loop_z hm
    | succ n ih =>
      intro y1 hm ls hl
      obtain ⟨q, hm, hy⟩ := g_loop_s hm
      have hm : m_X0_isAllZero_L2 p1 c_a y1 = some q := hm
      unfold m_X0_isAllZero_L2 at hm
      refine lv_iload_n hx hb dX0_isAllZero_2 rfl (lv_at hl 2 rfl) ?_
      refine lv_bipush (v := 7) hx hb dX0_isAllZero_3 (by decide) ?_
      refine lv_icmp_ge (tgt := 30) hx hb dX0_isAllZero_5 (by decide) (fun c3 => ?_) (fun c3 => ?_)
      · have hm := g_t c3 hm
        cases hm
        exact hE2 hy _ (lv_sub hl [] rfl)
      · have hm := g_f c3 hm
        refine lv_aload_n hx hb dX0_isAllZero_8 rfl (lv_at hl 0 rfl) ?_
        refine va_get (D := (dC, dI)) (ci := 1) (v := .ref A_a) (C := RX2) (T := TX2) (N := 1) hx hb hts hi_X0_isAllZero_X2 hown hK hP 0 rfl rfl 0 (by decide) (hts (Cond.fieldLink RX0 27 "BuddyFiles$Home" "cells" "[I") hk_X0_isAllZero_27) (fun _ h9 => h9) rfl dX0_isAllZero_9 ?_
        refine lv_bipush (v := 7) hx hb dX0_isAllZero_12 (by decide) ?_
        refine lv_iload_n hx hb dX0_isAllZero_14 rfl (lv_at hl 1 rfl) ?_
        refine lv_imul hx hb dX0_isAllZero_15 ?_
        refine lv_iload_n hx hb dX0_isAllZero_16 rfl (lv_at hl 2 rfl) ?_
        refine lv_iadd hx hb dX0_isAllZero_17 ?_
        obtain ⟨x4, ex, hm⟩ := g_bind hm
        refine w_ald hx hb hK hP 1 0 rfl rfl ex dX0_isAllZero_18 ?_
        refine lv_if_eq (tgt := 24) hx hb dX0_isAllZero_19 (by decide) (fun c5 => ?_) (fun c5 => ?_)
        · have hm := g_t c5 hm
          refine lv_iinc (v := (y1 + (1 : Int32))) (lv' := [(2, .int (y1 + (1 : Int32))), (0, .ref A_h), (1, .int p1)]) hx hb dX0_isAllZero_24 hl (k := 2) rfl rfl (by decide) rfl (fun ls hl => ?_)
          refine lv_goto (tgt := 2) hx hb dX0_isAllZero_27 (by decide) ?_
          cases hm
          exact ih _ hy _ (lv_sub hl [1, 2, 0] rfl)
        · have hm := g_f c5 hm
          refine lv_iconst (v := 0) hx hb dX0_isAllZero_22 (by decide) ?_
          cases hm
          have hq := hV2 _ hy
          cases hq
          subst hQ
          exact W.zret hx hb hr rfl (fun t ht hW => ⟨_, rfl, rfl, ht⟩) (fun _ h => nomatch h) dX0_isAllZero_23
  exact hL2 _ _ hlp _ (lv_sub hl [1, 2, 0] rfl)
abbrev rm_X0_slotsAreInRange : Room := { frames := 1, cells := 0, slots := 0, locals := 22 }
set_option maxHeartbeats 4000000 in
set_option maxRecDepth 100000 in
theorem k_X0_slotsAreInRange (l : Launch) (dC : Nat → ClassId) (dI : Nat → Nat → Nat) (A_h A_a : Nat) (K_a : ClassId) (c_a : Nat → Int32)  (r0 : Int32) (hm : m_X0_slotsAreInRange c_a = some r0) : Met l yX0_slotsAreInRange wsX0_slotsAreInRange rm_X0_slotsAreInRange (va_Pc [.ref A_h] (fun U => va_P (dC, dI) vwCl (wH A_h A_a K_a c_a) U.heap ∧ va_K (dC, dI) vwCl (tH K_a) U)) (vp_Si (fun r => r0 = r)) 0 0 (fun _ => False) := by
  refine Met.ofW (cc := cX0_slotsAreInRange) (maxL := 2) (ret := (some .boolean)) (by decide) rfl ?_
  intro p e s m args below meth c s₁ B hml hv
  obtain ⟨rfl, hP, hK⟩ := hv
  have hx := B.exec
  have hb := B.bytes
  have hr := B.returns
  have hts := atoms_spec (ws := wsX0_slotsAreInRange) B.pre
  have hown : s.vm.findClass RX0 = some m.cls := findClass_of_methodNamed B.named
  have hlocks := B.notSynchronized
  have hl := lv_entry ([.ref A_h]) (n := 2) (Nat.le_of_ble_eq_true rfl)
  rw [lg_entry_eq]
  generalize (lg_sl ([.ref A_h]) ++ List.replicate (2 - (lg_sl ([.ref A_h])).length) Slot.unset).toArray = ls at hl ⊢
  have hl : lv_has ls 2 [(0, .ref A_h)] := hl
  refine w_name (fun Q hQ => ?_)
  unfold m_X0_slotsAreInRange at hm
  refine lv_iconst (v := 0) hx hb dX0_slotsAreInRange_0 (by decide) ?_
  refine lv_istore_n (lv' := [(1, .int (0 : Int32)), (0, .ref A_h)]) hx hb dX0_slotsAreInRange_1 rfl hl (by decide) rfl (fun ls hl => ?_)
  obtain ⟨rl2, hlp, hm⟩ := g_bind hm
  have hE2 : Sum.inr () = rl2 → ∀ (ls : Array Slot), lv_has ls 2 [] → W p l e (headSpec wsX0_slotsAreInRange rm_X0_slotsAreInRange).room s m (([.ref A_h] : List Value).toArray) below meth c s.heap [] 0 0 Q (F0 m 75 ls []) := by
    intro  hq ls hl
    subst hq
    have hm := g_sk_r hm
    have hm := g_k0_s hm
    refine lv_iconst (v := 1) hx hb dX0_slotsAreInRange_75 (by decide) ?_
    cases hm
    subst hQ
    exact W.zret hx hb hr rfl (fun t ht hW => ⟨_, rfl, rfl, ht⟩) (fun _ h => nomatch h) dX0_slotsAreInRange_76
  have hV2 : ∀ v, Sum.inl v = rl2 → v = r0 := by
    intro v hq
    subst hq
    have hm := g_sk_l hm
    exact Option.some.inj hm
  have hL2 : ∀ (n : Nat) (y1 : Int32), g_loop (fun q => m_X0_slotsAreInRange_L2 c_a q) n y1 = some rl2 → ∀ (ls : Array Slot), lv_has ls 2 [(0, .ref A_h), (1, .int y1)] → W p l e (headSpec wsX0_slotsAreInRange rm_X0_slotsAreInRange).room s m (([.ref A_h] : List Value).toArray) below meth c s.heap [] 0 0 Q (F0 m 2 ls []) := by
    intro n
    induction n with
    | zero =>
      intro y1 hm
      exact g_loop_z hm
    | succ n ih =>
      intro y1 hm ls hl
      obtain ⟨q, hm, hy⟩ := g_loop_s hm
      have hm : m_X0_slotsAreInRange_L2 c_a y1 = some q := hm
      unfold m_X0_slotsAreInRange_L2 at hm
      refine lv_iload_n hx hb dX0_slotsAreInRange_2 rfl (lv_at hl 1 rfl) ?_
      refine lv_bipush (v := 6) hx hb dX0_slotsAreInRange_3 (by decide) ?_
      refine lv_icmp_ge (tgt := 75) hx hb dX0_slotsAreInRange_5 (by decide) (fun c3 => ?_) (fun c3 => ?_)
      · have hm := g_t c3 hm
        cases hm
        exact hE2 hy _ (lv_sub hl [] rfl)
      · have hm := g_f c3 hm
        refine lv_aload_n hx hb dX0_slotsAreInRange_8 rfl (lv_at hl 0 rfl) ?_
        refine lv_iload_n hx hb dX0_slotsAreInRange_9 rfl (lv_at hl 1 rfl) ?_
        obtain ⟨x4, ex, hm⟩ := g_bind hm
        refine vp_callSi (W.runV (As := [.int y1]) (rest := []) ⟨hx, hb, hml, hown, hts⟩ (k_X2_nameOf l dC dI A_h A_a K_a c_a y1 _ ex) (cwV 1 hts gX0_slotsAreInRange_X2_nameOf rfl rfl rfl (by decide +kernel) ⟨Nat.le_of_ble_eq_true rfl, Nat.le_of_ble_eq_true rfl⟩) ⟨w_blR, va_recv hK hP (ci := 1) (q0 := 0) rfl rfl, fun U hU hW => ⟨rfl, by rw [hU]; exact hP.sub [0, 1] rfl, va_K.moved hW.alike (hK.sub [0] rfl)⟩⟩ rfl rfl hl.1 rfl (lv_room (Nat.le_of_ble_eq_true rfl)) dX0_slotsAreInRange_10 ⟨Nat.zero_le _, Nat.zero_le _⟩) (fun _ ey => ?_)
        subst ey
        refine lv_iconst (v := 0) hx hb dX0_slotsAreInRange_13 (by decide) ?_
        refine lv_bipush (v := 99) hx hb dX0_slotsAreInRange_14 (by decide) ?_
        obtain ⟨x5, ex, hm⟩ := g_bind hm
        refine vp_callSi (W.runS (As := [.int x4, .int (0 : Int32), .int (99 : Int32)]) (rest := []) ⟨hx, hb, hml, hown, hts⟩ (k_X0_isIn l  x4 (0 : Int32) (99 : Int32) _ ex) (va_cwS 3 hts gX0_slotsAreInRange_X0_isIn rfl rfl rfl (by decide +kernel) ⟨Nat.le_of_ble_eq_true rfl, Nat.le_of_ble_eq_true rfl⟩) ⟨w_bl0, fun U hU hW => ⟨rfl, trivial⟩⟩ rfl rfl hl.1 rfl (lv_room (Nat.le_of_ble_eq_true rfl)) dX0_slotsAreInRange_16 ⟨Nat.zero_le _, Nat.zero_le _⟩) (fun _ ey => ?_)
        subst ey
        refine lv_if_eq (tgt := 49) hx hb dX0_slotsAreInRange_19 (by decide) (fun c6 => ?_) (fun c6 => ?_)
        · have hm := g_t c6 hm
          refine lv_iconst (v := 0) hx hb dX0_slotsAreInRange_49 (by decide) ?_
          cases hm
          have hq := hV2 _ hy
          cases hq
          subst hQ
          exact W.zret hx hb hr rfl (fun t ht hW => ⟨_, rfl, rfl, ht⟩) (fun _ h => nomatch h) dX0_slotsAreInRange_50
        · have hm := g_f c6 hm
          refine lv_aload_n hx hb dX0_slotsAreInRange_22 rfl (lv_at hl 0 rfl) ?_
          refine lv_iload_n hx hb dX0_slotsAreInRange_23 rfl (lv_at hl 1 rfl) ?_
          obtain ⟨x7, ex, hm⟩ := g_bind hm
          refine vp_callSi (W.runV (As := [.int y1]) (rest := []) ⟨hx, hb, hml, hown, hts⟩ (k_X2_ownerOf l dC dI A_h A_a K_a c_a y1 _ ex) (cwV 1 hts gX0_slotsAreInRange_X2_ownerOf rfl rfl rfl (by decide +kernel) ⟨Nat.le_of_ble_eq_true rfl, Nat.le_of_ble_eq_true rfl⟩) ⟨w_blR, va_recv hK hP (ci := 1) (q0 := 0) rfl rfl, fun U hU hW => ⟨rfl, by rw [hU]; exact hP.sub [0, 1] rfl, va_K.moved hW.alike (hK.sub [0] rfl)⟩⟩ rfl rfl hl.1 rfl (lv_room (Nat.le_of_ble_eq_true rfl)) dX0_slotsAreInRange_24 ⟨Nat.zero_le _, Nat.zero_le _⟩) (fun _ ey => ?_)
          subst ey
          refine lv_iconst (v := 0) hx hb dX0_slotsAreInRange_27 (by decide) ?_
          refine lv_iconst (v := 2) hx hb dX0_slotsAreInRange_28 (by decide) ?_
          obtain ⟨x8, ex, hm⟩ := g_bind hm
          refine vp_callSi (W.runS (As := [.int x7, .int (0 : Int32), .int (2 : Int32)]) (rest := []) ⟨hx, hb, hml, hown, hts⟩ (k_X0_isIn l  x7 (0 : Int32) (2 : Int32) _ ex) (va_cwS 3 hts gX0_slotsAreInRange_X0_isIn rfl rfl rfl (by decide +kernel) ⟨Nat.le_of_ble_eq_true rfl, Nat.le_of_ble_eq_true rfl⟩) ⟨w_bl0, fun U hU hW => ⟨rfl, trivial⟩⟩ rfl rfl hl.1 rfl (lv_room (Nat.le_of_ble_eq_true rfl)) dX0_slotsAreInRange_29 ⟨Nat.zero_le _, Nat.zero_le _⟩) (fun _ ey => ?_)
          subst ey
          refine lv_if_eq (tgt := 49) hx hb dX0_slotsAreInRange_32 (by decide) (fun c9 => ?_) (fun c9 => ?_)
          · have hm := g_t c9 hm
            refine lv_iconst (v := 0) hx hb dX0_slotsAreInRange_49 (by decide) ?_
            cases hm
            have hq := hV2 _ hy
            cases hq
            subst hQ
            exact W.zret hx hb hr rfl (fun t ht hW => ⟨_, rfl, rfl, ht⟩) (fun _ h => nomatch h) dX0_slotsAreInRange_50
          · have hm := g_f c9 hm
            refine lv_aload_n hx hb dX0_slotsAreInRange_35 rfl (lv_at hl 0 rfl) ?_
            refine lv_iload_n hx hb dX0_slotsAreInRange_36 rfl (lv_at hl 1 rfl) ?_
            obtain ⟨x10, ex, hm⟩ := g_bind hm
            refine vp_callSi (W.runV (As := [.int y1]) (rest := []) ⟨hx, hb, hml, hown, hts⟩ (k_X2_lengthOf l dC dI A_h A_a K_a c_a y1 _ ex) (cwV 1 hts gX0_slotsAreInRange_X2_lengthOf rfl rfl rfl (by decide +kernel) ⟨Nat.le_of_ble_eq_true rfl, Nat.le_of_ble_eq_true rfl⟩) ⟨w_blR, va_recv hK hP (ci := 1) (q0 := 0) rfl rfl, fun U hU hW => ⟨rfl, by rw [hU]; exact hP.sub [0, 1] rfl, va_K.moved hW.alike (hK.sub [0] rfl)⟩⟩ rfl rfl hl.1 rfl (lv_room (Nat.le_of_ble_eq_true rfl)) dX0_slotsAreInRange_37 ⟨Nat.zero_le _, Nat.zero_le _⟩) (fun _ ey => ?_)
            subst ey
            refine lv_iconst (v := 0) hx hb dX0_slotsAreInRange_40 (by decide) ?_
            refine lv_bipush (v := 64) hx hb dX0_slotsAreInRange_41 (by decide) ?_
            obtain ⟨x11, ex, hm⟩ := g_bind hm
            refine vp_callSi (W.runS (As := [.int x10, .int (0 : Int32), .int (64 : Int32)]) (rest := []) ⟨hx, hb, hml, hown, hts⟩ (k_X0_isIn l  x10 (0 : Int32) (64 : Int32) _ ex) (va_cwS 3 hts gX0_slotsAreInRange_X0_isIn rfl rfl rfl (by decide +kernel) ⟨Nat.le_of_ble_eq_true rfl, Nat.le_of_ble_eq_true rfl⟩) ⟨w_bl0, fun U hU hW => ⟨rfl, trivial⟩⟩ rfl rfl hl.1 rfl (lv_room (Nat.le_of_ble_eq_true rfl)) dX0_slotsAreInRange_43 ⟨Nat.zero_le _, Nat.zero_le _⟩) (fun _ ey => ?_)
            subst ey
            refine lv_if_ne (tgt := 51) hx hb dX0_slotsAreInRange_46 (by decide) (fun c12 => ?_) (fun c12 => ?_)
            · have hm := g_f c12 hm
              refine lv_aload_n hx hb dX0_slotsAreInRange_51 rfl (lv_at hl 0 rfl) ?_
              refine lv_iload_n hx hb dX0_slotsAreInRange_52 rfl (lv_at hl 1 rfl) ?_
              obtain ⟨x13, ex, hm⟩ := g_bind hm
              refine vp_callSi (W.runV (As := [.int y1]) (rest := []) ⟨hx, hb, hml, hown, hts⟩ (k_X2_nameOf l dC dI A_h A_a K_a c_a y1 _ ex) (cwV 1 hts gX0_slotsAreInRange_X2_nameOf rfl rfl rfl (by decide +kernel) ⟨Nat.le_of_ble_eq_true rfl, Nat.le_of_ble_eq_true rfl⟩) ⟨w_blR, va_recv hK hP (ci := 1) (q0 := 0) rfl rfl, fun U hU hW => ⟨rfl, by rw [hU]; exact hP.sub [0, 1] rfl, va_K.moved hW.alike (hK.sub [0] rfl)⟩⟩ rfl rfl hl.1 rfl (lv_room (Nat.le_of_ble_eq_true rfl)) dX0_slotsAreInRange_53 ⟨Nat.zero_le _, Nat.zero_le _⟩) (fun _ ey => ?_)
              subst ey
              refine lv_if_ne (tgt := 69) hx hb dX0_slotsAreInRange_56 (by decide) (fun c14 => ?_) (fun c14 => ?_)
              · have hm := g_f c14 hm
                refine lv_iinc (v := (y1 + (1 : Int32))) (lv' := [(1, .int (y1 + (1 : Int32))), (0, .ref A_h)]) hx hb dX0_slotsAreInRange_69 hl (k := 1) rfl rfl (by decide) rfl (fun ls hl => ?_)
                refine lv_goto (tgt := 2) hx hb dX0_slotsAreInRange_72 (by decide) ?_
                cases hm
                exact ih _ hy _ (lv_sub hl [1, 0] rfl)
              · have hm := g_t c14 hm
                refine lv_aload_n hx hb dX0_slotsAreInRange_59 rfl (lv_at hl 0 rfl) ?_
                refine lv_iload_n hx hb dX0_slotsAreInRange_60 rfl (lv_at hl 1 rfl) ?_
                obtain ⟨x15, ex, hm⟩ := g_bind hm
                refine vp_callSi (W.runS (As := [.ref A_h, .int y1]) (rest := []) ⟨hx, hb, hml, hown, hts⟩ (k_X0_isAllZero l dC dI A_h A_a K_a c_a y1 _ ex) (va_cwS 2 hts gX0_slotsAreInRange_X0_isAllZero rfl rfl rfl (by decide +kernel) ⟨Nat.le_of_ble_eq_true rfl, Nat.le_of_ble_eq_true rfl⟩) ⟨w_blR, fun U hU hW => ⟨rfl, by rw [hU]; exact hP.sub [0, 1] rfl, va_K.moved hW.alike (hK.sub [0] rfl)⟩⟩ rfl rfl hl.1 rfl (lv_room (Nat.le_of_ble_eq_true rfl)) dX0_slotsAreInRange_61 ⟨Nat.zero_le _, Nat.zero_le _⟩) (fun _ ey => ?_)
                subst ey
                refine lv_if_ne (tgt := 69) hx hb dX0_slotsAreInRange_64 (by decide) (fun c16 => ?_) (fun c16 => ?_)
                · have hm := g_f c16 hm
                  refine lv_iinc (v := (y1 + (1 : Int32))) (lv' := [(1, .int (y1 + (1 : Int32))), (0, .ref A_h)]) hx hb dX0_slotsAreInRange_69 hl (k := 1) rfl rfl (by decide) rfl (fun ls hl => ?_)
                  refine lv_goto (tgt := 2) hx hb dX0_slotsAreInRange_72 (by decide) ?_
                  cases hm
                  exact ih _ hy _ (lv_sub hl [1, 0] rfl)
                · have hm := g_t c16 hm
                  refine lv_iconst (v := 0) hx hb dX0_slotsAreInRange_67 (by decide) ?_
                  cases hm
                  have hq := hV2 _ hy
                  cases hq
                  subst hQ
                  exact W.zret hx hb hr rfl (fun t ht hW => ⟨_, rfl, rfl, ht⟩) (fun _ h => nomatch h) dX0_slotsAreInRange_68
            · have hm := g_t c12 hm
              refine lv_iconst (v := 0) hx hb dX0_slotsAreInRange_49 (by decide) ?_
              cases hm
              have hq := hV2 _ hy
              cases hq
              subst hQ
              exact W.zret hx hb hr rfl (fun t ht hW => ⟨_, rfl, rfl, ht⟩) (fun _ h => nomatch h) dX0_slotsAreInRange_50
  exact hL2 _ _ hlp _ (lv_sub hl [1, 0] rfl)
abbrev rm_X0_namesDiffer : Room := { frames := 1, cells := 0, slots := 0, locals := 21 }
set_option maxHeartbeats 4000000 in
set_option maxRecDepth 100000 in
theorem k_X0_namesDiffer (l : Launch) (dC : Nat → ClassId) (dI : Nat → Nat → Nat) (A_h A_a : Nat) (K_a : ClassId) (c_a : Nat → Int32)  (r0 : Int32) (hm : m_X0_namesDiffer c_a = some r0) : Met l yX0_namesDiffer wsX0_namesDiffer rm_X0_namesDiffer (va_Pc [.ref A_h] (fun U => va_P (dC, dI) vwCl (wH A_h A_a K_a c_a) U.heap ∧ va_K (dC, dI) vwCl (tH K_a) U)) (vp_Si (fun r => r0 = r)) 0 0 (fun _ => False) := by
  refine Met.ofW (cc := cX0_namesDiffer) (maxL := 3) (ret := (some .boolean)) (by decide) rfl ?_
  intro p e s m args below meth c s₁ B hml hv
  obtain ⟨rfl, hP, hK⟩ := hv
  have hx := B.exec
  have hb := B.bytes
  have hr := B.returns
  have hts := atoms_spec (ws := wsX0_namesDiffer) B.pre
  have hown : s.vm.findClass RX0 = some m.cls := findClass_of_methodNamed B.named
  have hlocks := B.notSynchronized
  have hl := lv_entry ([.ref A_h]) (n := 3) (Nat.le_of_ble_eq_true rfl)
  rw [lg_entry_eq]
  generalize (lg_sl ([.ref A_h]) ++ List.replicate (3 - (lg_sl ([.ref A_h])).length) Slot.unset).toArray = ls at hl ⊢
  have hl : lv_has ls 3 [(0, .ref A_h)] := hl
  refine w_name (fun Q hQ => ?_)
  unfold m_X0_namesDiffer at hm
  refine lv_iconst (v := 1) hx hb dX0_namesDiffer_0 (by decide) ?_
  refine lv_istore_n (lv' := [(1, .int (1 : Int32)), (0, .ref A_h)]) hx hb dX0_namesDiffer_1 rfl hl (by decide) rfl (fun ls hl => ?_)
  obtain ⟨rl2, hlp, hm⟩ := g_bind hm
  have hE2 : Sum.inr () = rl2 → ∀ (ls : Array Slot), lv_has ls 3 [] → W p l e (headSpec wsX0_namesDiffer rm_X0_namesDiffer).room s m (([.ref A_h] : List Value).toArray) below meth c s.heap [] 0 0 Q (F0 m 50 ls []) := by
    intro  hq ls hl
    subst hq
    have hm := g_sk_r hm
    have hm := g_k0_s hm
    refine lv_iconst (v := 1) hx hb dX0_namesDiffer_50 (by decide) ?_
    cases hm
    subst hQ
    exact W.zret hx hb hr rfl (fun t ht hW => ⟨_, rfl, rfl, ht⟩) (fun _ h => nomatch h) dX0_namesDiffer_51
  have hV2 : ∀ v, Sum.inl v = rl2 → v = r0 := by
    intro v hq
    subst hq
    have hm := g_sk_l hm
    exact Option.some.inj hm
  have hL2 : ∀ (n : Nat) (y1 : Int32), g_loop (fun q => m_X0_namesDiffer_L2 c_a q) n y1 = some rl2 → ∀ (ls : Array Slot), lv_has ls 3 [(0, .ref A_h), (1, .int y1)] → W p l e (headSpec wsX0_namesDiffer rm_X0_namesDiffer).room s m (([.ref A_h] : List Value).toArray) below meth c s.heap [] 0 0 Q (F0 m 2 ls []) := by
    intro n
    induction n with
    | zero =>
      intro y1 hm
      exact g_loop_z hm
    | succ n ih =>
      intro y1 hm ls hl
      obtain ⟨q, hm, hy⟩ := g_loop_s hm
      have hm : m_X0_namesDiffer_L2 c_a y1 = some q := hm
      unfold m_X0_namesDiffer_L2 at hm
      refine lv_iload_n hx hb dX0_namesDiffer_2 rfl (lv_at hl 1 rfl) ?_
      refine lv_bipush (v := 6) hx hb dX0_namesDiffer_3 (by decide) ?_
      refine lv_icmp_ge (tgt := 50) hx hb dX0_namesDiffer_5 (by decide) (fun c3 => ?_) (fun c3 => ?_)
      · have hm := g_t c3 hm
        cases hm
        exact hE2 hy _ (lv_sub hl [] rfl)
      · have hm := g_f c3 hm
        refine lv_iconst (v := 0) hx hb dX0_namesDiffer_8 (by decide) ?_
        refine lv_istore_n (lv' := [(2, .int (0 : Int32)), (0, .ref A_h), (1, .int y1)]) hx hb dX0_namesDiffer_9 rfl hl (by decide) rfl (fun ls hl => ?_)
        obtain ⟨rl5, hlp, hm⟩ := g_bind hm
        have hE5 : Sum.inr () = rl5 → ∀ (ls : Array Slot), lv_has ls 3 [(0, .ref A_h), (1, .int y1)] → W p l e (headSpec wsX0_namesDiffer rm_X0_namesDiffer).room s m (([.ref A_h] : List Value).toArray) below meth c s.heap [] 0 0 Q (F0 m 44 ls []) := by
          intro  hq ls hl
          subst hq
          have hm := g_sk_r hm
          have hm := g_k0_s hm
          refine lv_iinc (v := (y1 + (1 : Int32))) (lv' := [(1, .int (y1 + (1 : Int32))), (0, .ref A_h)]) hx hb dX0_namesDiffer_44 hl (k := 1) rfl rfl (by decide) rfl (fun ls hl => ?_)
          refine lv_goto (tgt := 2) hx hb dX0_namesDiffer_47 (by decide) ?_
          cases hm
          exact ih _ hy _ (lv_sub hl [1, 0] rfl)
        have hV5 : ∀ v, Sum.inl v = rl5 → v = r0 := by
          intro v hq
          subst hq
          have hm := g_sk_l hm
          cases hm
          exact hV2 v hy
        have hL5 : ∀ (n : Nat) (y4 : Int32), g_loop (fun q => m_X0_namesDiffer_L10 c_a y1 q) n y4 = some rl5 → ∀ (ls : Array Slot), lv_has ls 3 [(0, .ref A_h), (1, .int y1), (2, .int y4)] → W p l e (headSpec wsX0_namesDiffer rm_X0_namesDiffer).room s m (([.ref A_h] : List Value).toArray) below meth c s.heap [] 0 0 Q (F0 m 10 ls []) := by
          intro n
          induction n with
          | zero =>
            intro y4 hm
            exact g_loop_z hm
          | succ n ih =>
            intro y4 hm ls hl
            obtain ⟨q, hm, hy⟩ := g_loop_s hm
            have hm : m_X0_namesDiffer_L10 c_a y1 y4 = some q := hm
            unfold m_X0_namesDiffer_L10 at hm
            refine lv_iload_n hx hb dX0_namesDiffer_10 rfl (lv_at hl 2 rfl) ?_
            refine lv_iload_n hx hb dX0_namesDiffer_11 rfl (lv_at hl 1 rfl) ?_
            refine lv_icmp_ge (tgt := 44) hx hb dX0_namesDiffer_12 (by decide) (fun c6 => ?_) (fun c6 => ?_)
            · have hm := g_t c6 hm
              cases hm
              exact hE5 hy _ (lv_sub hl [0, 1] rfl)
            · have hm := g_f c6 hm
              refine lv_aload_n hx hb dX0_namesDiffer_15 rfl (lv_at hl 0 rfl) ?_
              refine lv_iload_n hx hb dX0_namesDiffer_16 rfl (lv_at hl 1 rfl) ?_
              obtain ⟨x7, ex, hm⟩ := g_bind hm
              refine vp_callSi (W.runV (As := [.int y1]) (rest := []) ⟨hx, hb, hml, hown, hts⟩ (k_X2_nameOf l dC dI A_h A_a K_a c_a y1 _ ex) (cwV 1 hts gX0_namesDiffer_X2_nameOf rfl rfl rfl (by decide +kernel) ⟨Nat.le_of_ble_eq_true rfl, Nat.le_of_ble_eq_true rfl⟩) ⟨w_blR, va_recv hK hP (ci := 1) (q0 := 0) rfl rfl, fun U hU hW => ⟨rfl, by rw [hU]; exact hP.sub [0, 1] rfl, va_K.moved hW.alike (hK.sub [0] rfl)⟩⟩ rfl rfl hl.1 rfl (lv_room (Nat.le_of_ble_eq_true rfl)) dX0_namesDiffer_17 ⟨Nat.zero_le _, Nat.zero_le _⟩) (fun _ ey => ?_)
              subst ey
              refine lv_if_eq (tgt := 38) hx hb dX0_namesDiffer_20 (by decide) (fun c8 => ?_) (fun c8 => ?_)
              · have hm := g_t c8 hm
                refine lv_iinc (v := (y4 + (1 : Int32))) (lv' := [(2, .int (y4 + (1 : Int32))), (0, .ref A_h), (1, .int y1)]) hx hb dX0_namesDiffer_38 hl (k := 2) rfl rfl (by decide) rfl (fun ls hl => ?_)
                refine lv_goto (tgt := 10) hx hb dX0_namesDiffer_41 (by decide) ?_
                cases hm
                exact ih _ hy _ (lv_sub hl [1, 2, 0] rfl)
              · have hm := g_f c8 hm
                refine lv_aload_n hx hb dX0_namesDiffer_23 rfl (lv_at hl 0 rfl) ?_
                refine lv_iload_n hx hb dX0_namesDiffer_24 rfl (lv_at hl 1 rfl) ?_
                obtain ⟨x9, ex, hm⟩ := g_bind hm
                refine vp_callSi (W.runV (As := [.int y1]) (rest := []) ⟨hx, hb, hml, hown, hts⟩ (k_X2_nameOf l dC dI A_h A_a K_a c_a y1 _ ex) (cwV 1 hts gX0_namesDiffer_X2_nameOf rfl rfl rfl (by decide +kernel) ⟨Nat.le_of_ble_eq_true rfl, Nat.le_of_ble_eq_true rfl⟩) ⟨w_blR, va_recv hK hP (ci := 1) (q0 := 0) rfl rfl, fun U hU hW => ⟨rfl, by rw [hU]; exact hP.sub [0, 1] rfl, va_K.moved hW.alike (hK.sub [0] rfl)⟩⟩ rfl rfl hl.1 rfl (lv_room (Nat.le_of_ble_eq_true rfl)) dX0_namesDiffer_25 ⟨Nat.zero_le _, Nat.zero_le _⟩) (fun _ ey => ?_)
                subst ey
                refine lv_aload_n hx hb dX0_namesDiffer_28 rfl (lv_at hl 0 rfl) ?_
                refine lv_iload_n hx hb dX0_namesDiffer_29 rfl (lv_at hl 2 rfl) ?_
                obtain ⟨x10, ex, hm⟩ := g_bind hm
                refine vp_callSi (W.runV (As := [.int y4]) (rest := [.int x9]) ⟨hx, hb, hml, hown, hts⟩ (k_X2_nameOf l dC dI A_h A_a K_a c_a y4 _ ex) (cwV 1 hts gX0_namesDiffer_X2_nameOf rfl rfl rfl (by decide +kernel) ⟨Nat.le_of_ble_eq_true rfl, Nat.le_of_ble_eq_true rfl⟩) ⟨w_blR, va_recv hK hP (ci := 1) (q0 := 0) rfl rfl, fun U hU hW => ⟨rfl, by rw [hU]; exact hP.sub [0, 1] rfl, va_K.moved hW.alike (hK.sub [0] rfl)⟩⟩ rfl rfl hl.1 rfl (lv_room (Nat.le_of_ble_eq_true rfl)) dX0_namesDiffer_30 ⟨Nat.zero_le _, Nat.zero_le _⟩) (fun _ ey => ?_)
                subst ey
                refine lv_icmp_ne (tgt := 38) hx hb dX0_namesDiffer_33 (by decide) (fun c11 => ?_) (fun c11 => ?_)
                · have hm := g_f c11 hm
                  refine lv_iinc (v := (y4 + (1 : Int32))) (lv' := [(2, .int (y4 + (1 : Int32))), (0, .ref A_h), (1, .int y1)]) hx hb dX0_namesDiffer_38 hl (k := 2) rfl rfl (by decide) rfl (fun ls hl => ?_)
                  refine lv_goto (tgt := 10) hx hb dX0_namesDiffer_41 (by decide) ?_
                  cases hm
                  exact ih _ hy _ (lv_sub hl [1, 2, 0] rfl)
                · have hm := g_t c11 hm
                  refine lv_iconst (v := 0) hx hb dX0_namesDiffer_36 (by decide) ?_
                  cases hm
                  have hq := hV5 _ hy
                  cases hq
                  subst hQ
                  exact W.zret hx hb hr rfl (fun t ht hW => ⟨_, rfl, rfl, ht⟩) (fun _ h => nomatch h) dX0_namesDiffer_37
        exact hL5 _ _ hlp _ (lv_sub hl [1, 2, 0] rfl)
  exact hL2 _ _ hlp _ (lv_sub hl [1, 0] rfl)
abbrev rm_X0_extentsAreRuns : Room := { frames := 3, cells := 0, slots := 0, locals := 60 }
set_option maxHeartbeats 4000000 in
set_option maxRecDepth 100000 in
theorem k_X0_extentsAreRuns (l : Launch) (dC : Nat → ClassId) (dI : Nat → Nat → Nat) (A_h A_a : Nat) (K_a : ClassId) (c_a : Nat → Int32)  (r0 : Int32) (hm : m_X0_extentsAreRuns c_a = some r0) : Met l yX0_extentsAreRuns wsX0_extentsAreRuns rm_X0_extentsAreRuns (va_Pc [.ref A_h] (fun U => va_P (dC, dI) vwCl (wH A_h A_a K_a c_a) U.heap ∧ va_K (dC, dI) vwCl (tH K_a) U)) (vp_Si (fun r => r0 = r)) 0 0 (fun _ => False) := by
  refine Met.ofW (cc := cX0_extentsAreRuns) (maxL := 5) (ret := (some .boolean)) (by decide) rfl ?_
  intro p e s m args below meth c s₁ B hml hv
  obtain ⟨rfl, hP, hK⟩ := hv
  have hx := B.exec
  have hb := B.bytes
  have hr := B.returns
  have hts := atoms_spec (ws := wsX0_extentsAreRuns) B.pre
  have hown : s.vm.findClass RX0 = some m.cls := findClass_of_methodNamed B.named
  have hlocks := B.notSynchronized
  have hl := lv_entry ([.ref A_h]) (n := 5) (Nat.le_of_ble_eq_true rfl)
  rw [lg_entry_eq]
  generalize (lg_sl ([.ref A_h]) ++ List.replicate (5 - (lg_sl ([.ref A_h])).length) Slot.unset).toArray = ls at hl ⊢
  have hl : lv_has ls 5 [(0, .ref A_h)] := hl
  refine w_name (fun Q hQ => ?_)
  unfold m_X0_extentsAreRuns at hm
  refine lv_iconst (v := 0) hx hb dX0_extentsAreRuns_0 (by decide) ?_
  refine lv_istore_n (lv' := [(1, .int (0 : Int32)), (0, .ref A_h)]) hx hb dX0_extentsAreRuns_1 rfl hl (by decide) rfl (fun ls hl => ?_)
  obtain ⟨rl2, hlp, hm⟩ := g_bind hm
  have hE2 : Sum.inr () = rl2 → ∀ (ls : Array Slot), lv_has ls 5 [] → W p l e (headSpec wsX0_extentsAreRuns rm_X0_extentsAreRuns).room s m (([.ref A_h] : List Value).toArray) below meth c s.heap [] 0 0 Q (F0 m 61 ls []) := by
    intro  hq ls hl
    subst hq
    have hm := g_sk_r hm
    have hm := g_k0_s hm
    refine lv_iconst (v := 1) hx hb dX0_extentsAreRuns_61 (by decide) ?_
    cases hm
    subst hQ
    exact W.zret hx hb hr rfl (fun t ht hW => ⟨_, rfl, rfl, ht⟩) (fun _ h => nomatch h) dX0_extentsAreRuns_62
  have hV2 : ∀ v, Sum.inl v = rl2 → v = r0 := by
    intro v hq
    subst hq
    have hm := g_sk_l hm
    exact Option.some.inj hm
  have hL2 : ∀ (n : Nat) (y1 : Int32), g_loop (fun q => m_X0_extentsAreRuns_L2 c_a q) n y1 = some rl2 → ∀ (ls : Array Slot), lv_has ls 5 [(0, .ref A_h), (1, .int y1)] → W p l e (headSpec wsX0_extentsAreRuns rm_X0_extentsAreRuns).room s m (([.ref A_h] : List Value).toArray) below meth c s.heap [] 0 0 Q (F0 m 2 ls []) := by
    intro n
    induction n with
    | zero =>
      intro y1 hm
      exact g_loop_z hm
    | succ n ih =>
      intro y1 hm ls hl
      obtain ⟨q, hm, hy⟩ := g_loop_s hm
      have hm : m_X0_extentsAreRuns_L2 c_a y1 = some q := hm
      unfold m_X0_extentsAreRuns_L2 at hm
      refine lv_iload_n hx hb dX0_extentsAreRuns_2 rfl (lv_at hl 1 rfl) ?_
      refine lv_bipush (v := 6) hx hb dX0_extentsAreRuns_3 (by decide) ?_
      refine lv_icmp_ge (tgt := 61) hx hb dX0_extentsAreRuns_5 (by decide) (fun c3 => ?_) (fun c3 => ?_)
      · have hm := g_t c3 hm
        cases hm
        exact hE2 hy _ (lv_sub hl [] rfl)
      · have hm := g_f c3 hm
        refine lv_iconst (v := 0) hx hb dX0_extentsAreRuns_8 (by decide) ?_
        refine lv_istore_n (lv' := [(2, .int (0 : Int32)), (0, .ref A_h), (1, .int y1)]) hx hb dX0_extentsAreRuns_9 rfl hl (by decide) rfl (fun ls hl => ?_)
        refine lv_iconst (v := 0) hx hb dX0_extentsAreRuns_10 (by decide) ?_
        refine lv_istore_n (lv' := [(3, .int (0 : Int32)), (2, .int (0 : Int32)), (0, .ref A_h), (1, .int y1)]) hx hb dX0_extentsAreRuns_11 rfl hl (by decide) rfl (fun ls hl => ?_)
        obtain ⟨rl6, hlp, hm⟩ := g_bind hm
        have hE6 : Sum.inr () = rl6 → ∀ (ls : Array Slot), lv_has ls 5 [(0, .ref A_h), (1, .int y1)] → W p l e (headSpec wsX0_extentsAreRuns rm_X0_extentsAreRuns).room s m (([.ref A_h] : List Value).toArray) below meth c s.heap [] 0 0 Q (F0 m 55 ls []) := by
          intro  hq ls hl
          subst hq
          have hm := g_sk_r hm
          have hm := g_k0_s hm
          refine lv_iinc (v := (y1 + (1 : Int32))) (lv' := [(1, .int (y1 + (1 : Int32))), (0, .ref A_h)]) hx hb dX0_extentsAreRuns_55 hl (k := 1) rfl rfl (by decide) rfl (fun ls hl => ?_)
          refine lv_goto (tgt := 2) hx hb dX0_extentsAreRuns_58 (by decide) ?_
          cases hm
          exact ih _ hy _ (lv_sub hl [1, 0] rfl)
        have hV6 : ∀ v, Sum.inl v = rl6 → v = r0 := by
          intro v hq
          subst hq
          have hm := g_sk_l hm
          cases hm
          exact hV2 v hy
        have hL6 : ∀ (n : Nat) (y4 : Int32) (y5 : Int32), g_loop (fun q => m_X0_extentsAreRuns_L12 c_a y1 q.1 q.2) n (y4, y5) = some rl6 → ∀ (ls : Array Slot), lv_has ls 5 [(0, .ref A_h), (1, .int y1), (2, .int y4), (3, .int y5)] → W p l e (headSpec wsX0_extentsAreRuns rm_X0_extentsAreRuns).room s m (([.ref A_h] : List Value).toArray) below meth c s.heap [] 0 0 Q (F0 m 12 ls []) := by
          intro n
          induction n with
          | zero =>
            intro y4 y5 hm
            exact g_loop_z hm
          | succ n ih =>
            intro y4 y5 hm ls hl
            obtain ⟨q, hm, hy⟩ := g_loop_s hm
            have hm : m_X0_extentsAreRuns_L12 c_a y1 y4 y5 = some q := hm
            unfold m_X0_extentsAreRuns_L12 at hm
            refine lv_iload_n hx hb dX0_extentsAreRuns_12 rfl (lv_at hl 3 rfl) ?_
            refine lv_iconst (v := 4) hx hb dX0_extentsAreRuns_13 (by decide) ?_
            refine lv_icmp_ge (tgt := 55) hx hb dX0_extentsAreRuns_14 (by decide) (fun c7 => ?_) (fun c7 => ?_)
            · have hm := g_t c7 hm
              cases hm
              exact hE6 hy _ (lv_sub hl [0, 1] rfl)
            · have hm := g_f c7 hm
              refine lv_aload_n hx hb dX0_extentsAreRuns_17 rfl (lv_at hl 0 rfl) ?_
              refine lv_iload_n hx hb dX0_extentsAreRuns_18 rfl (lv_at hl 1 rfl) ?_
              refine lv_iload_n hx hb dX0_extentsAreRuns_19 rfl (lv_at hl 3 rfl) ?_
              obtain ⟨x8, ex, hm⟩ := g_bind hm
              refine vp_callSi (W.runV (As := [.int y1, .int y5]) (rest := []) ⟨hx, hb, hml, hown, hts⟩ (k_X2_extentOf l dC dI A_h A_a K_a c_a y1 y5 _ ex) (cwV 2 hts gX0_extentsAreRuns_X2_extentOf rfl rfl rfl (by decide +kernel) ⟨Nat.le_of_ble_eq_true rfl, Nat.le_of_ble_eq_true rfl⟩) ⟨w_blR, va_recv hK hP (ci := 1) (q0 := 0) rfl rfl, fun U hU hW => ⟨rfl, by rw [hU]; exact hP.sub [0, 1] rfl, va_K.moved hW.alike (hK.sub [0] rfl)⟩⟩ rfl rfl hl.1 rfl (lv_room (Nat.le_of_ble_eq_true rfl)) dX0_extentsAreRuns_20 ⟨Nat.zero_le _, Nat.zero_le _⟩) (fun _ ey => ?_)
              subst ey
              refine lv_istore (lv' := [(4, .int x8), (0, .ref A_h), (1, .int y1), (2, .int y4), (3, .int y5)]) hx hb dX0_extentsAreRuns_23 hl (by decide) rfl (fun ls hl => ?_)
              refine lv_iload hx hb dX0_extentsAreRuns_25 (lv_at hl 0 rfl) ?_
              refine lv_if_ne (tgt := 35) hx hb dX0_extentsAreRuns_27 (by decide) (fun c9 => ?_) (fun c9 => ?_)
              · have hm := g_f c9 hm
                refine lv_iload_n hx hb dX0_extentsAreRuns_35 rfl (lv_at hl 3 rfl) ?_
                refine lv_if_ne (tgt := 47) hx hb dX0_extentsAreRuns_36 (by decide) (fun c10 => ?_) (fun c10 => ?_)
                · have hm := g_f c10 hm
                  refine lv_iconst (v := 0) hx hb dX0_extentsAreRuns_47 (by decide) ?_
                  cases hm
                  have hq := hV6 _ hy
                  cases hq
                  subst hQ
                  exact W.zret hx hb hr rfl (fun t ht hW => ⟨_, rfl, rfl, ht⟩) (fun _ h => nomatch h) dX0_extentsAreRuns_48
                · have hm := g_t c10 hm
                  refine lv_iload hx hb dX0_extentsAreRuns_39 (lv_at hl 0 rfl) ?_
                  obtain ⟨x11, ex, hm⟩ := g_bind hm
                  refine vp_callSi (W.runS (As := [.int x8]) (rest := []) ⟨hx, hb, hml, hown, hts⟩ (k_X3_isRun l  x8 _ ex) (va_cwS 1 hts gX0_extentsAreRuns_X3_isRun rfl rfl rfl (by decide +kernel) ⟨Nat.le_of_ble_eq_true rfl, Nat.le_of_ble_eq_true rfl⟩) ⟨w_bl0, fun U hU hW => ⟨rfl, trivial⟩⟩ rfl rfl hl.1 rfl (lv_room (Nat.le_of_ble_eq_true rfl)) dX0_extentsAreRuns_41 ⟨Nat.zero_le _, Nat.zero_le _⟩) (fun _ ey => ?_)
                  subst ey
                  refine lv_if_ne (tgt := 49) hx hb dX0_extentsAreRuns_44 (by decide) (fun c12 => ?_) (fun c12 => ?_)
                  · have hm := g_f c12 hm
                    refine lv_iinc (v := (y5 + (1 : Int32))) (lv' := [(3, .int (y5 + (1 : Int32))), (4, .int x8), (0, .ref A_h), (1, .int y1), (2, .int y4)]) hx hb dX0_extentsAreRuns_49 hl (k := 4) rfl rfl (by decide) rfl (fun ls hl => ?_)
                    refine lv_goto (tgt := 12) hx hb dX0_extentsAreRuns_52 (by decide) ?_
                    cases hm
                    exact ih _ _ hy _ (lv_sub hl [2, 3, 4, 0] rfl)
                  · have hm := g_t c12 hm
                    refine lv_iconst (v := 0) hx hb dX0_extentsAreRuns_47 (by decide) ?_
                    cases hm
                    have hq := hV6 _ hy
                    cases hq
                    subst hQ
                    exact W.zret hx hb hr rfl (fun t ht hW => ⟨_, rfl, rfl, ht⟩) (fun _ h => nomatch h) dX0_extentsAreRuns_48
              · have hm := g_t c9 hm
                refine lv_iconst (v := 1) hx hb dX0_extentsAreRuns_30 (by decide) ?_
                refine lv_istore_n (lv' := [(2, .int (1 : Int32)), (4, .int x8), (0, .ref A_h), (1, .int y1), (3, .int y5)]) hx hb dX0_extentsAreRuns_31 rfl hl (by decide) rfl (fun ls hl => ?_)
                refine lv_goto (tgt := 49) hx hb dX0_extentsAreRuns_32 (by decide) ?_
                refine lv_iinc (v := (y5 + (1 : Int32))) (lv' := [(3, .int (y5 + (1 : Int32))), (2, .int (1 : Int32)), (4, .int x8), (0, .ref A_h), (1, .int y1)]) hx hb dX0_extentsAreRuns_49 hl (k := 4) rfl rfl (by decide) rfl (fun ls hl => ?_)
                refine lv_goto (tgt := 12) hx hb dX0_extentsAreRuns_52 (by decide) ?_
                cases hm
                exact ih _ _ hy _ (lv_sub hl [3, 4, 1, 0] rfl)
        exact hL6 _ _ _ hlp _ (lv_sub hl [2, 3, 1, 0] rfl)
  exact hL2 _ _ hlp _ (lv_sub hl [1, 0] rfl)
abbrev rm_X0_runsAreApart : Room := { frames := 2, cells := 0, slots := 0, locals := 41 }
set_option maxHeartbeats 4000000 in
set_option maxRecDepth 100000 in
theorem k_X0_runsAreApart (l : Launch) (dC : Nat → ClassId) (dI : Nat → Nat → Nat) (A_h A_a : Nat) (K_a : ClassId) (c_a : Nat → Int32)  (r0 : Int32) (hm : m_X0_runsAreApart c_a = some r0) : Met l yX0_runsAreApart wsX0_runsAreApart rm_X0_runsAreApart (va_Pc [.ref A_h] (fun U => va_P (dC, dI) vwCl (wH A_h A_a K_a c_a) U.heap ∧ va_K (dC, dI) vwCl (tH K_a) U)) (vp_Si (fun r => r0 = r)) 0 0 (fun _ => False) := by
  refine Met.ofW (cc := cX0_runsAreApart) (maxL := 5) (ret := (some .boolean)) (by decide) rfl ?_
  intro p e s m args below meth c s₁ B hml hv
  obtain ⟨rfl, hP, hK⟩ := hv
  have hx := B.exec
  have hb := B.bytes
  have hr := B.returns
  have hts := atoms_spec (ws := wsX0_runsAreApart) B.pre
  have hown : s.vm.findClass RX0 = some m.cls := findClass_of_methodNamed B.named
  have hlocks := B.notSynchronized
  have hl := lv_entry ([.ref A_h]) (n := 5) (Nat.le_of_ble_eq_true rfl)
  rw [lg_entry_eq]
  generalize (lg_sl ([.ref A_h]) ++ List.replicate (5 - (lg_sl ([.ref A_h])).length) Slot.unset).toArray = ls at hl ⊢
  have hl : lv_has ls 5 [(0, .ref A_h)] := hl
  refine w_name (fun Q hQ => ?_)
  unfold m_X0_runsAreApart at hm
  refine lv_iconst (v := 0) hx hb dX0_runsAreApart_0 (by decide) ?_
  refine lv_istore_n (lv' := [(1, .int (0 : Int32)), (0, .ref A_h)]) hx hb dX0_runsAreApart_1 rfl hl (by decide) rfl (fun ls hl => ?_)
  refine lv_iconst (v := 0) hx hb dX0_runsAreApart_2 (by decide) ?_
  refine lv_istore_n (lv' := [(2, .int (0 : Int32)), (1, .int (0 : Int32)), (0, .ref A_h)]) hx hb dX0_runsAreApart_3 rfl hl (by decide) rfl (fun ls hl => ?_)
  obtain ⟨rl3, hlp, hm⟩ := g_bind hm
  have hE3 : Sum.inr () = rl3 → ∀ (ls : Array Slot), lv_has ls 5 [] → W p l e (headSpec wsX0_runsAreApart rm_X0_runsAreApart).room s m (([.ref A_h] : List Value).toArray) below meth c s.heap [] 0 0 Q (F0 m 54 ls []) := by
    intro  hq ls hl
    subst hq
    have hm := g_sk_r hm
    have hm := g_k0_s hm
    refine lv_iconst (v := 1) hx hb dX0_runsAreApart_54 (by decide) ?_
    cases hm
    subst hQ
    exact W.zret hx hb hr rfl (fun t ht hW => ⟨_, rfl, rfl, ht⟩) (fun _ h => nomatch h) dX0_runsAreApart_55
  have hV3 : ∀ v, Sum.inl v = rl3 → v = r0 := by
    intro v hq
    subst hq
    have hm := g_sk_l hm
    exact Option.some.inj hm
  have hL3 : ∀ (n : Nat) (y1 : Int32) (y2 : Int32), g_loop (fun q => m_X0_runsAreApart_L4 c_a q.1 q.2) n (y1, y2) = some rl3 → ∀ (ls : Array Slot), lv_has ls 5 [(0, .ref A_h), (1, .int y1), (2, .int y2)] → W p l e (headSpec wsX0_runsAreApart rm_X0_runsAreApart).room s m (([.ref A_h] : List Value).toArray) below meth c s.heap [] 0 0 Q (F0 m 4 ls []) := by
    intro n
    induction n with
    | zero =>
      intro y1 y2 hm
      exact g_loop_z hm
    | succ n ih =>
      intro y1 y2 hm ls hl
      obtain ⟨q, hm, hy⟩ := g_loop_s hm
      have hm : m_X0_runsAreApart_L4 c_a y1 y2 = some q := hm
      unfold m_X0_runsAreApart_L4 at hm
      refine lv_iload_n hx hb dX0_runsAreApart_4 rfl (lv_at hl 2 rfl) ?_
      refine lv_bipush (v := 6) hx hb dX0_runsAreApart_5 (by decide) ?_
      refine lv_icmp_ge (tgt := 54) hx hb dX0_runsAreApart_7 (by decide) (fun c4 => ?_) (fun c4 => ?_)
      · have hm := g_t c4 hm
        cases hm
        exact hE3 hy _ (lv_sub hl [] rfl)
      · have hm := g_f c4 hm
        refine lv_iconst (v := 0) hx hb dX0_runsAreApart_10 (by decide) ?_
        refine lv_istore_n (lv' := [(3, .int (0 : Int32)), (0, .ref A_h), (1, .int y1), (2, .int y2)]) hx hb dX0_runsAreApart_11 rfl hl (by decide) rfl (fun ls hl => ?_)
        obtain ⟨rl8, hlp, hm⟩ := g_bind hm
        have hE8 : ∀ (z7 : Int32), Sum.inr z7 = rl8 → ∀ (ls : Array Slot), lv_has ls 5 [(0, .ref A_h), (1, .int z7), (2, .int y2)] → W p l e (headSpec wsX0_runsAreApart rm_X0_runsAreApart).room s m (([.ref A_h] : List Value).toArray) below meth c s.heap [] 0 0 Q (F0 m 48 ls []) := by
          intro z7 hq ls hl
          subst hq
          have hm := g_sk_r hm
          have hm := g_k1_s hm
          refine lv_iinc (v := (y2 + (1 : Int32))) (lv' := [(2, .int (y2 + (1 : Int32))), (0, .ref A_h), (1, .int z7)]) hx hb dX0_runsAreApart_48 hl (k := 2) rfl rfl (by decide) rfl (fun ls hl => ?_)
          refine lv_goto (tgt := 4) hx hb dX0_runsAreApart_51 (by decide) ?_
          cases hm
          exact ih _ _ hy _ (lv_sub hl [1, 2, 0] rfl)
        have hV8 : ∀ v, Sum.inl v = rl8 → v = r0 := by
          intro v hq
          subst hq
          have hm := g_sk_l hm
          cases hm
          exact hV3 v hy
        have hL8 : ∀ (n : Nat) (y5 : Int32) (y6 : Int32), g_loop (fun q => m_X0_runsAreApart_L12 c_a y2 q.1 q.2) n (y5, y6) = some rl8 → ∀ (ls : Array Slot), lv_has ls 5 [(0, .ref A_h), (1, .int y5), (2, .int y2), (3, .int y6)] → W p l e (headSpec wsX0_runsAreApart rm_X0_runsAreApart).room s m (([.ref A_h] : List Value).toArray) below meth c s.heap [] 0 0 Q (F0 m 12 ls []) := by
          intro n
          induction n with
          | zero =>
            intro y5 y6 hm
            exact g_loop_z hm
          | succ n ih =>
            intro y5 y6 hm ls hl
            obtain ⟨q, hm, hy⟩ := g_loop_s hm
            have hm : m_X0_runsAreApart_L12 c_a y2 y5 y6 = some q := hm
            unfold m_X0_runsAreApart_L12 at hm
            refine lv_iload_n hx hb dX0_runsAreApart_12 rfl (lv_at hl 3 rfl) ?_
            refine lv_iconst (v := 4) hx hb dX0_runsAreApart_13 (by decide) ?_
            refine lv_icmp_ge (tgt := 48) hx hb dX0_runsAreApart_14 (by decide) (fun c9 => ?_) (fun c9 => ?_)
            · have hm := g_t c9 hm
              cases hm
              exact hE8 _ hy _ (lv_sub hl [0, 1, 2] rfl)
            · have hm := g_f c9 hm
              refine lv_aload_n hx hb dX0_runsAreApart_17 rfl (lv_at hl 0 rfl) ?_
              refine lv_iload_n hx hb dX0_runsAreApart_18 rfl (lv_at hl 2 rfl) ?_
              refine lv_iload_n hx hb dX0_runsAreApart_19 rfl (lv_at hl 3 rfl) ?_
              obtain ⟨x10, ex, hm⟩ := g_bind hm
              refine vp_callSi (W.runV (As := [.int y2, .int y6]) (rest := []) ⟨hx, hb, hml, hown, hts⟩ (k_X2_extentOf l dC dI A_h A_a K_a c_a y2 y6 _ ex) (cwV 2 hts gX0_runsAreApart_X2_extentOf rfl rfl rfl (by decide +kernel) ⟨Nat.le_of_ble_eq_true rfl, Nat.le_of_ble_eq_true rfl⟩) ⟨w_blR, va_recv hK hP (ci := 1) (q0 := 0) rfl rfl, fun U hU hW => ⟨rfl, by rw [hU]; exact hP.sub [0, 1] rfl, va_K.moved hW.alike (hK.sub [0] rfl)⟩⟩ rfl rfl hl.1 rfl (lv_room (Nat.le_of_ble_eq_true rfl)) dX0_runsAreApart_20 ⟨Nat.zero_le _, Nat.zero_le _⟩) (fun _ ey => ?_)
              subst ey
              obtain ⟨x11, ex, hm⟩ := g_bind hm
              refine vp_callSi (W.runS (As := [.int x10]) (rest := []) ⟨hx, hb, hml, hown, hts⟩ (k_X3_bitsOf l  x10 _ ex) (va_cwS 1 hts gX0_runsAreApart_X3_bitsOf rfl rfl rfl (by decide +kernel) ⟨Nat.le_of_ble_eq_true rfl, Nat.le_of_ble_eq_true rfl⟩) ⟨w_bl0, fun U hU hW => ⟨rfl, trivial⟩⟩ rfl rfl hl.1 rfl (lv_room (Nat.le_of_ble_eq_true rfl)) dX0_runsAreApart_23 ⟨Nat.zero_le _, Nat.zero_le _⟩) (fun _ ey => ?_)
              subst ey
              refine lv_istore (lv' := [(4, .int x11), (0, .ref A_h), (1, .int y5), (2, .int y2), (3, .int y6)]) hx hb dX0_runsAreApart_26 hl (by decide) rfl (fun ls hl => ?_)
              refine lv_iload_n hx hb dX0_runsAreApart_28 rfl (lv_at hl 2 rfl) ?_
              refine lv_iload hx hb dX0_runsAreApart_29 (lv_at hl 0 rfl) ?_
              refine lv_iand hx hb dX0_runsAreApart_31 ?_
              refine lv_if_eq (tgt := 37) hx hb dX0_runsAreApart_32 (by decide) (fun c12 => ?_) (fun c12 => ?_)
              · have hm := g_t c12 hm
                refine lv_iload_n hx hb dX0_runsAreApart_37 rfl (lv_at hl 2 rfl) ?_
                refine lv_iload hx hb dX0_runsAreApart_38 (lv_at hl 0 rfl) ?_
                refine lv_ior hx hb dX0_runsAreApart_40 ?_
                refine lv_istore_n (lv' := [(1, .int (y5 ||| x11)), (4, .int x11), (0, .ref A_h), (2, .int y2), (3, .int y6)]) hx hb dX0_runsAreApart_41 rfl hl (by decide) rfl (fun ls hl => ?_)
                refine lv_iinc (v := (y6 + (1 : Int32))) (lv' := [(3, .int (y6 + (1 : Int32))), (1, .int (y5 ||| x11)), (4, .int x11), (0, .ref A_h), (2, .int y2)]) hx hb dX0_runsAreApart_42 hl (k := 4) rfl rfl (by decide) rfl (fun ls hl => ?_)
                refine lv_goto (tgt := 12) hx hb dX0_runsAreApart_45 (by decide) ?_
                cases hm
                exact ih _ _ hy _ (lv_sub hl [3, 1, 4, 0] rfl)
              · have hm := g_f c12 hm
                refine lv_iconst (v := 0) hx hb dX0_runsAreApart_35 (by decide) ?_
                cases hm
                have hq := hV8 _ hy
                cases hq
                subst hQ
                exact W.zret hx hb hr rfl (fun t ht hW => ⟨_, rfl, rfl, ht⟩) (fun _ h => nomatch h) dX0_runsAreApart_36
        exact hL8 _ _ _ hlp _ (lv_sub hl [1, 2, 3, 0] rfl)
  exact hL3 _ _ _ hlp _ (lv_sub hl [2, 1, 0] rfl)
abbrev rm_X0_runsFitLengths : Room := { frames := 3, cells := 0, slots := 0, locals := 63 }
set_option maxHeartbeats 4000000 in
set_option maxRecDepth 100000 in
theorem k_X0_runsFitLengths (l : Launch) (dC : Nat → ClassId) (dI : Nat → Nat → Nat) (A_h A_a : Nat) (K_a : ClassId) (c_a : Nat → Int32)  (r0 : Int32) (hm : m_X0_runsFitLengths c_a = some r0) : Met l yX0_runsFitLengths wsX0_runsFitLengths rm_X0_runsFitLengths (va_Pc [.ref A_h] (fun U => va_P (dC, dI) vwCl (wH A_h A_a K_a c_a) U.heap ∧ va_K (dC, dI) vwCl (tH K_a) U)) (vp_Si (fun r => r0 = r)) 0 0 (fun _ => False) := by
  refine Met.ofW (cc := cX0_runsFitLengths) (maxL := 5) (ret := (some .boolean)) (by decide) rfl ?_
  intro p e s m args below meth c s₁ B hml hv
  obtain ⟨rfl, hP, hK⟩ := hv
  have hx := B.exec
  have hb := B.bytes
  have hr := B.returns
  have hts := atoms_spec (ws := wsX0_runsFitLengths) B.pre
  have hown : s.vm.findClass RX0 = some m.cls := findClass_of_methodNamed B.named
  have hlocks := B.notSynchronized
  have hl := lv_entry ([.ref A_h]) (n := 5) (Nat.le_of_ble_eq_true rfl)
  rw [lg_entry_eq]
  generalize (lg_sl ([.ref A_h]) ++ List.replicate (5 - (lg_sl ([.ref A_h])).length) Slot.unset).toArray = ls at hl ⊢
  have hl : lv_has ls 5 [(0, .ref A_h)] := hl
  refine w_name (fun Q hQ => ?_)
  unfold m_X0_runsFitLengths at hm
  refine lv_iconst (v := 0) hx hb dX0_runsFitLengths_0 (by decide) ?_
  refine lv_istore_n (lv' := [(1, .int (0 : Int32)), (0, .ref A_h)]) hx hb dX0_runsFitLengths_1 rfl hl (by decide) rfl (fun ls hl => ?_)
  obtain ⟨rl2, hlp, hm⟩ := g_bind hm
  have hE2 : Sum.inr () = rl2 → ∀ (ls : Array Slot), lv_has ls 5 [] → W p l e (headSpec wsX0_runsFitLengths rm_X0_runsFitLengths).room s m (([.ref A_h] : List Value).toArray) below meth c s.heap [] 0 0 Q (F0 m 68 ls []) := by
    intro  hq ls hl
    subst hq
    have hm := g_sk_r hm
    have hm := g_k0_s hm
    refine lv_iconst (v := 1) hx hb dX0_runsFitLengths_68 (by decide) ?_
    cases hm
    subst hQ
    exact W.zret hx hb hr rfl (fun t ht hW => ⟨_, rfl, rfl, ht⟩) (fun _ h => nomatch h) dX0_runsFitLengths_69
  have hV2 : ∀ v, Sum.inl v = rl2 → v = r0 := by
    intro v hq
    subst hq
    have hm := g_sk_l hm
    exact Option.some.inj hm
  have hL2 : ∀ (n : Nat) (y1 : Int32), g_loop (fun q => m_X0_runsFitLengths_L2 c_a q) n y1 = some rl2 → ∀ (ls : Array Slot), lv_has ls 5 [(0, .ref A_h), (1, .int y1)] → W p l e (headSpec wsX0_runsFitLengths rm_X0_runsFitLengths).room s m (([.ref A_h] : List Value).toArray) below meth c s.heap [] 0 0 Q (F0 m 2 ls []) := by
    intro n
    induction n with
    | zero =>
      intro y1 hm
      exact g_loop_z hm
    | succ n ih =>
      intro y1 hm ls hl
      obtain ⟨q, hm, hy⟩ := g_loop_s hm
      have hm : m_X0_runsFitLengths_L2 c_a y1 = some q := hm
      unfold m_X0_runsFitLengths_L2 at hm
      refine lv_iload_n hx hb dX0_runsFitLengths_2 rfl (lv_at hl 1 rfl) ?_
      refine lv_bipush (v := 6) hx hb dX0_runsFitLengths_3 (by decide) ?_
      refine lv_icmp_ge (tgt := 68) hx hb dX0_runsFitLengths_5 (by decide) (fun c3 => ?_) (fun c3 => ?_)
      · have hm := g_t c3 hm
        cases hm
        exact hE2 hy _ (lv_sub hl [] rfl)
      · have hm := g_f c3 hm
        refine lv_aload_n hx hb dX0_runsFitLengths_8 rfl (lv_at hl 0 rfl) ?_
        refine lv_iload_n hx hb dX0_runsFitLengths_9 rfl (lv_at hl 1 rfl) ?_
        obtain ⟨x4, ex, hm⟩ := g_bind hm
        refine vp_callSi (W.runV (As := [.int y1]) (rest := []) ⟨hx, hb, hml, hown, hts⟩ (k_X2_lengthOf l dC dI A_h A_a K_a c_a y1 _ ex) (cwV 1 hts gX0_runsFitLengths_X2_lengthOf rfl rfl rfl (by decide +kernel) ⟨Nat.le_of_ble_eq_true rfl, Nat.le_of_ble_eq_true rfl⟩) ⟨w_blR, va_recv hK hP (ci := 1) (q0 := 0) rfl rfl, fun U hU hW => ⟨rfl, by rw [hU]; exact hP.sub [0, 1] rfl, va_K.moved hW.alike (hK.sub [0] rfl)⟩⟩ rfl rfl hl.1 rfl (lv_room (Nat.le_of_ble_eq_true rfl)) dX0_runsFitLengths_10 ⟨Nat.zero_le _, Nat.zero_le _⟩) (fun _ ey => ?_)
        subst ey
        obtain ⟨x5, ex, hm⟩ := g_bind hm
        refine vp_callSi (W.runS (As := [.int x4]) (rest := []) ⟨hx, hb, hml, hown, hts⟩ (k_X2_needOf l  x4 _ ex) (va_cwS 1 hts gX0_runsFitLengths_X2_needOf rfl rfl rfl (by decide +kernel) ⟨Nat.le_of_ble_eq_true rfl, Nat.le_of_ble_eq_true rfl⟩) ⟨w_bl0, fun U hU hW => ⟨rfl, trivial⟩⟩ rfl rfl hl.1 rfl (lv_room (Nat.le_of_ble_eq_true rfl)) dX0_runsFitLengths_13 ⟨Nat.zero_le _, Nat.zero_le _⟩) (fun _ ey => ?_)
        subst ey
        refine lv_istore_n (lv' := [(2, .int x5), (0, .ref A_h), (1, .int y1)]) hx hb dX0_runsFitLengths_16 rfl hl (by decide) rfl (fun ls hl => ?_)
        refine lv_aload_n hx hb dX0_runsFitLengths_17 rfl (lv_at hl 1 rfl) ?_
        refine lv_iload_n hx hb dX0_runsFitLengths_18 rfl (lv_at hl 2 rfl) ?_
        obtain ⟨x6, ex, hm⟩ := g_bind hm
        refine vp_callSi (W.runV (As := [.int y1]) (rest := []) ⟨hx, hb, hml, hown, hts⟩ (k_X2_blocksOf l dC dI A_h A_a K_a c_a y1 _ ex) (cwV 1 hts gX0_runsFitLengths_X2_blocksOf rfl rfl rfl (by decide +kernel) ⟨Nat.le_of_ble_eq_true rfl, Nat.le_of_ble_eq_true rfl⟩) ⟨w_blR, va_recv hK hP (ci := 1) (q0 := 0) rfl rfl, fun U hU hW => ⟨rfl, by rw [hU]; exact hP.sub [0, 1] rfl, va_K.moved hW.alike (hK.sub [0] rfl)⟩⟩ rfl rfl hl.1 rfl (lv_room (Nat.le_of_ble_eq_true rfl)) dX0_runsFitLengths_19 ⟨Nat.zero_le _, Nat.zero_le _⟩) (fun _ ey => ?_)
        subst ey
        refine lv_istore_n (lv' := [(3, .int x6), (2, .int x5), (0, .ref A_h), (1, .int y1)]) hx hb dX0_runsFitLengths_22 rfl hl (by decide) rfl (fun ls hl => ?_)
        refine lv_aload_n hx hb dX0_runsFitLengths_23 rfl (lv_at hl 2 rfl) ?_
        refine lv_iload_n hx hb dX0_runsFitLengths_24 rfl (lv_at hl 3 rfl) ?_
        obtain ⟨x7, ex, hm⟩ := g_bind hm
        refine vp_callSi (W.runV (As := [.int y1]) (rest := []) ⟨hx, hb, hml, hown, hts⟩ (k_X2_runsOf l dC dI A_h A_a K_a c_a y1 _ ex) (cwV 1 hts gX0_runsFitLengths_X2_runsOf rfl rfl rfl (by decide +kernel) ⟨Nat.le_of_ble_eq_true rfl, Nat.le_of_ble_eq_true rfl⟩) ⟨w_blR, va_recv hK hP (ci := 1) (q0 := 0) rfl rfl, fun U hU hW => ⟨rfl, by rw [hU]; exact hP.sub [0, 1] rfl, va_K.moved hW.alike (hK.sub [0] rfl)⟩⟩ rfl rfl hl.1 rfl (lv_room (Nat.le_of_ble_eq_true rfl)) dX0_runsFitLengths_25 ⟨Nat.zero_le _, Nat.zero_le _⟩) (fun _ ey => ?_)
        subst ey
        refine lv_istore (lv' := [(4, .int x7), (3, .int x6), (2, .int x5), (0, .ref A_h), (1, .int y1)]) hx hb dX0_runsFitLengths_28 hl (by decide) rfl (fun ls hl => ?_)
        refine lv_iload_n hx hb dX0_runsFitLengths_30 rfl (lv_at hl 1 rfl) ?_
        refine lv_iload_n hx hb dX0_runsFitLengths_31 rfl (lv_at hl 2 rfl) ?_
        refine lv_icmp_ge (tgt := 37) hx hb dX0_runsFitLengths_32 (by decide) (fun c8 => ?_) (fun c8 => ?_)
        · have hm := g_t c8 hm
          refine lv_iload hx hb dX0_runsFitLengths_37 (lv_at hl 0 rfl) ?_
          refine lv_if_le (tgt := 62) hx hb dX0_runsFitLengths_39 (by decide) (fun c9 => ?_) (fun c9 => ?_)
          · have hm := g_t c9 hm
            refine lv_iinc (v := (y1 + (1 : Int32))) (lv' := [(1, .int (y1 + (1 : Int32))), (4, .int x7), (3, .int x6), (2, .int x5), (0, .ref A_h)]) hx hb dX0_runsFitLengths_62 hl (k := 4) rfl rfl (by decide) rfl (fun ls hl => ?_)
            refine lv_goto (tgt := 2) hx hb dX0_runsFitLengths_65 (by decide) ?_
            cases hm
            exact ih _ hy _ (lv_sub hl [4, 0] rfl)
          · have hm := g_f c9 hm
            refine lv_iload_n hx hb dX0_runsFitLengths_42 rfl (lv_at hl 1 rfl) ?_
            refine lv_aload_n hx hb dX0_runsFitLengths_43 rfl (lv_at hl 3 rfl) ?_
            refine lv_iload_n hx hb dX0_runsFitLengths_44 rfl (lv_at hl 4 rfl) ?_
            refine lv_iload hx hb dX0_runsFitLengths_45 (lv_at hl 0 rfl) ?_
            refine lv_iconst (v := 1) hx hb dX0_runsFitLengths_47 (by decide) ?_
            refine lv_isub hx hb dX0_runsFitLengths_48 ?_
            obtain ⟨x10, ex, hm⟩ := g_bind hm
            refine vp_callSi (W.runV (As := [.int y1, .int (x7 - (1 : Int32))]) (rest := [.int x6]) ⟨hx, hb, hml, hown, hts⟩ (k_X2_extentOf l dC dI A_h A_a K_a c_a y1 (x7 - (1 : Int32)) _ ex) (cwV 2 hts gX0_runsFitLengths_X2_extentOf rfl rfl rfl (by decide +kernel) ⟨Nat.le_of_ble_eq_true rfl, Nat.le_of_ble_eq_true rfl⟩) ⟨w_blR, va_recv hK hP (ci := 1) (q0 := 0) rfl rfl, fun U hU hW => ⟨rfl, by rw [hU]; exact hP.sub [0, 1] rfl, va_K.moved hW.alike (hK.sub [0] rfl)⟩⟩ rfl rfl hl.1 rfl (lv_room (Nat.le_of_ble_eq_true rfl)) dX0_runsFitLengths_49 ⟨Nat.zero_le _, Nat.zero_le _⟩) (fun _ ey => ?_)
            subst ey
            obtain ⟨x11, ex, hm⟩ := g_bind hm
            refine vp_callSi (W.runS (As := [.int x10]) (rest := [.int x6]) ⟨hx, hb, hml, hown, hts⟩ (k_X3_blocksOf l  x10 _ ex) (va_cwS 1 hts gX0_runsFitLengths_X3_blocksOf rfl rfl rfl (by decide +kernel) ⟨Nat.le_of_ble_eq_true rfl, Nat.le_of_ble_eq_true rfl⟩) ⟨w_bl0, fun U hU hW => ⟨rfl, trivial⟩⟩ rfl rfl hl.1 rfl (lv_room (Nat.le_of_ble_eq_true rfl)) dX0_runsFitLengths_52 ⟨Nat.zero_le _, Nat.zero_le _⟩) (fun _ ey => ?_)
            subst ey
            refine lv_isub hx hb dX0_runsFitLengths_55 ?_
            refine lv_iload_n hx hb dX0_runsFitLengths_56 rfl (lv_at hl 2 rfl) ?_
            refine lv_icmp_lt (tgt := 62) hx hb dX0_runsFitLengths_57 (by decide) (fun c12 => ?_) (fun c12 => ?_)
            · have hm := g_t c12 hm
              refine lv_iinc (v := (y1 + (1 : Int32))) (lv' := [(1, .int (y1 + (1 : Int32))), (4, .int x7), (3, .int x6), (2, .int x5), (0, .ref A_h)]) hx hb dX0_runsFitLengths_62 hl (k := 4) rfl rfl (by decide) rfl (fun ls hl => ?_)
              refine lv_goto (tgt := 2) hx hb dX0_runsFitLengths_65 (by decide) ?_
              cases hm
              exact ih _ hy _ (lv_sub hl [4, 0] rfl)
            · have hm := g_f c12 hm
              refine lv_iconst (v := 0) hx hb dX0_runsFitLengths_60 (by decide) ?_
              cases hm
              have hq := hV2 _ hy
              cases hq
              subst hQ
              exact W.zret hx hb hr rfl (fun t ht hW => ⟨_, rfl, rfl, ht⟩) (fun _ h => nomatch h) dX0_runsFitLengths_61
        · have hm := g_f c8 hm
          refine lv_iconst (v := 0) hx hb dX0_runsFitLengths_35 (by decide) ?_
          cases hm
          have hq := hV2 _ hy
          cases hq
          subst hQ
          exact W.zret hx hb hr rfl (fun t ht hW => ⟨_, rfl, rfl, ht⟩) (fun _ h => nomatch h) dX0_runsFitLengths_36
  exact hL2 _ _ hlp _ (lv_sub hl [1, 0] rfl)
abbrev rm_X0_bitsOfAllRuns : Room := { frames := 2, cells := 0, slots := 0, locals := 41 }
set_option maxHeartbeats 4000000 in
set_option maxRecDepth 100000 in
theorem k_X0_bitsOfAllRuns (l : Launch) (dC : Nat → ClassId) (dI : Nat → Nat → Nat) (A_h A_a : Nat) (K_a : ClassId) (c_a : Nat → Int32)  (r0 : Int32) (hm : m_X0_bitsOfAllRuns c_a = some r0) : Met l yX0_bitsOfAllRuns wsX0_bitsOfAllRuns rm_X0_bitsOfAllRuns (va_Pc [.ref A_h] (fun U => va_P (dC, dI) vwCl (wH A_h A_a K_a c_a) U.heap ∧ va_K (dC, dI) vwCl (tH K_a) U)) (vp_Si (fun r => r0 = r)) 0 0 (fun _ => False) := by
  refine Met.ofW (cc := cX0_bitsOfAllRuns) (maxL := 4) (ret := (some .int)) (by decide) rfl ?_
  intro p e s m args below meth c s₁ B hml hv
  obtain ⟨rfl, hP, hK⟩ := hv
  have hx := B.exec
  have hb := B.bytes
  have hr := B.returns
  have hts := atoms_spec (ws := wsX0_bitsOfAllRuns) B.pre
  have hown : s.vm.findClass RX0 = some m.cls := findClass_of_methodNamed B.named
  have hlocks := B.notSynchronized
  have hl := lv_entry ([.ref A_h]) (n := 4) (Nat.le_of_ble_eq_true rfl)
  rw [lg_entry_eq]
  generalize (lg_sl ([.ref A_h]) ++ List.replicate (4 - (lg_sl ([.ref A_h])).length) Slot.unset).toArray = ls at hl ⊢
  have hl : lv_has ls 4 [(0, .ref A_h)] := hl
  refine w_name (fun Q hQ => ?_)
  unfold m_X0_bitsOfAllRuns at hm
  refine lv_iconst (v := 0) hx hb dX0_bitsOfAllRuns_0 (by decide) ?_
  refine lv_istore_n (lv' := [(1, .int (0 : Int32)), (0, .ref A_h)]) hx hb dX0_bitsOfAllRuns_1 rfl hl (by decide) rfl (fun ls hl => ?_)
  refine lv_iconst (v := 0) hx hb dX0_bitsOfAllRuns_2 (by decide) ?_
  refine lv_istore_n (lv' := [(2, .int (0 : Int32)), (1, .int (0 : Int32)), (0, .ref A_h)]) hx hb dX0_bitsOfAllRuns_3 rfl hl (by decide) rfl (fun ls hl => ?_)
  obtain ⟨rl4, hlp, hm⟩ := g_bind hm
  have hE4 : ∀ (z3 : Int32), z3 = rl4 → ∀ (ls : Array Slot), lv_has ls 4 [(1, .int z3)] → W p l e (headSpec wsX0_bitsOfAllRuns rm_X0_bitsOfAllRuns).room s m (([.ref A_h] : List Value).toArray) below meth c s.heap [] 0 0 Q (F0 m 41 ls []) := by
    intro z3 hq ls hl
    subst hq
    have hm := g_k1_s hm
    refine lv_iload_n hx hb dX0_bitsOfAllRuns_41 rfl (lv_at hl 0 rfl) ?_
    cases hm
    subst hQ
    exact W.iret hx hb hr (fun t ht hW => ⟨_, rfl, rfl, ht⟩) (fun _ h => nomatch h) dX0_bitsOfAllRuns_42
  have hL4 : ∀ (n : Nat) (y1 : Int32) (y2 : Int32), g_loop (fun q => m_X0_bitsOfAllRuns_L4 c_a q.1 q.2) n (y1, y2) = some rl4 → ∀ (ls : Array Slot), lv_has ls 4 [(0, .ref A_h), (1, .int y1), (2, .int y2)] → W p l e (headSpec wsX0_bitsOfAllRuns rm_X0_bitsOfAllRuns).room s m (([.ref A_h] : List Value).toArray) below meth c s.heap [] 0 0 Q (F0 m 4 ls []) := by
    intro n
    induction n with
    | zero =>
      intro y1 y2 hm
      exact g_loop_z hm
    | succ n ih =>
      intro y1 y2 hm ls hl
      obtain ⟨q, hm, hy⟩ := g_loop_s hm
      have hm : m_X0_bitsOfAllRuns_L4 c_a y1 y2 = some q := hm
      unfold m_X0_bitsOfAllRuns_L4 at hm
      refine lv_iload_n hx hb dX0_bitsOfAllRuns_4 rfl (lv_at hl 2 rfl) ?_
      refine lv_bipush (v := 6) hx hb dX0_bitsOfAllRuns_5 (by decide) ?_
      refine lv_icmp_ge (tgt := 41) hx hb dX0_bitsOfAllRuns_7 (by decide) (fun c5 => ?_) (fun c5 => ?_)
      · have hm := g_t c5 hm
        cases hm
        exact hE4 _ hy _ (lv_sub hl [1] rfl)
      · have hm := g_f c5 hm
        refine lv_iconst (v := 0) hx hb dX0_bitsOfAllRuns_10 (by decide) ?_
        refine lv_istore_n (lv' := [(3, .int (0 : Int32)), (0, .ref A_h), (1, .int y1), (2, .int y2)]) hx hb dX0_bitsOfAllRuns_11 rfl hl (by decide) rfl (fun ls hl => ?_)
        obtain ⟨rl9, hlp, hm⟩ := g_bind hm
        have hE9 : ∀ (z8 : Int32), z8 = rl9 → ∀ (ls : Array Slot), lv_has ls 4 [(0, .ref A_h), (1, .int z8), (2, .int y2)] → W p l e (headSpec wsX0_bitsOfAllRuns rm_X0_bitsOfAllRuns).room s m (([.ref A_h] : List Value).toArray) below meth c s.heap [] 0 0 Q (F0 m 35 ls []) := by
          intro z8 hq ls hl
          subst hq
          have hm := g_k1_s hm
          refine lv_iinc (v := (y2 + (1 : Int32))) (lv' := [(2, .int (y2 + (1 : Int32))), (0, .ref A_h), (1, .int z8)]) hx hb dX0_bitsOfAllRuns_35 hl (k := 2) rfl rfl (by decide) rfl (fun ls hl => ?_)
          refine lv_goto (tgt := 4) hx hb dX0_bitsOfAllRuns_38 (by decide) ?_
          cases hm
          exact ih _ _ hy _ (lv_sub hl [1, 2, 0] rfl)
        have hL9 : ∀ (n : Nat) (y6 : Int32) (y7 : Int32), g_loop (fun q => m_X0_bitsOfAllRuns_L12 c_a y2 q.1 q.2) n (y6, y7) = some rl9 → ∀ (ls : Array Slot), lv_has ls 4 [(0, .ref A_h), (1, .int y6), (2, .int y2), (3, .int y7)] → W p l e (headSpec wsX0_bitsOfAllRuns rm_X0_bitsOfAllRuns).room s m (([.ref A_h] : List Value).toArray) below meth c s.heap [] 0 0 Q (F0 m 12 ls []) := by
          intro n
          induction n with
          | zero =>
            intro y6 y7 hm
            exact g_loop_z hm
          | succ n ih =>
            intro y6 y7 hm ls hl
            obtain ⟨q, hm, hy⟩ := g_loop_s hm
            have hm : m_X0_bitsOfAllRuns_L12 c_a y2 y6 y7 = some q := hm
            unfold m_X0_bitsOfAllRuns_L12 at hm
            refine lv_iload_n hx hb dX0_bitsOfAllRuns_12 rfl (lv_at hl 3 rfl) ?_
            refine lv_iconst (v := 4) hx hb dX0_bitsOfAllRuns_13 (by decide) ?_
            refine lv_icmp_ge (tgt := 35) hx hb dX0_bitsOfAllRuns_14 (by decide) (fun c10 => ?_) (fun c10 => ?_)
            · have hm := g_t c10 hm
              cases hm
              exact hE9 _ hy _ (lv_sub hl [0, 1, 2] rfl)
            · have hm := g_f c10 hm
              refine lv_iload_n hx hb dX0_bitsOfAllRuns_17 rfl (lv_at hl 1 rfl) ?_
              refine lv_aload_n hx hb dX0_bitsOfAllRuns_18 rfl (lv_at hl 0 rfl) ?_
              refine lv_iload_n hx hb dX0_bitsOfAllRuns_19 rfl (lv_at hl 2 rfl) ?_
              refine lv_iload_n hx hb dX0_bitsOfAllRuns_20 rfl (lv_at hl 3 rfl) ?_
              obtain ⟨x11, ex, hm⟩ := g_bind hm
              refine vp_callSi (W.runV (As := [.int y2, .int y7]) (rest := [.int y6]) ⟨hx, hb, hml, hown, hts⟩ (k_X2_extentOf l dC dI A_h A_a K_a c_a y2 y7 _ ex) (cwV 2 hts gX0_bitsOfAllRuns_X2_extentOf rfl rfl rfl (by decide +kernel) ⟨Nat.le_of_ble_eq_true rfl, Nat.le_of_ble_eq_true rfl⟩) ⟨w_blR, va_recv hK hP (ci := 1) (q0 := 0) rfl rfl, fun U hU hW => ⟨rfl, by rw [hU]; exact hP.sub [0, 1] rfl, va_K.moved hW.alike (hK.sub [0] rfl)⟩⟩ rfl rfl hl.1 rfl (lv_room (Nat.le_of_ble_eq_true rfl)) dX0_bitsOfAllRuns_21 ⟨Nat.zero_le _, Nat.zero_le _⟩) (fun _ ey => ?_)
              subst ey
              obtain ⟨x12, ex, hm⟩ := g_bind hm
              refine vp_callSi (W.runS (As := [.int x11]) (rest := [.int y6]) ⟨hx, hb, hml, hown, hts⟩ (k_X3_bitsOf l  x11 _ ex) (va_cwS 1 hts gX0_bitsOfAllRuns_X3_bitsOf rfl rfl rfl (by decide +kernel) ⟨Nat.le_of_ble_eq_true rfl, Nat.le_of_ble_eq_true rfl⟩) ⟨w_bl0, fun U hU hW => ⟨rfl, trivial⟩⟩ rfl rfl hl.1 rfl (lv_room (Nat.le_of_ble_eq_true rfl)) dX0_bitsOfAllRuns_24 ⟨Nat.zero_le _, Nat.zero_le _⟩) (fun _ ey => ?_)
              subst ey
              refine lv_ior hx hb dX0_bitsOfAllRuns_27 ?_
              refine lv_istore_n (lv' := [(1, .int (y6 ||| x12)), (0, .ref A_h), (2, .int y2), (3, .int y7)]) hx hb dX0_bitsOfAllRuns_28 rfl hl (by decide) rfl (fun ls hl => ?_)
              refine lv_iinc (v := (y7 + (1 : Int32))) (lv' := [(3, .int (y7 + (1 : Int32))), (1, .int (y6 ||| x12)), (0, .ref A_h), (2, .int y2)]) hx hb dX0_bitsOfAllRuns_29 hl (k := 3) rfl rfl (by decide) rfl (fun ls hl => ?_)
              refine lv_goto (tgt := 12) hx hb dX0_bitsOfAllRuns_32 (by decide) ?_
              cases hm
              exact ih _ _ hy _ (lv_sub hl [2, 1, 3, 0] rfl)
        exact hL9 _ _ _ hlp _ (lv_sub hl [1, 2, 3, 0] rfl)
  exact hL4 _ _ _ hlp _ (lv_sub hl [2, 1, 0] rfl)
abbrev rm_X0_quotasCoverUsage : Room := { frames := 4, cells := 0, slots := 0, locals := 86 }
set_option maxHeartbeats 4000000 in
set_option maxRecDepth 100000 in
theorem k_X0_quotasCoverUsage (l : Launch) (dC : Nat → ClassId) (dI : Nat → Nat → Nat) (A_h A_a : Nat) (K_a : ClassId) (c_a : Nat → Int32)  (r0 : Int32) (hm : m_X0_quotasCoverUsage c_a = some r0) : Met l yX0_quotasCoverUsage wsX0_quotasCoverUsage rm_X0_quotasCoverUsage (va_Pc [.ref A_h] (fun U => va_P (dC, dI) vwCl (wH A_h A_a K_a c_a) U.heap ∧ va_K (dC, dI) vwCl (tH K_a) U)) (vp_Si (fun r => r0 = r)) 0 0 (fun _ => False) := by
  refine Met.ofW (cc := cX0_quotasCoverUsage) (maxL := 2) (ret := (some .boolean)) (by decide) rfl ?_
  intro p e s m args below meth c s₁ B hml hv
  obtain ⟨rfl, hP, hK⟩ := hv
  have hx := B.exec
  have hb := B.bytes
  have hr := B.returns
  have hts := atoms_spec (ws := wsX0_quotasCoverUsage) B.pre
  have hown : s.vm.findClass RX0 = some m.cls := findClass_of_methodNamed B.named
  have hlocks := B.notSynchronized
  have hl := lv_entry ([.ref A_h]) (n := 2) (Nat.le_of_ble_eq_true rfl)
  rw [lg_entry_eq]
  generalize (lg_sl ([.ref A_h]) ++ List.replicate (2 - (lg_sl ([.ref A_h])).length) Slot.unset).toArray = ls at hl ⊢
  have hl : lv_has ls 2 [(0, .ref A_h)] := hl
  refine w_name (fun Q hQ => ?_)
  unfold m_X0_quotasCoverUsage at hm
  refine lv_iconst (v := 0) hx hb dX0_quotasCoverUsage_0 (by decide) ?_
  refine lv_istore_n (lv' := [(1, .int (0 : Int32)), (0, .ref A_h)]) hx hb dX0_quotasCoverUsage_1 rfl hl (by decide) rfl (fun ls hl => ?_)
  obtain ⟨rl2, hlp, hm⟩ := g_bind hm
  have hE2 : Sum.inr () = rl2 → ∀ (ls : Array Slot), lv_has ls 2 [] → W p l e (headSpec wsX0_quotasCoverUsage rm_X0_quotasCoverUsage).room s m (([.ref A_h] : List Value).toArray) below meth c s.heap [] 0 0 Q (F0 m 33 ls []) := by
    intro  hq ls hl
    subst hq
    have hm := g_sk_r hm
    have hm := g_k0_s hm
    refine lv_iconst (v := 1) hx hb dX0_quotasCoverUsage_33 (by decide) ?_
    cases hm
    subst hQ
    exact W.zret hx hb hr rfl (fun t ht hW => ⟨_, rfl, rfl, ht⟩) (fun _ h => nomatch h) dX0_quotasCoverUsage_34
  have hV2 : ∀ v, Sum.inl v = rl2 → v = r0 := by
    intro v hq
    subst hq
    have hm := g_sk_l hm
    exact Option.some.inj hm
  have hL2 : ∀ (n : Nat) (y1 : Int32), g_loop (fun q => m_X0_quotasCoverUsage_L2 c_a q) n y1 = some rl2 → ∀ (ls : Array Slot), lv_has ls 2 [(0, .ref A_h), (1, .int y1)] → W p l e (headSpec wsX0_quotasCoverUsage rm_X0_quotasCoverUsage).room s m (([.ref A_h] : List Value).toArray) below meth c s.heap [] 0 0 Q (F0 m 2 ls []) := by
    intro n
    induction n with
    | zero =>
      intro y1 hm
      exact g_loop_z hm
    | succ n ih =>
      intro y1 hm ls hl
      obtain ⟨q, hm, hy⟩ := g_loop_s hm
      have hm : m_X0_quotasCoverUsage_L2 c_a y1 = some q := hm
      unfold m_X0_quotasCoverUsage_L2 at hm
      refine lv_iload_n hx hb dX0_quotasCoverUsage_2 rfl (lv_at hl 1 rfl) ?_
      refine lv_iconst (v := 3) hx hb dX0_quotasCoverUsage_3 (by decide) ?_
      refine lv_icmp_ge (tgt := 33) hx hb dX0_quotasCoverUsage_4 (by decide) (fun c3 => ?_) (fun c3 => ?_)
      · have hm := g_t c3 hm
        cases hm
        exact hE2 hy _ (lv_sub hl [] rfl)
      · have hm := g_f c3 hm
        refine lv_aload_n hx hb dX0_quotasCoverUsage_7 rfl (lv_at hl 0 rfl) ?_
        refine lv_iload_n hx hb dX0_quotasCoverUsage_8 rfl (lv_at hl 1 rfl) ?_
        obtain ⟨x4, ex, hm⟩ := g_bind hm
        refine vp_callSi (W.runV (As := [.int y1]) (rest := []) ⟨hx, hb, hml, hown, hts⟩ (k_X2_quotaOf l dC dI A_h A_a K_a c_a y1 _ ex) (cwV 1 hts gX0_quotasCoverUsage_X2_quotaOf rfl rfl rfl (by decide +kernel) ⟨Nat.le_of_ble_eq_true rfl, Nat.le_of_ble_eq_true rfl⟩) ⟨w_blR, va_recv hK hP (ci := 1) (q0 := 0) rfl rfl, fun U hU hW => ⟨rfl, by rw [hU]; exact hP.sub [0, 1] rfl, va_K.moved hW.alike (hK.sub [0] rfl)⟩⟩ rfl rfl hl.1 rfl (lv_room (Nat.le_of_ble_eq_true rfl)) dX0_quotasCoverUsage_9 ⟨Nat.zero_le _, Nat.zero_le _⟩) (fun _ ey => ?_)
        subst ey
        refine lv_aload_n hx hb dX0_quotasCoverUsage_12 rfl (lv_at hl 0 rfl) ?_
        refine lv_iload_n hx hb dX0_quotasCoverUsage_13 rfl (lv_at hl 1 rfl) ?_
        obtain ⟨x5, ex, hm⟩ := g_bind hm
        refine vp_callSi (W.runV (As := [.int y1]) (rest := [.int x4]) ⟨hx, hb, hml, hown, hts⟩ (k_X2_usageOf l dC dI A_h A_a K_a c_a y1 _ ex) (cwV 1 hts gX0_quotasCoverUsage_X2_usageOf rfl rfl rfl (by decide +kernel) ⟨Nat.le_of_ble_eq_true rfl, Nat.le_of_ble_eq_true rfl⟩) ⟨w_blR, va_recv hK hP (ci := 1) (q0 := 0) rfl rfl, fun U hU hW => ⟨rfl, by rw [hU]; exact hP.sub [0, 1] rfl, va_K.moved hW.alike (hK.sub [0] rfl)⟩⟩ rfl rfl hl.1 rfl (lv_room (Nat.le_of_ble_eq_true rfl)) dX0_quotasCoverUsage_14 ⟨Nat.zero_le _, Nat.zero_le _⟩) (fun _ ey => ?_)
        subst ey
        refine lv_bipush (v := 32) hx hb dX0_quotasCoverUsage_17 (by decide) ?_
        obtain ⟨x6, ex, hm⟩ := g_bind hm
        refine vp_callSi (W.runS (As := [.int x4, .int x5, .int (32 : Int32)]) (rest := []) ⟨hx, hb, hml, hown, hts⟩ (k_X0_isIn l  x4 x5 (32 : Int32) _ ex) (va_cwS 3 hts gX0_quotasCoverUsage_X0_isIn rfl rfl rfl (by decide +kernel) ⟨Nat.le_of_ble_eq_true rfl, Nat.le_of_ble_eq_true rfl⟩) ⟨w_bl0, fun U hU hW => ⟨rfl, trivial⟩⟩ rfl rfl hl.1 rfl (lv_room (Nat.le_of_ble_eq_true rfl)) dX0_quotasCoverUsage_19 ⟨Nat.zero_le _, Nat.zero_le _⟩) (fun _ ey => ?_)
        subst ey
        refine lv_if_ne (tgt := 27) hx hb dX0_quotasCoverUsage_22 (by decide) (fun c7 => ?_) (fun c7 => ?_)
        · have hm := g_f c7 hm
          refine lv_iinc (v := (y1 + (1 : Int32))) (lv' := [(1, .int (y1 + (1 : Int32))), (0, .ref A_h)]) hx hb dX0_quotasCoverUsage_27 hl (k := 1) rfl rfl (by decide) rfl (fun ls hl => ?_)
          refine lv_goto (tgt := 2) hx hb dX0_quotasCoverUsage_30 (by decide) ?_
          cases hm
          exact ih _ hy _ (lv_sub hl [1, 0] rfl)
        · have hm := g_t c7 hm
          refine lv_iconst (v := 0) hx hb dX0_quotasCoverUsage_25 (by decide) ?_
          cases hm
          have hq := hV2 _ hy
          cases hq
          subst hQ
          exact W.zret hx hb hr rfl (fun t ht hW => ⟨_, rfl, rfl, ht⟩) (fun _ h => nomatch h) dX0_quotasCoverUsage_26
  exact hL2 _ _ hlp _ (lv_sub hl [1, 0] rfl)
abbrev rm_X0_bitsOfWords : Room := { frames := 3, cells := 0, slots := 0, locals := 66 }
set_option maxHeartbeats 4000000 in
set_option maxRecDepth 100000 in
theorem k_X0_bitsOfWords (l : Launch) (dC : Nat → ClassId) (dI : Nat → Nat → Nat) (A_h A_a : Nat) (K_a : ClassId) (c_a : Nat → Int32) (p1 : Int32) (r0 : Int64) (hm : m_X0_bitsOfWords c_a p1 = some r0) : Met l yX0_bitsOfWords wsX0_bitsOfWords rm_X0_bitsOfWords (va_Pc [.ref A_h, .int p1] (fun U => va_P (dC, dI) vwCl (wH A_h A_a K_a c_a) U.heap ∧ va_K (dC, dI) vwCl (tH K_a) U)) (vp_Sl (fun r => r0 = r)) 0 0 (fun _ => False) := by
  refine Met.ofW (cc := cX0_bitsOfWords) (maxL := 7) (ret := (some .long)) (by decide) rfl ?_
  intro p e s m args below meth c s₁ B hml hv
  obtain ⟨rfl, hP, hK⟩ := hv
  have hx := B.exec
  have hb := B.bytes
  have hr := B.returns
  have hts := atoms_spec (ws := wsX0_bitsOfWords) B.pre
  have hown : s.vm.findClass RX0 = some m.cls := findClass_of_methodNamed B.named
  have hlocks := B.notSynchronized
  have hl := lv_entry ([.ref A_h, .int p1]) (n := 7) (Nat.le_of_ble_eq_true rfl)
  rw [lg_entry_eq]
  generalize (lg_sl ([.ref A_h, .int p1]) ++ List.replicate (7 - (lg_sl ([.ref A_h, .int p1])).length) Slot.unset).toArray = ls at hl ⊢
  have hl : lv_has ls 7 [(0, .ref A_h), (1, .int p1)] := hl
  refine w_name (fun Q hQ => ?_)
  unfold m_X0_bitsOfWords at hm
  refine lv_lconst (v := 0) hx hb dX0_bitsOfWords_0 (by decide) ?_
  refine lv_lstore_n (lv' := [(2, .long (0 : Int64)), (0, .ref A_h), (1, .int p1)]) hx hb dX0_bitsOfWords_1 rfl hl (by decide) rfl (fun ls hl => ?_)
  refine lv_aload_n hx hb dX0_bitsOfWords_2 rfl (lv_at hl 1 rfl) ?_
  refine lv_iload_n hx hb dX0_bitsOfWords_3 rfl (lv_at hl 2 rfl) ?_
  obtain ⟨x1, ex, hm⟩ := g_bind hm
  refine vp_callSi (W.runV (As := [.int p1]) (rest := []) ⟨hx, hb, hml, hown, hts⟩ (k_X2_lengthOf l dC dI A_h A_a K_a c_a p1 _ ex) (cwV 1 hts gX0_bitsOfWords_X2_lengthOf rfl rfl rfl (by decide +kernel) ⟨Nat.le_of_ble_eq_true rfl, Nat.le_of_ble_eq_true rfl⟩) ⟨w_blR, va_recv hK hP (ci := 1) (q0 := 0) rfl rfl, fun U hU hW => ⟨rfl, by rw [hU]; exact hP.sub [0, 1] rfl, va_K.moved hW.alike (hK.sub [0] rfl)⟩⟩ rfl rfl hl.1 rfl (lv_room (Nat.le_of_ble_eq_true rfl)) dX0_bitsOfWords_4 ⟨Nat.zero_le _, Nat.zero_le _⟩) (fun _ ey => ?_)
  subst ey
  refine lv_istore (lv' := [(4, .int x1), (2, .long (0 : Int64)), (0, .ref A_h), (1, .int p1)]) hx hb dX0_bitsOfWords_7 hl (by decide) rfl (fun ls hl => ?_)
  refine lv_iconst (v := 0) hx hb dX0_bitsOfWords_9 (by decide) ?_
  refine lv_istore (lv' := [(5, .int (0 : Int32)), (4, .int x1), (2, .long (0 : Int64)), (0, .ref A_h), (1, .int p1)]) hx hb dX0_bitsOfWords_10 hl (by decide) rfl (fun ls hl => ?_)
  obtain ⟨rl5, hlp, hm⟩ := g_bind hm
  have hE5 : ∀ (z4 : Int64), z4 = rl5 → ∀ (ls : Array Slot), lv_has ls 7 [(2, .long z4)] → W p l e (headSpec wsX0_bitsOfWords rm_X0_bitsOfWords).room s m (([.ref A_h, .int p1] : List Value).toArray) below meth c s.heap [] 0 0 Q (F0 m 47 ls []) := by
    intro z4 hq ls hl
    subst hq
    have hm := g_k1_s hm
    refine lv_lload_n hx hb dX0_bitsOfWords_47 rfl (lv_at hl 0 rfl) ?_
    cases hm
    subst hQ
    exact W.lret hx hb hr (fun t ht hW => ⟨_, rfl, rfl, ht⟩) (fun _ h => nomatch h) dX0_bitsOfWords_48
  have hL5 : ∀ (n : Nat) (y2 : Int64) (y3 : Int32), g_loop (fun q => m_X0_bitsOfWords_L12 p1 c_a x1 q.1 q.2) n (y2, y3) = some rl5 → ∀ (ls : Array Slot), lv_has ls 7 [(0, .ref A_h), (1, .int p1), (2, .long y2), (4, .int x1), (5, .int y3)] → W p l e (headSpec wsX0_bitsOfWords rm_X0_bitsOfWords).room s m (([.ref A_h, .int p1] : List Value).toArray) below meth c s.heap [] 0 0 Q (F0 m 12 ls []) := by
    intro n
    induction n with
    | zero =>
      intro y2 y3 hm
      exact g_loop_z hm
    | succ n ih =>
      intro y2 y3 hm ls hl
      obtain ⟨q, hm, hy⟩ := g_loop_s hm
      have hm : m_X0_bitsOfWords_L12 p1 c_a x1 y2 y3 = some q := hm
      unfold m_X0_bitsOfWords_L12 at hm
      refine lv_iload hx hb dX0_bitsOfWords_12 (lv_at hl 4 rfl) ?_
      refine lv_iload hx hb dX0_bitsOfWords_14 (lv_at hl 3 rfl) ?_
      refine lv_icmp_ge (tgt := 47) hx hb dX0_bitsOfWords_16 (by decide) (fun c6 => ?_) (fun c6 => ?_)
      · have hm := g_t c6 hm
        cases hm
        exact hE5 _ hy _ (lv_sub hl [2] rfl)
      · have hm := g_f c6 hm
        refine lv_aload_n hx hb dX0_bitsOfWords_19 rfl (lv_at hl 0 rfl) ?_
        refine lv_iload_n hx hb dX0_bitsOfWords_20 rfl (lv_at hl 1 rfl) ?_
        refine lv_iload hx hb dX0_bitsOfWords_21 (lv_at hl 4 rfl) ?_
        obtain ⟨x7, ex, hm⟩ := g_bind hm
        refine vp_callSi (W.runV (As := [.int p1, .int y3]) (rest := []) ⟨hx, hb, hml, hown, hts⟩ (k_X2_wordIndex l dC dI A_h A_a K_a c_a p1 y3 _ ex) (cwV 2 hts gX0_bitsOfWords_X2_wordIndex rfl rfl rfl (by decide +kernel) ⟨Nat.le_of_ble_eq_true rfl, Nat.le_of_ble_eq_true rfl⟩) ⟨w_blR, va_recv hK hP (ci := 1) (q0 := 0) rfl rfl, fun U hU hW => ⟨rfl, by rw [hU]; exact hP.sub [0, 1] rfl, va_K.moved hW.alike (hK.sub [0] rfl)⟩⟩ rfl rfl hl.1 rfl (lv_room (Nat.le_of_ble_eq_true rfl)) dX0_bitsOfWords_23 ⟨Nat.zero_le _, Nat.zero_le _⟩) (fun _ ey => ?_)
        subst ey
        refine lv_istore (lv' := [(6, .int x7), (0, .ref A_h), (1, .int p1), (2, .long y2), (4, .int x1), (5, .int y3)]) hx hb dX0_bitsOfWords_26 hl (by decide) rfl (fun ls hl => ?_)
        refine lv_iload hx hb dX0_bitsOfWords_28 (lv_at hl 0 rfl) ?_
        refine lv_iconst (v := -1) hx hb dX0_bitsOfWords_30 (by decide) ?_
        refine lv_icmp_eq (tgt := 41) hx hb dX0_bitsOfWords_31 (by decide) (fun c8 => ?_) (fun c8 => ?_)
        · have hm := g_t c8 hm
          refine lv_iinc (v := (y3 + (1 : Int32))) (lv' := [(5, .int (y3 + (1 : Int32))), (6, .int x7), (0, .ref A_h), (1, .int p1), (2, .long y2), (4, .int x1)]) hx hb dX0_bitsOfWords_41 hl (k := 5) rfl rfl (by decide) rfl (fun ls hl => ?_)
          refine lv_goto (tgt := 12) hx hb dX0_bitsOfWords_44 (by decide) ?_
          cases hm
          exact ih _ _ hy _ (lv_sub hl [2, 3, 4, 5, 0] rfl)
        · have hm := g_f c8 hm
          refine lv_lload_n hx hb dX0_bitsOfWords_34 rfl (lv_at hl 3 rfl) ?_
          refine lv_lconst (v := 1) hx hb dX0_bitsOfWords_35 (by decide) ?_
          refine lv_iload hx hb dX0_bitsOfWords_36 (lv_at hl 0 rfl) ?_
          refine lv_lshl (v := (g_lshl (1 : Int64) x7)) hx hb dX0_bitsOfWords_38 rfl ?_
          refine lv_lor hx hb dX0_bitsOfWords_39 ?_
          refine lv_lstore_n (lv' := [(2, .long (y2 ||| (g_lshl (1 : Int64) x7))), (6, .int x7), (0, .ref A_h), (1, .int p1), (4, .int x1), (5, .int y3)]) hx hb dX0_bitsOfWords_40 rfl hl (by decide) rfl (fun ls hl => ?_)
          refine lv_iinc (v := (y3 + (1 : Int32))) (lv' := [(5, .int (y3 + (1 : Int32))), (2, .long (y2 ||| (g_lshl (1 : Int64) x7))), (6, .int x7), (0, .ref A_h), (1, .int p1), (4, .int x1)]) hx hb dX0_bitsOfWords_41 hl (k := 5) rfl rfl (by decide) rfl (fun ls hl => ?_)
          refine lv_goto (tgt := 12) hx hb dX0_bitsOfWords_44 (by decide) ?_
          cases hm
          exact ih _ _ hy _ (lv_sub hl [3, 4, 1, 5, 0] rfl)
  exact hL5 _ _ _ hlp _ (lv_sub hl [3, 4, 2, 1, 0] rfl)
theorem hi_X0_looseWordsAreZero_X2 : ∀ w ∈ wsX20, w ∈ wsX0_looseWordsAreZero := by decide +kernel
theorem hk_X0_looseWordsAreZero_27 : Cond.fieldLink RX0 27 "BuddyFiles$Home" "cells" "[I" ∈ wsX0_looseWordsAreZero := by decide +kernel
abbrev rm_X0_looseWordsAreZero : Room := { frames := 4, cells := 0, slots := 0, locals := 92 }
set_option maxHeartbeats 4000000 in
set_option maxRecDepth 100000 in
theorem k_X0_looseWordsAreZero (l : Launch) (dC : Nat → ClassId) (dI : Nat → Nat → Nat) (A_h A_a : Nat) (K_a : ClassId) (c_a : Nat → Int32)  (r0 : Int32) (hm : m_X0_looseWordsAreZero c_a = some r0) : Met l yX0_looseWordsAreZero wsX0_looseWordsAreZero rm_X0_looseWordsAreZero (va_Pc [.ref A_h] (fun U => va_P (dC, dI) vwCl (wH A_h A_a K_a c_a) U.heap ∧ va_K (dC, dI) vwCl (tH K_a) U)) (vp_Si (fun r => r0 = r)) 0 0 (fun _ => False) := by
  refine Met.ofW (cc := cX0_looseWordsAreZero) (maxL := 4) (ret := (some .boolean)) (by decide) rfl ?_
  intro p e s m args below meth c s₁ B hml hv
  obtain ⟨rfl, hP, hK⟩ := hv
  have hx := B.exec
  have hb := B.bytes
  have hr := B.returns
  have hts := atoms_spec (ws := wsX0_looseWordsAreZero) B.pre
  have hown : s.vm.findClass RX0 = some m.cls := findClass_of_methodNamed B.named
  have hlocks := B.notSynchronized
  have hl := lv_entry ([.ref A_h]) (n := 4) (Nat.le_of_ble_eq_true rfl)
  rw [lg_entry_eq]
  generalize (lg_sl ([.ref A_h]) ++ List.replicate (4 - (lg_sl ([.ref A_h])).length) Slot.unset).toArray = ls at hl ⊢
  have hl : lv_has ls 4 [(0, .ref A_h)] := hl
  refine w_name (fun Q hQ => ?_)
  unfold m_X0_looseWordsAreZero at hm
  refine lv_lconst (v := 0) hx hb dX0_looseWordsAreZero_0 (by decide) ?_
  refine lv_lstore_n (lv' := [(1, .long (0 : Int64)), (0, .ref A_h)]) hx hb dX0_looseWordsAreZero_1 rfl hl (by decide) rfl (fun ls hl => ?_)
  refine lv_iconst (v := 0) hx hb dX0_looseWordsAreZero_2 (by decide) ?_
  refine lv_istore_n (lv' := [(3, .int (0 : Int32)), (1, .long (0 : Int64)), (0, .ref A_h)]) hx hb dX0_looseWordsAreZero_3 rfl hl (by decide) rfl (fun ls hl => ?_)
  obtain ⟨rl4, hlp, hm⟩ := g_bind hm
  have hE4 : ∀ (z3 : Int64), z3 = rl4 → ∀ (ls : Array Slot), lv_has ls 4 [(0, .ref A_h), (1, .long z3)] → W p l e (headSpec wsX0_looseWordsAreZero rm_X0_looseWordsAreZero).room s m (([.ref A_h] : List Value).toArray) below meth c s.heap [] 0 0 Q (F0 m 24 ls []) := by
    intro z3 hq ls hl
    subst hq
    have hm := g_k1_s hm
    refine lv_iconst (v := 0) hx hb dX0_looseWordsAreZero_24 (by decide) ?_
    refine lv_istore_n (lv' := [(3, .int (0 : Int32)), (0, .ref A_h), (1, .long z3)]) hx hb dX0_looseWordsAreZero_25 rfl hl (by decide) rfl (fun ls hl => ?_)
    obtain ⟨rl8, hlp, hm⟩ := g_bind hm
    have hE8 : Sum.inr () = rl8 → ∀ (ls : Array Slot), lv_has ls 4 [] → W p l e (headSpec wsX0_looseWordsAreZero rm_X0_looseWordsAreZero).room s m (([.ref A_h] : List Value).toArray) below meth c s.heap [] 0 0 Q (F0 m 62 ls []) := by
      intro  hq ls hl
      subst hq
      have hm := g_sk_r hm
      have hm := g_k0_s hm
      refine lv_iconst (v := 1) hx hb dX0_looseWordsAreZero_62 (by decide) ?_
      cases hm
      subst hQ
      exact W.zret hx hb hr rfl (fun t ht hW => ⟨_, rfl, rfl, ht⟩) (fun _ h => nomatch h) dX0_looseWordsAreZero_63
    have hV8 : ∀ v, Sum.inl v = rl8 → v = r0 := by
      intro v hq
      subst hq
      have hm := g_sk_l hm
      exact Option.some.inj hm
    have hL8 : ∀ (n : Nat) (y7 : Int32), g_loop (fun q => m_X0_looseWordsAreZero_L26 c_a z3 q) n y7 = some rl8 → ∀ (ls : Array Slot), lv_has ls 4 [(0, .ref A_h), (1, .long z3), (3, .int y7)] → W p l e (headSpec wsX0_looseWordsAreZero rm_X0_looseWordsAreZero).room s m (([.ref A_h] : List Value).toArray) below meth c s.heap [] 0 0 Q (F0 m 26 ls []) := by
      intro n
      induction n with
      | zero =>
        intro y7 hm
        exact g_loop_z hm
      | succ n ih =>
        intro y7 hm ls hl
        obtain ⟨q, hm, hy⟩ := g_loop_s hm
        have hm : m_X0_looseWordsAreZero_L26 c_a z3 y7 = some q := hm
        unfold m_X0_looseWordsAreZero_L26 at hm
        refine lv_iload_n hx hb dX0_looseWordsAreZero_26 rfl (lv_at hl 2 rfl) ?_
        refine lv_bipush (v := 64) hx hb dX0_looseWordsAreZero_27 (by decide) ?_
        refine lv_icmp_ge (tgt := 62) hx hb dX0_looseWordsAreZero_29 (by decide) (fun c9 => ?_) (fun c9 => ?_)
        · have hm := g_t c9 hm
          cases hm
          exact hE8 hy _ (lv_sub hl [] rfl)
        · have hm := g_f c9 hm
          refine lv_lload_n hx hb dX0_looseWordsAreZero_32 rfl (lv_at hl 1 rfl) ?_
          refine lv_iload_n hx hb dX0_looseWordsAreZero_33 rfl (lv_at hl 2 rfl) ?_
          refine lv_lushr (v := (g_lushr z3 y7)) hx hb dX0_looseWordsAreZero_34 rfl ?_
          refine lv_lconst (v := 1) hx hb dX0_looseWordsAreZero_35 (by decide) ?_
          refine lv_land hx hb dX0_looseWordsAreZero_36 ?_
          refine lv_lconst (v := 0) hx hb dX0_looseWordsAreZero_37 (by decide) ?_
          refine W.lcmp hx hb dX0_looseWordsAreZero_38 ?_
          refine lv_if_ne (tgt := 56) hx hb dX0_looseWordsAreZero_39 (by decide) (fun c10 => ?_) (fun c10 => ?_)
          · have hm := g_f c10 hm
            refine lv_iinc (v := (y7 + (1 : Int32))) (lv' := [(3, .int (y7 + (1 : Int32))), (0, .ref A_h), (1, .long z3)]) hx hb dX0_looseWordsAreZero_56 hl (k := 2) rfl rfl (by decide) rfl (fun ls hl => ?_)
            refine lv_goto (tgt := 26) hx hb dX0_looseWordsAreZero_59 (by decide) ?_
            cases hm
            exact ih _ hy _ (lv_sub hl [1, 2, 0] rfl)
          · have hm := g_t c10 hm
            refine lv_aload_n hx hb dX0_looseWordsAreZero_42 rfl (lv_at hl 0 rfl) ?_
            refine va_get (D := (dC, dI)) (ci := 1) (v := .ref A_a) (C := RX2) (T := TX2) (N := 1) hx hb hts hi_X0_looseWordsAreZero_X2 hown hK hP 0 rfl rfl 0 (by decide) (hts (Cond.fieldLink RX0 27 "BuddyFiles$Home" "cells" "[I") hk_X0_looseWordsAreZero_27) (fun _ h9 => h9) rfl dX0_looseWordsAreZero_43 ?_
            refine lv_bipush (v := 46) hx hb dX0_looseWordsAreZero_46 (by decide) ?_
            refine lv_iload_n hx hb dX0_looseWordsAreZero_48 rfl (lv_at hl 2 rfl) ?_
            refine lv_iadd hx hb dX0_looseWordsAreZero_49 ?_
            obtain ⟨x11, ex, hm⟩ := g_bind hm
            refine w_ald hx hb hK hP 1 0 rfl rfl ex dX0_looseWordsAreZero_50 ?_
            refine lv_if_eq (tgt := 56) hx hb dX0_looseWordsAreZero_51 (by decide) (fun c12 => ?_) (fun c12 => ?_)
            · have hm := g_t c12 hm
              refine lv_iinc (v := (y7 + (1 : Int32))) (lv' := [(3, .int (y7 + (1 : Int32))), (0, .ref A_h), (1, .long z3)]) hx hb dX0_looseWordsAreZero_56 hl (k := 2) rfl rfl (by decide) rfl (fun ls hl => ?_)
              refine lv_goto (tgt := 26) hx hb dX0_looseWordsAreZero_59 (by decide) ?_
              cases hm
              exact ih _ hy _ (lv_sub hl [1, 2, 0] rfl)
            · have hm := g_f c12 hm
              refine lv_iconst (v := 0) hx hb dX0_looseWordsAreZero_54 (by decide) ?_
              cases hm
              have hq := hV8 _ hy
              cases hq
              subst hQ
              exact W.zret hx hb hr rfl (fun t ht hW => ⟨_, rfl, rfl, ht⟩) (fun _ h => nomatch h) dX0_looseWordsAreZero_55
    exact hL8 _ _ hlp _ (lv_sub hl [1, 2, 0] rfl)
  have hL4 : ∀ (n : Nat) (y1 : Int64) (y2 : Int32), g_loop (fun q => m_X0_looseWordsAreZero_L4 c_a q.1 q.2) n (y1, y2) = some rl4 → ∀ (ls : Array Slot), lv_has ls 4 [(0, .ref A_h), (1, .long y1), (3, .int y2)] → W p l e (headSpec wsX0_looseWordsAreZero rm_X0_looseWordsAreZero).room s m (([.ref A_h] : List Value).toArray) below meth c s.heap [] 0 0 Q (F0 m 4 ls []) := by
    intro n
    induction n with
    | zero =>
      intro y1 y2 hm
      exact g_loop_z hm
    | succ n ih =>
      intro y1 y2 hm ls hl
      obtain ⟨q, hm, hy⟩ := g_loop_s hm
      have hm : m_X0_looseWordsAreZero_L4 c_a y1 y2 = some q := hm
      unfold m_X0_looseWordsAreZero_L4 at hm
      refine lv_iload_n hx hb dX0_looseWordsAreZero_4 rfl (lv_at hl 2 rfl) ?_
      refine lv_bipush (v := 6) hx hb dX0_looseWordsAreZero_5 (by decide) ?_
      refine lv_icmp_ge (tgt := 24) hx hb dX0_looseWordsAreZero_7 (by decide) (fun c5 => ?_) (fun c5 => ?_)
      · have hm := g_t c5 hm
        cases hm
        exact hE4 _ hy _ (lv_sub hl [0, 1] rfl)
      · have hm := g_f c5 hm
        refine lv_lload_n hx hb dX0_looseWordsAreZero_10 rfl (lv_at hl 1 rfl) ?_
        refine lv_aload_n hx hb dX0_looseWordsAreZero_11 rfl (lv_at hl 0 rfl) ?_
        refine lv_iload_n hx hb dX0_looseWordsAreZero_12 rfl (lv_at hl 2 rfl) ?_
        obtain ⟨x6, ex, hm⟩ := g_bind hm
        refine vp_callSl (W.runS (As := [.ref A_h, .int y2]) (rest := [.long y1]) ⟨hx, hb, hml, hown, hts⟩ (k_X0_bitsOfWords l dC dI A_h A_a K_a c_a y2 _ ex) (va_cwS 2 hts gX0_looseWordsAreZero_X0_bitsOfWords rfl rfl rfl (by decide +kernel) ⟨Nat.le_of_ble_eq_true rfl, Nat.le_of_ble_eq_true rfl⟩) ⟨w_blR, fun U hU hW => ⟨rfl, by rw [hU]; exact hP.sub [0, 1] rfl, va_K.moved hW.alike (hK.sub [0] rfl)⟩⟩ rfl rfl hl.1 rfl (lv_room (Nat.le_of_ble_eq_true rfl)) dX0_looseWordsAreZero_13 ⟨Nat.zero_le _, Nat.zero_le _⟩) (fun _ ey => ?_)
        subst ey
        refine lv_lor hx hb dX0_looseWordsAreZero_16 ?_
        refine lv_lstore_n (lv' := [(1, .long (y1 ||| x6)), (0, .ref A_h), (3, .int y2)]) hx hb dX0_looseWordsAreZero_17 rfl hl (by decide) rfl (fun ls hl => ?_)
        refine lv_iinc (v := (y2 + (1 : Int32))) (lv' := [(3, .int (y2 + (1 : Int32))), (1, .long (y1 ||| x6)), (0, .ref A_h)]) hx hb dX0_looseWordsAreZero_18 hl (k := 2) rfl rfl (by decide) rfl (fun ls hl => ?_)
        refine lv_goto (tgt := 4) hx hb dX0_looseWordsAreZero_21 (by decide) ?_
        cases hm
        exact ih _ _ hy _ (lv_sub hl [2, 1, 0] rfl)
  exact hL4 _ _ _ hlp _ (lv_sub hl [2, 1, 0] rfl)
theorem hi_X0_leastBroken_X2 : ∀ w ∈ wsX20, w ∈ wsX0_leastBroken := by decide +kernel
theorem hk_X0_leastBroken_27 : Cond.fieldLink RX0 27 "BuddyFiles$Home" "cells" "[I" ∈ wsX0_leastBroken := by decide +kernel
abbrev rm_X0_leastBroken : Room := { frames := 5, cells := 0, slots := 0, locals := 115 }
set_option maxHeartbeats 4000000 in
set_option maxRecDepth 100000 in
theorem k_X0_leastBroken (l : Launch) (dC : Nat → ClassId) (dI : Nat → Nat → Nat) (A_h A_a : Nat) (K_a : ClassId) (c_a : Nat → Int32)  (r0 : Int32) (hm : m_X0_leastBroken c_a = some r0) : Met l yX0_leastBroken wsX0_leastBroken rm_X0_leastBroken (va_Pc [.ref A_h] (fun U => va_P (dC, dI) vwCl (wH A_h A_a K_a c_a) U.heap ∧ va_K (dC, dI) vwCl (tH K_a) U)) (vp_Si (fun r => r0 = r)) 0 0 (fun _ => False) := by
  refine Met.ofW (cc := cX0_leastBroken) (maxL := 1) (ret := (some .int)) (by decide) rfl ?_
  intro p e s m args below meth c s₁ B hml hv
  obtain ⟨rfl, hP, hK⟩ := hv
  have hx := B.exec
  have hb := B.bytes
  have hr := B.returns
  have hts := atoms_spec (ws := wsX0_leastBroken) B.pre
  have hown : s.vm.findClass RX0 = some m.cls := findClass_of_methodNamed B.named
  have hlocks := B.notSynchronized
  have hl := lv_entry ([.ref A_h]) (n := 1) (Nat.le_of_ble_eq_true rfl)
  rw [lg_entry_eq]
  generalize (lg_sl ([.ref A_h]) ++ List.replicate (1 - (lg_sl ([.ref A_h])).length) Slot.unset).toArray = ls at hl ⊢
  have hl : lv_has ls 1 [(0, .ref A_h)] := hl
  refine w_name (fun Q hQ => ?_)
  unfold m_X0_leastBroken at hm
  refine lv_aload_n hx hb dX0_leastBroken_0 rfl (lv_at hl 0 rfl) ?_
  obtain ⟨x1, ex, hm⟩ := g_bind hm
  refine vp_callSi (W.runS (As := [.ref A_h]) (rest := []) ⟨hx, hb, hml, hown, hts⟩ (k_X0_slotsAreInRange l dC dI A_h A_a K_a c_a  _ ex) (va_cwS 1 hts gX0_leastBroken_X0_slotsAreInRange rfl rfl rfl (by decide +kernel) ⟨Nat.le_of_ble_eq_true rfl, Nat.le_of_ble_eq_true rfl⟩) ⟨w_blR, fun U hU hW => ⟨rfl, by rw [hU]; exact hP.sub [0, 1] rfl, va_K.moved hW.alike (hK.sub [0] rfl)⟩⟩ rfl rfl hl.1 rfl (lv_room (Nat.le_of_ble_eq_true rfl)) dX0_leastBroken_1 ⟨Nat.zero_le _, Nat.zero_le _⟩) (fun _ ey => ?_)
  subst ey
  refine lv_if_ne (tgt := 9) hx hb dX0_leastBroken_4 (by decide) (fun c2 => ?_) (fun c2 => ?_)
  · have hm := g_f c2 hm
    refine lv_aload_n hx hb dX0_leastBroken_9 rfl (lv_at hl 0 rfl) ?_
    obtain ⟨x3, ex, hm⟩ := g_bind hm
    refine vp_callSi (W.runS (As := [.ref A_h]) (rest := []) ⟨hx, hb, hml, hown, hts⟩ (k_X0_namesDiffer l dC dI A_h A_a K_a c_a  _ ex) (va_cwS 1 hts gX0_leastBroken_X0_namesDiffer rfl rfl rfl (by decide +kernel) ⟨Nat.le_of_ble_eq_true rfl, Nat.le_of_ble_eq_true rfl⟩) ⟨w_blR, fun U hU hW => ⟨rfl, by rw [hU]; exact hP.sub [0, 1] rfl, va_K.moved hW.alike (hK.sub [0] rfl)⟩⟩ rfl rfl hl.1 rfl (lv_room (Nat.le_of_ble_eq_true rfl)) dX0_leastBroken_10 ⟨Nat.zero_le _, Nat.zero_le _⟩) (fun _ ey => ?_)
    subst ey
    refine lv_if_ne (tgt := 18) hx hb dX0_leastBroken_13 (by decide) (fun c4 => ?_) (fun c4 => ?_)
    · have hm := g_f c4 hm
      refine lv_aload_n hx hb dX0_leastBroken_18 rfl (lv_at hl 0 rfl) ?_
      obtain ⟨x5, ex, hm⟩ := g_bind hm
      refine vp_callSi (W.runS (As := [.ref A_h]) (rest := []) ⟨hx, hb, hml, hown, hts⟩ (k_X0_extentsAreRuns l dC dI A_h A_a K_a c_a  _ ex) (va_cwS 1 hts gX0_leastBroken_X0_extentsAreRuns rfl rfl rfl (by decide +kernel) ⟨Nat.le_of_ble_eq_true rfl, Nat.le_of_ble_eq_true rfl⟩) ⟨w_blR, fun U hU hW => ⟨rfl, by rw [hU]; exact hP.sub [0, 1] rfl, va_K.moved hW.alike (hK.sub [0] rfl)⟩⟩ rfl rfl hl.1 rfl (lv_room (Nat.le_of_ble_eq_true rfl)) dX0_leastBroken_19 ⟨Nat.zero_le _, Nat.zero_le _⟩) (fun _ ey => ?_)
      subst ey
      refine lv_if_ne (tgt := 27) hx hb dX0_leastBroken_22 (by decide) (fun c6 => ?_) (fun c6 => ?_)
      · have hm := g_f c6 hm
        refine lv_aload_n hx hb dX0_leastBroken_27 rfl (lv_at hl 0 rfl) ?_
        obtain ⟨x7, ex, hm⟩ := g_bind hm
        refine vp_callSi (W.runS (As := [.ref A_h]) (rest := []) ⟨hx, hb, hml, hown, hts⟩ (k_X0_runsAreApart l dC dI A_h A_a K_a c_a  _ ex) (va_cwS 1 hts gX0_leastBroken_X0_runsAreApart rfl rfl rfl (by decide +kernel) ⟨Nat.le_of_ble_eq_true rfl, Nat.le_of_ble_eq_true rfl⟩) ⟨w_blR, fun U hU hW => ⟨rfl, by rw [hU]; exact hP.sub [0, 1] rfl, va_K.moved hW.alike (hK.sub [0] rfl)⟩⟩ rfl rfl hl.1 rfl (lv_room (Nat.le_of_ble_eq_true rfl)) dX0_leastBroken_28 ⟨Nat.zero_le _, Nat.zero_le _⟩) (fun _ ey => ?_)
        subst ey
        refine lv_if_ne (tgt := 36) hx hb dX0_leastBroken_31 (by decide) (fun c8 => ?_) (fun c8 => ?_)
        · have hm := g_f c8 hm
          refine lv_aload_n hx hb dX0_leastBroken_36 rfl (lv_at hl 0 rfl) ?_
          obtain ⟨x9, ex, hm⟩ := g_bind hm
          refine vp_callSi (W.runS (As := [.ref A_h]) (rest := []) ⟨hx, hb, hml, hown, hts⟩ (k_X0_runsFitLengths l dC dI A_h A_a K_a c_a  _ ex) (va_cwS 1 hts gX0_leastBroken_X0_runsFitLengths rfl rfl rfl (by decide +kernel) ⟨Nat.le_of_ble_eq_true rfl, Nat.le_of_ble_eq_true rfl⟩) ⟨w_blR, fun U hU hW => ⟨rfl, by rw [hU]; exact hP.sub [0, 1] rfl, va_K.moved hW.alike (hK.sub [0] rfl)⟩⟩ rfl rfl hl.1 rfl (lv_room (Nat.le_of_ble_eq_true rfl)) dX0_leastBroken_37 ⟨Nat.zero_le _, Nat.zero_le _⟩) (fun _ ey => ?_)
          subst ey
          refine lv_if_ne (tgt := 45) hx hb dX0_leastBroken_40 (by decide) (fun c10 => ?_) (fun c10 => ?_)
          · have hm := g_f c10 hm
            refine lv_aload_n hx hb dX0_leastBroken_45 rfl (lv_at hl 0 rfl) ?_
            refine va_get (D := (dC, dI)) (ci := 1) (v := .ref A_a) (C := RX2) (T := TX2) (N := 1) hx hb hts hi_X0_leastBroken_X2 hown hK hP 0 rfl rfl 0 (by decide) (hts (Cond.fieldLink RX0 27 "BuddyFiles$Home" "cells" "[I") hk_X0_leastBroken_27) (fun _ h9 => h9) rfl dX0_leastBroken_46 ?_
            refine lv_bipush (v := 45) hx hb dX0_leastBroken_49 (by decide) ?_
            obtain ⟨x11, ex, hm⟩ := g_bind hm
            refine w_ald hx hb hK hP 1 0 rfl rfl ex dX0_leastBroken_51 ?_
            refine lv_aload_n hx hb dX0_leastBroken_52 rfl (lv_at hl 0 rfl) ?_
            obtain ⟨x12, ex, hm⟩ := g_bind hm
            refine vp_callSi (W.runS (As := [.ref A_h]) (rest := [.int x11]) ⟨hx, hb, hml, hown, hts⟩ (k_X0_bitsOfAllRuns l dC dI A_h A_a K_a c_a  _ ex) (va_cwS 1 hts gX0_leastBroken_X0_bitsOfAllRuns rfl rfl rfl (by decide +kernel) ⟨Nat.le_of_ble_eq_true rfl, Nat.le_of_ble_eq_true rfl⟩) ⟨w_blR, fun U hU hW => ⟨rfl, by rw [hU]; exact hP.sub [0, 1] rfl, va_K.moved hW.alike (hK.sub [0] rfl)⟩⟩ rfl rfl hl.1 rfl (lv_room (Nat.le_of_ble_eq_true rfl)) dX0_leastBroken_53 ⟨Nat.zero_le _, Nat.zero_le _⟩) (fun _ ey => ?_)
            subst ey
            refine lv_icmp_eq (tgt := 62) hx hb dX0_leastBroken_56 (by decide) (fun c13 => ?_) (fun c13 => ?_)
            · have hm := g_t c13 hm
              refine lv_aload_n hx hb dX0_leastBroken_62 rfl (lv_at hl 0 rfl) ?_
              obtain ⟨x14, ex, hm⟩ := g_bind hm
              refine vp_callSi (W.runS (As := [.ref A_h]) (rest := []) ⟨hx, hb, hml, hown, hts⟩ (k_X0_quotasCoverUsage l dC dI A_h A_a K_a c_a  _ ex) (va_cwS 1 hts gX0_leastBroken_X0_quotasCoverUsage rfl rfl rfl (by decide +kernel) ⟨Nat.le_of_ble_eq_true rfl, Nat.le_of_ble_eq_true rfl⟩) ⟨w_blR, fun U hU hW => ⟨rfl, by rw [hU]; exact hP.sub [0, 1] rfl, va_K.moved hW.alike (hK.sub [0] rfl)⟩⟩ rfl rfl hl.1 rfl (lv_room (Nat.le_of_ble_eq_true rfl)) dX0_leastBroken_63 ⟨Nat.zero_le _, Nat.zero_le _⟩) (fun _ ey => ?_)
              subst ey
              refine lv_if_ne (tgt := 72) hx hb dX0_leastBroken_66 (by decide) (fun c15 => ?_) (fun c15 => ?_)
              · have hm := g_f c15 hm
                refine lv_aload_n hx hb dX0_leastBroken_72 rfl (lv_at hl 0 rfl) ?_
                obtain ⟨x16, ex, hm⟩ := g_bind hm
                refine vp_callSi (W.runS (As := [.ref A_h]) (rest := []) ⟨hx, hb, hml, hown, hts⟩ (k_X0_looseWordsAreZero l dC dI A_h A_a K_a c_a  _ ex) (va_cwS 1 hts gX0_leastBroken_X0_looseWordsAreZero rfl rfl rfl (by decide +kernel) ⟨Nat.le_of_ble_eq_true rfl, Nat.le_of_ble_eq_true rfl⟩) ⟨w_blR, fun U hU hW => ⟨rfl, by rw [hU]; exact hP.sub [0, 1] rfl, va_K.moved hW.alike (hK.sub [0] rfl)⟩⟩ rfl rfl hl.1 rfl (lv_room (Nat.le_of_ble_eq_true rfl)) dX0_leastBroken_73 ⟨Nat.zero_le _, Nat.zero_le _⟩) (fun _ ey => ?_)
                subst ey
                refine lv_if_eq (tgt := 83) hx hb dX0_leastBroken_76 (by decide) (fun c17 => ?_) (fun c17 => ?_)
                · have hm := g_t c17 hm
                  refine lv_bipush (v := 8) hx hb dX0_leastBroken_83 (by decide) ?_
                  cases hm
                  subst hQ
                  exact W.iret hx hb hr (fun t ht hW => ⟨_, rfl, rfl, ht⟩) (fun _ h => nomatch h) dX0_leastBroken_85
                · have hm := g_f c17 hm
                  refine lv_iconst (v := 0) hx hb dX0_leastBroken_79 (by decide) ?_
                  refine lv_goto (tgt := 85) hx hb dX0_leastBroken_80 (by decide) ?_
                  cases hm
                  subst hQ
                  exact W.iret hx hb hr (fun t ht hW => ⟨_, rfl, rfl, ht⟩) (fun _ h => nomatch h) dX0_leastBroken_85
              · have hm := g_t c15 hm
                refine lv_bipush (v := 7) hx hb dX0_leastBroken_69 (by decide) ?_
                cases hm
                subst hQ
                exact W.iret hx hb hr (fun t ht hW => ⟨_, rfl, rfl, ht⟩) (fun _ h => nomatch h) dX0_leastBroken_71
            · have hm := g_f c13 hm
              refine lv_bipush (v := 6) hx hb dX0_leastBroken_59 (by decide) ?_
              cases hm
              subst hQ
              exact W.iret hx hb hr (fun t ht hW => ⟨_, rfl, rfl, ht⟩) (fun _ h => nomatch h) dX0_leastBroken_61
          · have hm := g_t c10 hm
            refine lv_iconst (v := 5) hx hb dX0_leastBroken_43 (by decide) ?_
            cases hm
            subst hQ
            exact W.iret hx hb hr (fun t ht hW => ⟨_, rfl, rfl, ht⟩) (fun _ h => nomatch h) dX0_leastBroken_44
        · have hm := g_t c8 hm
          refine lv_iconst (v := 4) hx hb dX0_leastBroken_34 (by decide) ?_
          cases hm
          subst hQ
          exact W.iret hx hb hr (fun t ht hW => ⟨_, rfl, rfl, ht⟩) (fun _ h => nomatch h) dX0_leastBroken_35
      · have hm := g_t c6 hm
        refine lv_iconst (v := 3) hx hb dX0_leastBroken_25 (by decide) ?_
        cases hm
        subst hQ
        exact W.iret hx hb hr (fun t ht hW => ⟨_, rfl, rfl, ht⟩) (fun _ h => nomatch h) dX0_leastBroken_26
    · have hm := g_t c4 hm
      refine lv_iconst (v := 2) hx hb dX0_leastBroken_16 (by decide) ?_
      cases hm
      subst hQ
      exact W.iret hx hb hr (fun t ht hW => ⟨_, rfl, rfl, ht⟩) (fun _ h => nomatch h) dX0_leastBroken_17
  · have hm := g_t c2 hm
    refine lv_iconst (v := 1) hx hb dX0_leastBroken_7 (by decide) ?_
    cases hm
    subst hQ
    exact W.iret hx hb hr (fun t ht hW => ⟨_, rfl, rfl, ht⟩) (fun _ h => nomatch h) dX0_leastBroken_8
