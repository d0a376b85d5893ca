theorem hi_X4_extent_X4 : ∀ w ∈ wsX40, w ∈ wsX4_extent := by decide +kernel
theorem hk_X4_extent_33 : Cond.fieldLink RX4 33 "BuddyFiles" "up" "Z" ∈ wsX4_extent := by decide +kernel
theorem hk_X4_extent_19 : Cond.fieldLink RX4 19 "BuddyFiles" "memory" "LBuddyFiles$Home;" ∈ wsX4_extent := by decide +kernel
theorem hk_X4_extent_26 : Cond.fieldLink RX4 26 "BuddyFiles" "slotOfHandle" "[I" ∈ wsX4_extent := by decide +kernel
abbrev rm_X4_extent : Room := { frames := 1, cells := 0, slots := 0, locals := 22 }
set_option maxHeartbeats 4000000 in
set_option maxRecDepth 100000 in
theorem k_X4_extent (l : Launch) (dC : Nat → ClassId) (dI : Nat → Nat → Nat) (A_x A_d A_mh A_jh A_ha A_da A_ma A_ja : Nat) (K_ha K_da K_ma K_ja : ClassId) (c_ha c_da c_ma c_ja : Nat → Int32) (c_up c_fu : Int32) (p1 : Int32) (p2 : Int32) (r0 : Int32) (hm : m_X4_extent c_ha c_ma c_up p1 p2 = some r0) : Met l yX4_extent wsX4_extent rm_X4_extent (va_Pc [.ref A_x, .int p1, .int p2] (fun U => va_P (dC, dI) vwCl (wB A_x A_d A_mh A_jh A_ha A_da A_ma A_ja K_ha K_da K_ma K_ja c_ha c_da c_ma c_ja c_up c_fu) U.heap ∧ va_K (dC, dI) vwCl (tB K_ha K_da K_ma K_ja) U)) (vp_Si (fun r => r0 = r)) 0 0 (fun _ => False) := by
  refine Met.ofW (cc := cX4_extent) (maxL := 3) (ret := (some .int)) (by decide) rfl ?_
  intro p e s m args below meth c s₁ B hml hv
  obtain ⟨rfl, hP, hK⟩ := hv
  have hx := B.exec
  have hb := B.bytes
  have hr := B.returns
  have hts := atoms_spec (ws := wsX4_extent) B.pre
  have hown : s.vm.findClass RX4 = some m.cls := findClass_of_methodNamed B.named
  have hlocks := B.notSynchronized
  have hl := lv_entry ([.ref A_x, .int p1, .int p2]) (n := 3) (Nat.le_of_ble_eq_true rfl)
  rw [lg_entry_eq]
  generalize (lg_sl ([.ref A_x, .int p1, .int p2]) ++ List.replicate (3 - (lg_sl ([.ref A_x, .int p1, .int p2])).length) Slot.unset).toArray = ls at hl ⊢
  have hl : lv_has ls 3 [(0, .ref A_x), (1, .int p1), (2, .int p2)] := hl
  refine w_name (fun Q hQ => ?_)
  unfold m_X4_extent at hm
  refine lv_aload_n hx hb dX4_extent_0 rfl (lv_at hl 0 rfl) ?_
  refine va_get (D := (dC, dI)) (ci := 2) (v := .int c_up) (C := RX4) (T := TX4) (N := 6) hx hb hts hi_X4_extent_X4 hown hK hP 0 rfl rfl 4 (by decide) (hts (Cond.fieldLink RX4 33 "BuddyFiles" "up" "Z") hk_X4_extent_33) (fun _ h9 => h9) rfl dX4_extent_1 ?_
  refine lv_if_ne (tgt := 10) hx hb dX4_extent_4 (by decide) (fun c1 => ?_) (fun c1 => ?_)
  · have hm := g_f c1 hm
    refine lv_aload_n hx hb dX4_extent_10 rfl (lv_at hl 0 rfl) ?_
    refine lv_iload_n hx hb dX4_extent_11 rfl (lv_at hl 1 rfl) ?_
    obtain ⟨x2, ex, hm⟩ := g_bind hm
    refine vp_callSi (W.runV (As := [.int p1]) (rest := []) ⟨hx, hb, hml, hown, hts⟩ (k_X4_isOpen l dC dI A_x A_d A_mh A_jh A_ha A_da A_ma A_ja K_ha K_da K_ma K_ja c_ha c_da c_ma c_ja c_up c_fu p1 _ ex) (cwV 1 hts gX4_extent_X4_isOpen rfl rfl rfl (by decide +kernel) ⟨Nat.le_of_ble_eq_true rfl, Nat.le_of_ble_eq_true rfl⟩) ⟨w_blR, va_recv hK hP (ci := 2) (q0 := 0) rfl rfl, fun U hU hW => ⟨rfl, by rw [hU]; exact hP.sub [0, 1, 2, 3, 4, 5, 6, 7] rfl, va_K.moved hW.alike (hK.sub [0, 1, 2, 3] rfl)⟩⟩ rfl rfl hl.1 rfl (lv_room (Nat.le_of_ble_eq_true rfl)) dX4_extent_12 ⟨Nat.zero_le _, Nat.zero_le _⟩) (fun _ ey => ?_)
    subst ey
    refine lv_if_ne (tgt := 21) hx hb dX4_extent_15 (by decide) (fun c3 => ?_) (fun c3 => ?_)
    · have hm := g_f c3 hm
      refine lv_iload_n hx hb dX4_extent_21 rfl (lv_at hl 2 rfl) ?_
      refine lv_if_lt (tgt := 30) hx hb dX4_extent_22 (by decide) (fun c4 => ?_) (fun c4 => ?_)
      · have hm := g_t c4 hm
        refine lv_bipush (v := -12) hx hb dX4_extent_30 (by decide) ?_
        cases hm
        subst hQ
        exact W.iret hx hb hr (fun t ht hW => ⟨_, rfl, rfl, ht⟩) (fun _ h => nomatch h) dX4_extent_32
      · have hm := g_f c4 hm
        refine lv_iload_n hx hb dX4_extent_25 rfl (lv_at hl 2 rfl) ?_
        refine lv_iconst (v := 4) hx hb dX4_extent_26 (by decide) ?_
        refine lv_icmp_lt (tgt := 33) hx hb dX4_extent_27 (by decide) (fun c5 => ?_) (fun c5 => ?_)
        · have hm := g_t c5 hm
          refine lv_aload_n hx hb dX4_extent_33 rfl (lv_at hl 0 rfl) ?_
          refine va_get (D := (dC, dI)) (ci := 2) (v := .ref A_mh) (C := RX4) (T := TX4) (N := 6) hx hb hts hi_X4_extent_X4 hown hK hP 0 rfl rfl 1 (by decide) (hts (Cond.fieldLink RX4 19 "BuddyFiles" "memory" "LBuddyFiles$Home;") hk_X4_extent_19) (fun _ h9 => h9) rfl dX4_extent_34 ?_
          refine lv_aload_n hx hb dX4_extent_37 rfl (lv_at hl 0 rfl) ?_
          refine va_get (D := (dC, dI)) (ci := 2) (v := .ref A_ha) (C := RX4) (T := TX4) (N := 6) hx hb hts hi_X4_extent_X4 hown hK hP 0 rfl rfl 3 (by decide) (hts (Cond.fieldLink RX4 26 "BuddyFiles" "slotOfHandle" "[I") hk_X4_extent_26) (fun _ h9 => h9) rfl dX4_extent_38 ?_
          refine lv_iload_n hx hb dX4_extent_41 rfl (lv_at hl 1 rfl) ?_
          obtain ⟨x6, ex, hm⟩ := g_bind hm
          refine w_ald hx hb hK hP 4 0 rfl rfl ex dX4_extent_42 ?_
          refine lv_iload_n hx hb dX4_extent_43 rfl (lv_at hl 2 rfl) ?_
          obtain ⟨x7, ex, hm⟩ := g_bind hm
          refine vp_callSi (W.runV (As := [.int x6, .int p2]) (rest := []) ⟨hx, hb, hml, hown, hts⟩ (k_X2_extentOf l dC dI A_mh A_ma K_ma c_ma x6 p2 _ ex) (cwV 2 hts gX4_extent_X2_extentOf rfl rfl rfl (by decide +kernel) ⟨Nat.le_of_ble_eq_true rfl, Nat.le_of_ble_eq_true rfl⟩) ⟨w_blR, va_recv hK hP (ci := 1) (q0 := 2) rfl rfl, fun U hU hW => ⟨rfl, by rw [hU]; exact hP.sub [2, 6] rfl, va_K.moved hW.alike (hK.sub [2] rfl)⟩⟩ rfl rfl hl.1 rfl (lv_room (Nat.le_of_ble_eq_true rfl)) dX4_extent_44 ⟨Nat.zero_le _, Nat.zero_le _⟩) (fun _ ey => ?_)
          subst ey
          cases hm
          subst hQ
          exact W.iret hx hb hr (fun t ht hW => ⟨_, rfl, rfl, ht⟩) (fun _ h => nomatch h) dX4_extent_47
        · have hm := g_f c5 hm
          refine lv_bipush (v := -12) hx hb dX4_extent_30 (by decide) ?_
          cases hm
          subst hQ
          exact W.iret hx hb hr (fun t ht hW => ⟨_, rfl, rfl, ht⟩) (fun _ h => nomatch h) dX4_extent_32
    · have hm := g_t c3 hm
      refine lv_bipush (v := -6) hx hb dX4_extent_18 (by decide) ?_
      cases hm
      subst hQ
      exact W.iret hx hb hr (fun t ht hW => ⟨_, rfl, rfl, ht⟩) (fun _ h => nomatch h) dX4_extent_20
  · have hm := g_t c1 hm
    refine lv_bipush (v := -11) hx hb dX4_extent_7 (by decide) ?_
    cases hm
    subst hQ
    exact W.iret hx hb hr (fun t ht hW => ⟨_, rfl, rfl, ht⟩) (fun _ h => nomatch h) dX4_extent_9
theorem hi_X4_rename_X4 : ∀ w ∈ wsX40, w ∈ wsX4_rename := by decide +kernel
theorem hk_X4_rename_33 : Cond.fieldLink RX4 33 "BuddyFiles" "up" "Z" ∈ wsX4_rename := by decide +kernel
theorem hk_X4_rename_19 : Cond.fieldLink RX4 19 "BuddyFiles" "memory" "LBuddyFiles$Home;" ∈ wsX4_rename := by decide +kernel
abbrev rm_X4_rename : Room := { frames := 6, cells := 0, slots := 0, locals := 135 }
set_option maxHeartbeats 4000000 in
set_option maxRecDepth 100000 in
theorem k_X4_rename (l : Launch) (dC : Nat → ClassId) (dI : Nat → Nat → Nat) (A_x A_d A_mh A_jh A_ha A_da A_ma A_ja : Nat) (K_ha K_da K_ma K_ja : ClassId) (c_ha c_da c_ma c_ja : Nat → Int32) (c_up c_fu : Int32) (sz : Nat) (p1 : Int32) (p2 : Int32) (r0 : Int32) (o_ma : (Nat → Int32)) (hm : m_X4_rename c_ha c_ma c_up p1 p2 = some (r0, o_ma)) : Met l yX4_rename wsX4_rename rm_X4_rename (va_Pc [.ref A_x, .int p1, .int p2] (fun U => U.heap.size = sz ∧ va_P (dC, dI) vwCl (wB A_x A_d A_mh A_jh A_ha A_da A_ma A_ja K_ha K_da K_ma K_ja c_ha c_da c_ma c_ja c_up c_fu) U.heap ∧ va_K (dC, dI) vwCl (tB K_ha K_da K_ma K_ja) U ∧ va_D (fun _ => True) (wB A_x A_d A_mh A_jh A_ha A_da A_ma A_ja K_ha K_da K_ma K_ja c_ha c_da c_ma c_ja c_up c_fu))) (va_Qi (fun (r : Int32) (_ : Unit) => r0 = r) (fun _ t => va_P (dC, dI) vwCl (wB A_x A_d A_mh A_jh A_ha A_da A_ma A_ja K_ha K_da K_ma K_ja c_ha c_da o_ma c_ja c_up c_fu) t.heap ∧ va_D (va_A (wB A_x A_d A_mh A_jh A_ha A_da A_ma A_ja K_ha K_da K_ma K_ja c_ha c_da c_ma c_ja c_up c_fu) sz) (wB A_x A_d A_mh A_jh A_ha A_da A_ma A_ja K_ha K_da K_ma K_ja c_ha c_da o_ma c_ja c_up c_fu)) (va_A (wB A_x A_d A_mh A_jh A_ha A_da A_ma A_ja K_ha K_da K_ma K_ja c_ha c_da c_ma c_ja c_up c_fu) sz)) 0 0 (va_A (wB A_x A_d A_mh A_jh A_ha A_da A_ma A_ja K_ha K_da K_ma K_ja c_ha c_da c_ma c_ja c_up c_fu) sz) := by
  refine Met.ofW (cc := cX4_rename) (maxL := 5) (ret := (some .int)) (by decide) rfl ?_
  intro p e s m args below meth c s₁ B hml hv
  obtain ⟨rfl, hsz, hP, hK, hD0⟩ := hv
  have hx := B.exec
  have hb := B.bytes
  have hr := B.returns
  have hts := atoms_spec (ws := wsX4_rename) B.pre
  have hown : s.vm.findClass RX4 = some m.cls := findClass_of_methodNamed B.named
  have hlocks := B.notSynchronized
  subst hsz
  have hD := hD0.self (sz := s.heap.size)
  generalize hAe : va_A (wB A_x A_d A_mh A_jh A_ha A_da A_ma A_ja K_ha K_da K_ma K_ja c_ha c_da c_ma c_ja c_up c_fu) s.heap.size = A at hD ⊢
  have hA : ∀ q : Nat, s.heap.size ≤ q → A q := fun q h => by rw [← hAe]; exact Or.inr h
  have hS : va_S A s.heap s.heap [] := va_S.rf
  have hP : va_P (dC, dI) vwCl (wB A_x A_d A_mh A_jh A_ha A_da A_ma A_ja K_ha K_da K_ma K_ja c_ha c_da c_ma c_ja c_up c_fu) s.heap := hP
  have hl := lv_entry ([.ref A_x, .int p1, .int p2]) (n := 5) (Nat.le_of_ble_eq_true rfl)
  rw [lg_entry_eq]
  generalize (lg_sl ([.ref A_x, .int p1, .int p2]) ++ List.replicate (5 - (lg_sl ([.ref A_x, .int p1, .int p2])).length) Slot.unset).toArray = ls at hl ⊢
  have hl : lv_has ls 5 [(0, .ref A_x), (1, .int p1), (2, .int p2)] := hl
  refine w_name (fun Q hQ => ?_)
  unfold m_X4_rename at hm
  refine lv_aload_n hx hb dX4_rename_0 rfl (lv_at hl 0 rfl) ?_
  refine va_get (D := (dC, dI)) (ci := 2) (v := .int c_up) (C := RX4) (T := TX4) (N := 6) hx hb hts hi_X4_rename_X4 hown hK hP 0 rfl rfl 4 (by decide) (hts (Cond.fieldLink RX4 33 "BuddyFiles" "up" "Z") hk_X4_rename_33) (fun _ h9 => h9) rfl dX4_rename_1 ?_
  refine lv_if_ne (tgt := 10) hx hb dX4_rename_4 (by decide) (fun c1 => ?_) (fun c1 => ?_)
  · have hm := g_f c1 hm
    refine lv_aload_n hx hb dX4_rename_10 rfl (lv_at hl 0 rfl) ?_
    refine va_get (D := (dC, dI)) (ci := 2) (v := .ref A_mh) (C := RX4) (T := TX4) (N := 6) hx hb hts hi_X4_rename_X4 hown hK hP 0 rfl rfl 1 (by decide) (hts (Cond.fieldLink RX4 19 "BuddyFiles" "memory" "LBuddyFiles$Home;") hk_X4_rename_19) (fun _ h9 => h9) rfl dX4_rename_11 ?_
    refine lv_iload_n hx hb dX4_rename_14 rfl (lv_at hl 1 rfl) ?_
    obtain ⟨x2, ex, hm⟩ := g_bind hm
    refine vp_callSi (W.runV (As := [.int p1]) (rest := []) ⟨hx, hb, hml, hown, hts⟩ (k_X2_slotOf l dC dI A_mh A_ma K_ma c_ma p1 _ ex) (cwV 1 hts gX4_rename_X2_slotOf rfl rfl rfl (by decide +kernel) ⟨Nat.le_of_ble_eq_true rfl, Nat.le_of_ble_eq_true rfl⟩) ⟨w_blR, va_recv hK hP (ci := 1) (q0 := 2) rfl rfl, fun U hU hW => ⟨rfl, by rw [hU]; exact hP.sub [2, 6] rfl, va_K.moved hW.alike (hK.sub [2] rfl)⟩⟩ rfl rfl hl.1 rfl (lv_room (Nat.le_of_ble_eq_true rfl)) dX4_rename_15 ⟨Nat.zero_le _, Nat.zero_le _⟩) (fun _ ey => ?_)
    subst ey
    refine lv_istore_n (lv' := [(3, .int x2), (0, .ref A_x), (1, .int p1), (2, .int p2)]) hx hb dX4_rename_18 rfl hl (by decide) rfl (fun ls hl => ?_)
    refine lv_iload_n hx hb dX4_rename_19 rfl (lv_at hl 0 rfl) ?_
    refine lv_iconst (v := -1) hx hb dX4_rename_20 (by decide) ?_
    refine lv_icmp_ne (tgt := 27) hx hb dX4_rename_21 (by decide) (fun c3 => ?_) (fun c3 => ?_)
    · have hm := g_f c3 hm
      refine lv_iload_n hx hb dX4_rename_27 rfl (lv_at hl 3 rfl) ?_
      obtain ⟨x4, ex, hm⟩ := g_bind hm
      refine vp_callSi (W.runS (As := [.int p2]) (rest := []) ⟨hx, hb, hml, hown, hts⟩ (k_X4_isName l  p2 _ ex) (va_cwS 1 hts gX4_rename_X4_isName rfl rfl rfl (by decide +kernel) ⟨Nat.le_of_ble_eq_true rfl, Nat.le_of_ble_eq_true rfl⟩) ⟨w_bl0, fun U hU hW => ⟨rfl, trivial⟩⟩ rfl rfl hl.1 rfl (lv_room (Nat.le_of_ble_eq_true rfl)) dX4_rename_28 ⟨Nat.zero_le _, Nat.zero_le _⟩) (fun _ ey => ?_)
      subst ey
      refine lv_if_ne (tgt := 37) hx hb dX4_rename_31 (by decide) (fun c5 => ?_) (fun c5 => ?_)
      · have hm := g_f c5 hm
        refine lv_iload_n hx hb dX4_rename_37 rfl (lv_at hl 2 rfl) ?_
        refine lv_iload_n hx hb dX4_rename_38 rfl (lv_at hl 3 rfl) ?_
        refine lv_icmp_ne (tgt := 44) hx hb dX4_rename_39 (by decide) (fun c6 => ?_) (fun c6 => ?_)
        · have hm := g_f c6 hm
          refine lv_aload_n hx hb dX4_rename_44 rfl (lv_at hl 1 rfl) ?_
          refine va_get (D := (dC, dI)) (ci := 2) (v := .ref A_mh) (C := RX4) (T := TX4) (N := 6) hx hb hts hi_X4_rename_X4 hown hK hP 0 rfl rfl 1 (by decide) (hts (Cond.fieldLink RX4 19 "BuddyFiles" "memory" "LBuddyFiles$Home;") hk_X4_rename_19) (fun _ h9 => h9) rfl dX4_rename_45 ?_
          refine lv_iload_n hx hb dX4_rename_48 rfl (lv_at hl 3 rfl) ?_
          obtain ⟨x7, ex, hm⟩ := g_bind hm
          refine vp_callSi (W.runV (As := [.int p2]) (rest := []) ⟨hx, hb, hml, hown, hts⟩ (k_X2_slotOf l dC dI A_mh A_ma K_ma c_ma p2 _ ex) (cwV 1 hts gX4_rename_X2_slotOf rfl rfl rfl (by decide +kernel) ⟨Nat.le_of_ble_eq_true rfl, Nat.le_of_ble_eq_true rfl⟩) ⟨w_blR, va_recv hK hP (ci := 1) (q0 := 2) rfl rfl, fun U hU hW => ⟨rfl, by rw [hU]; exact hP.sub [2, 6] rfl, va_K.moved hW.alike (hK.sub [2] rfl)⟩⟩ rfl rfl hl.1 rfl (lv_room (Nat.le_of_ble_eq_true rfl)) dX4_rename_49 ⟨Nat.zero_le _, Nat.zero_le _⟩) (fun _ ey => ?_)
          subst ey
          refine lv_istore (lv' := [(4, .int x7), (3, .int x2), (0, .ref A_x), (1, .int p1), (2, .int p2)]) hx hb dX4_rename_52 hl (by decide) rfl (fun ls hl => ?_)
          refine lv_iload hx hb dX4_rename_54 (lv_at hl 0 rfl) ?_
          refine lv_iconst (v := -1) hx hb dX4_rename_56 (by decide) ?_
          refine lv_icmp_eq (tgt := 81) hx hb dX4_rename_57 (by decide) (fun c8 => ?_) (fun c8 => ?_)
          · have hm := g_t c8 hm
            refine lv_aload_n hx hb dX4_rename_81 rfl (lv_at hl 2 rfl) ?_
            refine va_get (D := (dC, dI)) (ci := 2) (v := .ref A_mh) (C := RX4) (T := TX4) (N := 6) hx hb hts hi_X4_rename_X4 hown hK hP 0 rfl rfl 1 (by decide) (hts (Cond.fieldLink RX4 19 "BuddyFiles" "memory" "LBuddyFiles$Home;") hk_X4_rename_19) (fun _ h9 => h9) rfl dX4_rename_82 ?_
            refine lv_iload_n hx hb dX4_rename_85 rfl (lv_at hl 1 rfl) ?_
            refine lv_iload_n hx hb dX4_rename_86 rfl (lv_at hl 4 rfl) ?_
            obtain ⟨f9, ex, hm⟩ := g_bind hm
            have hPc := hP.sub (ws' := (wH A_mh A_ma K_ma c_ma)) [2, 6] rfl
            have hDc := hD.sub (ws' := (wH A_mh A_ma K_ma c_ma)) [2, 6] (by decide) rfl
            have hKc := hK.sub (tys' := (tH K_ma)) [2] rfl
            have hFc := va_free (wc := (wH A_mh A_ma K_ma c_ma)) hD hS hA [2, 6] rfl
            refine va_callv (va_runV (As := [.int x2, .int p2]) (rest := []) ⟨hx, hb, hml, hown, hts⟩ (k_X2_nameFile l dC dI A_mh A_ma K_ma c_ma s.heap.size x2 p2 _ ex) (cwV 2 hts gX4_rename_X2_nameFile rfl rfl rfl (by decide +kernel) ⟨Nat.le_of_ble_eq_true rfl, Nat.le_of_ble_eq_true rfl⟩) ⟨w_blW, va_recv hKc hPc (ci := 1) (q0 := 0) rfl rfl, fun U hU hW => ⟨rfl, by rw [hU], by rw [hU]; exact hPc, va_K.moved hW.alike hKc, hDc.weaken (fun _ _ _ _ => trivial)⟩⟩ rfl rfl hl.1 rfl (lv_room (Nat.le_of_ble_eq_true rfl)) dX4_rename_87 ⟨Nat.zero_le _, Nat.zero_le _⟩) hS (fun q _ h => hFc q h) hFc (fun _ t H10 locs10 ht hvm hw hB hz1 hk1 hS => ?_)
            refine W.widen (k := 0) (n := 0) (Nat.le_refl 0) (Nat.le_refl 0) ?_
            obtain ⟨hP1, hD1⟩ := hB
            rw [ht] at hP1
            obtain ⟨hP, hD⟩ := va_join (wr := [(A_x, .inr (2, [.ref A_d, .ref A_mh, .ref A_jh, .ref A_ha, .int c_up, .int c_fu])), (A_d, .inr (0, [.ref A_da])), (A_jh, .inr (1, [.ref A_ja])), (A_ha, .inl (K_ha, 4, .inl c_ha)), (A_da, .inl (K_da, 332, .inl c_da)), (A_ja, .inl (K_ja, 110, .inl c_ja))]) (w1 := (wH A_mh A_ma K_ma f9)) hP hD [2, 6] [0, 1, 3, 4, 5, 7] rfl rfl (by decide) (by decide) hk1 hFc hP1 hD1
            have hP : va_P (dC, dI) vwCl (wB A_x A_d A_mh A_jh A_ha A_da A_ma A_ja K_ha K_da K_ma K_ja c_ha c_da f9 c_ja c_up c_fu) H10 := hP.sub [0, 1, 6, 2, 3, 4, 7, 5] rfl
            have hD : va_D A (wB A_x A_d A_mh A_jh A_ha A_da A_ma A_ja K_ha K_da K_ma K_ja c_ha c_da f9 c_ja c_up c_fu) := hD.sub [0, 1, 6, 2, 3, 4, 7, 5] (by decide) rfl
            refine lv_iconst (v := 0) hx hb dX4_rename_90 (by decide) ?_
            cases hm
            subst hQ
            exact W.iret hx hb hr (fun t ht hW => ⟨⟨_, (), rfl, rfl, by rw [ht]; exact hP, hD⟩, hS.F ht⟩) hS.2.2 dX4_rename_91
          · have hm := g_f c8 hm
            refine lv_aload_n hx hb dX4_rename_60 rfl (lv_at hl 2 rfl) ?_
            refine lv_iload hx hb dX4_rename_61 (lv_at hl 0 rfl) ?_
            obtain ⟨x11, ex, hm⟩ := g_bind hm
            refine vp_callSi (W.runV (As := [.int x7]) (rest := []) ⟨hx, hb, hml, hown, hts⟩ (k_X4_isInUse l dC dI A_x A_d A_mh A_jh A_ha A_da A_ma A_ja K_ha K_da K_ma K_ja c_ha c_da c_ma c_ja c_up c_fu x7 _ ex) (cwV 1 hts gX4_rename_X4_isInUse rfl rfl rfl (by decide +kernel) ⟨Nat.le_of_ble_eq_true rfl, Nat.le_of_ble_eq_true rfl⟩) ⟨w_blR, va_recv hK hP (ci := 2) (q0 := 0) rfl rfl, fun U hU hW => ⟨rfl, by rw [hU]; exact hP.sub [0, 1, 2, 3, 4, 5, 6, 7] rfl, va_K.moved hW.alike (hK.sub [0, 1, 2, 3] rfl)⟩⟩ rfl rfl hl.1 rfl (lv_room (Nat.le_of_ble_eq_true rfl)) dX4_rename_63 ⟨Nat.zero_le _, Nat.zero_le _⟩) (fun _ ey => ?_)
            subst ey
            refine lv_if_eq (tgt := 72) hx hb dX4_rename_66 (by decide) (fun c12 => ?_) (fun c12 => ?_)
            · have hm := g_t c12 hm
              refine lv_aload_n hx hb dX4_rename_72 rfl (lv_at hl 2 rfl) ?_
              refine va_get (D := (dC, dI)) (ci := 2) (v := .ref A_mh) (C := RX4) (T := TX4) (N := 6) hx hb hts hi_X4_rename_X4 hown hK hP 0 rfl rfl 1 (by decide) (hts (Cond.fieldLink RX4 19 "BuddyFiles" "memory" "LBuddyFiles$Home;") hk_X4_rename_19) (fun _ h9 => h9) rfl dX4_rename_73 ?_
              refine lv_iload hx hb dX4_rename_76 (lv_at hl 0 rfl) ?_
              obtain ⟨f13, ex, hm⟩ := g_bind hm
              have hPc := hP.sub (ws' := (wH A_mh A_ma K_ma c_ma)) [2, 6] rfl
              have hDc := hD.sub (ws' := (wH A_mh A_ma K_ma c_ma)) [2, 6] (by decide) rfl
              have hKc := hK.sub (tys' := (tH K_ma)) [2] rfl
              have hFc := va_free (wc := (wH A_mh A_ma K_ma c_ma)) hD hS hA [2, 6] rfl
              refine va_callv (va_runV (As := [.int x7]) (rest := []) ⟨hx, hb, hml, hown, hts⟩ (k_X2_dropFile l dC dI A_mh A_ma K_ma c_ma s.heap.size x7 _ ex) (cwV 1 hts gX4_rename_X2_dropFile rfl rfl rfl (by decide +kernel) ⟨Nat.le_of_ble_eq_true rfl, Nat.le_of_ble_eq_true rfl⟩) ⟨w_blW, va_recv hKc hPc (ci := 1) (q0 := 0) rfl rfl, fun U hU hW => ⟨rfl, by rw [hU], by rw [hU]; exact hPc, va_K.moved hW.alike hKc, hDc.weaken (fun _ _ _ _ => trivial)⟩⟩ rfl rfl hl.1 rfl (lv_room (Nat.le_of_ble_eq_true rfl)) dX4_rename_78 ⟨Nat.zero_le _, Nat.zero_le _⟩) hS (fun q _ h => hFc q h) hFc (fun _ t H14 locs14 ht hvm hw hB hz1 hk1 hS => ?_)
              refine W.widen (k := 0) (n := 0) (Nat.le_refl 0) (Nat.le_refl 0) ?_
              obtain ⟨hP1, hD1⟩ := hB
              rw [ht] at hP1
              obtain ⟨hP, hD⟩ := va_join (wr := [(A_x, .inr (2, [.ref A_d, .ref A_mh, .ref A_jh, .ref A_ha, .int c_up, .int c_fu])), (A_d, .inr (0, [.ref A_da])), (A_jh, .inr (1, [.ref A_ja])), (A_ha, .inl (K_ha, 4, .inl c_ha)), (A_da, .inl (K_da, 332, .inl c_da)), (A_ja, .inl (K_ja, 110, .inl c_ja))]) (w1 := (wH A_mh A_ma K_ma f13)) hP hD [2, 6] [0, 1, 3, 4, 5, 7] rfl rfl (by decide) (by decide) hk1 hFc hP1 hD1
              have hP : va_P (dC, dI) vwCl (wB A_x A_d A_mh A_jh A_ha A_da A_ma A_ja K_ha K_da K_ma K_ja c_ha c_da f13 c_ja c_up c_fu) H14 := hP.sub [0, 1, 6, 2, 3, 4, 7, 5] rfl
              have hD : va_D A (wB A_x A_d A_mh A_jh A_ha A_da A_ma A_ja K_ha K_da K_ma K_ja c_ha c_da f13 c_ja c_up c_fu) := hD.sub [0, 1, 6, 2, 3, 4, 7, 5] (by decide) rfl
              refine lv_aload_n hx hb dX4_rename_81 rfl (lv_at hl 2 rfl) ?_
              refine va_get (D := (dC, dI)) (ci := 2) (v := .ref A_mh) (C := RX4) (T := TX4) (N := 6) hx hb hts hi_X4_rename_X4 hown hK hP 0 rfl rfl 1 (by decide) (hts (Cond.fieldLink RX4 19 "BuddyFiles" "memory" "LBuddyFiles$Home;") hk_X4_rename_19) (fun _ h9 => h9) rfl dX4_rename_82 ?_
              refine lv_iload_n hx hb dX4_rename_85 rfl (lv_at hl 1 rfl) ?_
              refine lv_iload_n hx hb dX4_rename_86 rfl (lv_at hl 4 rfl) ?_
              obtain ⟨f15, ex, hm⟩ := g_bind hm
              have hPc := hP.sub (ws' := (wH A_mh A_ma K_ma f13)) [2, 6] rfl
              have hDc := hD.sub (ws' := (wH A_mh A_ma K_ma f13)) [2, 6] (by decide) rfl
              have hKc := hK.sub (tys' := (tH K_ma)) [2] rfl
              have hFc := va_free (wc := (wH A_mh A_ma K_ma f13)) hD hS hA [2, 6] rfl
              refine va_callv (va_runV (As := [.int x2, .int p2]) (rest := []) ⟨hx, hb, hml, hown, hts⟩ (k_X2_nameFile l dC dI A_mh A_ma K_ma f13 H14.size x2 p2 _ ex) (cwV 2 hts gX4_rename_X2_nameFile rfl rfl rfl (by decide +kernel) ⟨Nat.le_of_ble_eq_true rfl, Nat.le_of_ble_eq_true rfl⟩) ⟨w_blW, va_recv hKc hPc (ci := 1) (q0 := 0) rfl rfl, fun U hU hW => ⟨rfl, by rw [hU], by rw [hU]; exact hPc, va_K.moved hW.alike hKc, hDc.weaken (fun _ _ _ _ => trivial)⟩⟩ rfl rfl hl.1 rfl (lv_room (Nat.le_of_ble_eq_true rfl)) dX4_rename_87 ⟨Nat.zero_le _, Nat.zero_le _⟩) hS (fun q _ h => hFc q h) hFc (fun _ t H16 locs16 ht hvm hw hB hz1 hk1 hS => ?_)
              refine W.widen (k := 0) (n := 0) (Nat.le_refl 0) (Nat.le_refl 0) ?_
              obtain ⟨hP1, hD1⟩ := hB
              rw [ht] at hP1
              obtain ⟨hP, hD⟩ := va_join (wr := [(A_x, .inr (2, [.ref A_d, .ref A_mh, .ref A_jh, .ref A_ha, .int c_up, .int c_fu])), (A_d, .inr (0, [.ref A_da])), (A_jh, .inr (1, [.ref A_ja])), (A_ha, .inl (K_ha, 4, .inl c_ha)), (A_da, .inl (K_da, 332, .inl c_da)), (A_ja, .inl (K_ja, 110, .inl c_ja))]) (w1 := (wH A_mh A_ma K_ma f15)) hP hD [2, 6] [0, 1, 3, 4, 5, 7] rfl rfl (by decide) (by decide) hk1 hFc hP1 hD1
              have hP : va_P (dC, dI) vwCl (wB A_x A_d A_mh A_jh A_ha A_da A_ma A_ja K_ha K_da K_ma K_ja c_ha c_da f15 c_ja c_up c_fu) H16 := hP.sub [0, 1, 6, 2, 3, 4, 7, 5] rfl
              have hD : va_D A (wB A_x A_d A_mh A_jh A_ha A_da A_ma A_ja K_ha K_da K_ma K_ja c_ha c_da f15 c_ja c_up c_fu) := hD.sub [0, 1, 6, 2, 3, 4, 7, 5] (by decide) rfl
              refine lv_iconst (v := 0) hx hb dX4_rename_90 (by decide) ?_
              cases hm
              subst hQ
              exact W.iret hx hb hr (fun t ht hW => ⟨⟨_, (), rfl, rfl, by rw [ht]; exact hP, hD⟩, hS.F ht⟩) hS.2.2 dX4_rename_91
            · have hm := g_f c12 hm
              refine lv_bipush (v := -4) hx hb dX4_rename_69 (by decide) ?_
              cases hm
              subst hQ
              exact W.iret hx hb hr (fun t ht hW => ⟨⟨_, (), rfl, rfl, by rw [ht]; exact hP, hD⟩, hS.F ht⟩) hS.2.2 dX4_rename_71
        · have hm := g_t c6 hm
          refine lv_iconst (v := 0) hx hb dX4_rename_42 (by decide) ?_
          cases hm
          subst hQ
          exact W.iret hx hb hr (fun t ht hW => ⟨⟨_, (), rfl, rfl, by rw [ht]; exact hP, hD⟩, hS.F ht⟩) hS.2.2 dX4_rename_43
      · have hm := g_t c5 hm
        refine lv_bipush (v := -12) hx hb dX4_rename_34 (by decide) ?_
        cases hm
        subst hQ
        exact W.iret hx hb hr (fun t ht hW => ⟨⟨_, (), rfl, rfl, by rw [ht]; exact hP, hD⟩, hS.F ht⟩) hS.2.2 dX4_rename_36
    · have hm := g_t c3 hm
      refine lv_bipush (v := -3) hx hb dX4_rename_24 (by decide) ?_
      cases hm
      subst hQ
      exact W.iret hx hb hr (fun t ht hW => ⟨⟨_, (), rfl, rfl, by rw [ht]; exact hP, hD⟩, hS.F ht⟩) hS.2.2 dX4_rename_26
  · have hm := g_t c1 hm
    refine lv_bipush (v := -11) hx hb dX4_rename_7 (by decide) ?_
    cases hm
    subst hQ
    exact W.iret hx hb hr (fun t ht hW => ⟨⟨_, (), rfl, rfl, by rw [ht]; exact hP, hD⟩, hS.F ht⟩) hS.2.2 dX4_rename_9
theorem hi_X4_setQuota_X4 : ∀ w ∈ wsX40, w ∈ wsX4_setQuota := by decide +kernel
theorem hk_X4_setQuota_33 : Cond.fieldLink RX4 33 "BuddyFiles" "up" "Z" ∈ wsX4_setQuota := by decide +kernel
theorem hk_X4_setQuota_19 : Cond.fieldLink RX4 19 "BuddyFiles" "memory" "LBuddyFiles$Home;" ∈ wsX4_setQuota := by decide +kernel
abbrev rm_X4_setQuota : Room := { frames := 4, cells := 0, slots := 0, locals := 86 }
set_option maxHeartbeats 4000000 in
set_option maxRecDepth 100000 in
theorem k_X4_setQuota (l : Launch) (dC : Nat → ClassId) (dI : Nat → Nat → Nat) (A_x A_d A_mh A_jh A_ha A_da A_ma A_ja : Nat) (K_ha K_da K_ma K_ja : ClassId) (c_ha c_da c_ma c_ja : Nat → Int32) (c_up c_fu : Int32) (sz : Nat) (p1 : Int32) (p2 : Int32) (r0 : Int32) (o_ma : (Nat → Int32)) (hm : m_X4_setQuota c_ma c_up p1 p2 = some (r0, o_ma)) : Met l yX4_setQuota wsX4_setQuota rm_X4_setQuota (va_Pc [.ref A_x, .int p1, .int p2] (fun U => U.heap.size = sz ∧ va_P (dC, dI) vwCl (wB A_x A_d A_mh A_jh A_ha A_da A_ma A_ja K_ha K_da K_ma K_ja c_ha c_da c_ma c_ja c_up c_fu) U.heap ∧ va_K (dC, dI) vwCl (tB K_ha K_da K_ma K_ja) U ∧ va_D (fun _ => True) (wB A_x A_d A_mh A_jh A_ha A_da A_ma A_ja K_ha K_da K_ma K_ja c_ha c_da c_ma c_ja c_up c_fu))) (va_Qi (fun (r : Int32) (_ : Unit) => r0 = r) (fun _ t => va_P (dC, dI) vwCl (wB A_x A_d A_mh A_jh A_ha A_da A_ma A_ja K_ha K_da K_ma K_ja c_ha c_da o_ma c_ja c_up c_fu) t.heap ∧ va_D (va_A (wB A_x A_d A_mh A_jh A_ha A_da A_ma A_ja K_ha K_da K_ma K_ja c_ha c_da c_ma c_ja c_up c_fu) sz) (wB A_x A_d A_mh A_jh A_ha A_da A_ma A_ja K_ha K_da K_ma K_ja c_ha c_da o_ma c_ja c_up c_fu)) (va_A (wB A_x A_d A_mh A_jh A_ha A_da A_ma A_ja K_ha K_da K_ma K_ja c_ha c_da c_ma c_ja c_up c_fu) sz)) 0 0 (va_A (wB A_x A_d A_mh A_jh A_ha A_da A_ma A_ja K_ha K_da K_ma K_ja c_ha c_da c_ma c_ja c_up c_fu) sz) := by
  refine Met.ofW (cc := cX4_setQuota) (maxL := 3) (ret := (some .int)) (by decide) rfl ?_
  intro p e s m args below meth c s₁ B hml hv
  obtain ⟨rfl, hsz, hP, hK, hD0⟩ := hv
  have hx := B.exec
  have hb := B.bytes
  have hr := B.returns
  have hts := atoms_spec (ws := wsX4_setQuota) B.pre
  have hown : s.vm.findClass RX4 = some m.cls := findClass_of_methodNamed B.named
  have hlocks := B.notSynchronized
  subst hsz
  have hD := hD0.self (sz := s.heap.size)
  generalize hAe : va_A (wB A_x A_d A_mh A_jh A_ha A_da A_ma A_ja K_ha K_da K_ma K_ja c_ha c_da c_ma c_ja c_up c_fu) s.heap.size = A at hD ⊢
  have hA : ∀ q : Nat, s.heap.size ≤ q → A q := fun q h => by rw [← hAe]; exact Or.inr h
  have hS : va_S A s.heap s.heap [] := va_S.rf
  have hP : va_P (dC, dI) vwCl (wB A_x A_d A_mh A_jh A_ha A_da A_ma A_ja K_ha K_da K_ma K_ja c_ha c_da c_ma c_ja c_up c_fu) s.heap := hP
  have hl := lv_entry ([.ref A_x, .int p1, .int p2]) (n := 3) (Nat.le_of_ble_eq_true rfl)
  rw [lg_entry_eq]
  generalize (lg_sl ([.ref A_x, .int p1, .int p2]) ++ List.replicate (3 - (lg_sl ([.ref A_x, .int p1, .int p2])).length) Slot.unset).toArray = ls at hl ⊢
  have hl : lv_has ls 3 [(0, .ref A_x), (1, .int p1), (2, .int p2)] := hl
  refine w_name (fun Q hQ => ?_)
  unfold m_X4_setQuota at hm
  refine lv_aload_n hx hb dX4_setQuota_0 rfl (lv_at hl 0 rfl) ?_
  refine va_get (D := (dC, dI)) (ci := 2) (v := .int c_up) (C := RX4) (T := TX4) (N := 6) hx hb hts hi_X4_setQuota_X4 hown hK hP 0 rfl rfl 4 (by decide) (hts (Cond.fieldLink RX4 33 "BuddyFiles" "up" "Z") hk_X4_setQuota_33) (fun _ h9 => h9) rfl dX4_setQuota_1 ?_
  refine lv_if_ne (tgt := 10) hx hb dX4_setQuota_4 (by decide) (fun c1 => ?_) (fun c1 => ?_)
  · have hm := g_f c1 hm
    refine lv_iload_n hx hb dX4_setQuota_10 rfl (lv_at hl 1 rfl) ?_
    obtain ⟨x2, ex, hm⟩ := g_bind hm
    refine vp_callSi (W.runS (As := [.int p1]) (rest := []) ⟨hx, hb, hml, hown, hts⟩ (k_X4_isOwner l  p1 _ ex) (va_cwS 1 hts gX4_setQuota_X4_isOwner rfl rfl rfl (by decide +kernel) ⟨Nat.le_of_ble_eq_true rfl, Nat.le_of_ble_eq_true rfl⟩) ⟨w_bl0, fun U hU hW => ⟨rfl, trivial⟩⟩ rfl rfl hl.1 rfl (lv_room (Nat.le_of_ble_eq_true rfl)) dX4_setQuota_11 ⟨Nat.zero_le _, Nat.zero_le _⟩) (fun _ ey => ?_)
    subst ey
    refine lv_if_eq (tgt := 27) hx hb dX4_setQuota_14 (by decide) (fun c3 => ?_) (fun c3 => ?_)
    · have hm := g_t c3 hm
      refine lv_bipush (v := -12) hx hb dX4_setQuota_27 (by decide) ?_
      cases hm
      subst hQ
      exact W.iret hx hb hr (fun t ht hW => ⟨⟨_, (), rfl, rfl, by rw [ht]; exact hP, hD⟩, hS.F ht⟩) hS.2.2 dX4_setQuota_29
    · have hm := g_f c3 hm
      refine lv_iload_n hx hb dX4_setQuota_17 rfl (lv_at hl 2 rfl) ?_
      refine lv_if_lt (tgt := 27) hx hb dX4_setQuota_18 (by decide) (fun c4 => ?_) (fun c4 => ?_)
      · have hm := g_t c4 hm
        refine lv_bipush (v := -12) hx hb dX4_setQuota_27 (by decide) ?_
        cases hm
        subst hQ
        exact W.iret hx hb hr (fun t ht hW => ⟨⟨_, (), rfl, rfl, by rw [ht]; exact hP, hD⟩, hS.F ht⟩) hS.2.2 dX4_setQuota_29
      · have hm := g_f c4 hm
        refine lv_iload_n hx hb dX4_setQuota_21 rfl (lv_at hl 2 rfl) ?_
        refine lv_bipush (v := 32) hx hb dX4_setQuota_22 (by decide) ?_
        refine lv_icmp_le (tgt := 30) hx hb dX4_setQuota_24 (by decide) (fun c5 => ?_) (fun c5 => ?_)
        · have hm := g_t c5 hm
          refine lv_aload_n hx hb dX4_setQuota_30 rfl (lv_at hl 0 rfl) ?_
          refine va_get (D := (dC, dI)) (ci := 2) (v := .ref A_mh) (C := RX4) (T := TX4) (N := 6) hx hb hts hi_X4_setQuota_X4 hown hK hP 0 rfl rfl 1 (by decide) (hts (Cond.fieldLink RX4 19 "BuddyFiles" "memory" "LBuddyFiles$Home;") hk_X4_setQuota_19) (fun _ h9 => h9) rfl dX4_setQuota_31 ?_
          refine lv_iload_n hx hb dX4_setQuota_34 rfl (lv_at hl 1 rfl) ?_
          obtain ⟨x6, ex, hm⟩ := g_bind hm
          refine vp_callSi (W.runV (As := [.int p1]) (rest := []) ⟨hx, hb, hml, hown, hts⟩ (k_X2_usageOf l dC dI A_mh A_ma K_ma c_ma p1 _ ex) (cwV 1 hts gX4_setQuota_X2_usageOf rfl rfl rfl (by decide +kernel) ⟨Nat.le_of_ble_eq_true rfl, Nat.le_of_ble_eq_true rfl⟩) ⟨w_blR, va_recv hK hP (ci := 1) (q0 := 2) rfl rfl, fun U hU hW => ⟨rfl, by rw [hU]; exact hP.sub [2, 6] rfl, va_K.moved hW.alike (hK.sub [2] rfl)⟩⟩ rfl rfl hl.1 rfl (lv_room (Nat.le_of_ble_eq_true rfl)) dX4_setQuota_35 ⟨Nat.zero_le _, Nat.zero_le _⟩) (fun _ ey => ?_)
          subst ey
          refine lv_iload_n hx hb dX4_setQuota_38 rfl (lv_at hl 2 rfl) ?_
          refine lv_icmp_le (tgt := 45) hx hb dX4_setQuota_39 (by decide) (fun c7 => ?_) (fun c7 => ?_)
          · have hm := g_t c7 hm
            refine lv_aload_n hx hb dX4_setQuota_45 rfl (lv_at hl 0 rfl) ?_
            refine va_get (D := (dC, dI)) (ci := 2) (v := .ref A_mh) (C := RX4) (T := TX4) (N := 6) hx hb hts hi_X4_setQuota_X4 hown hK hP 0 rfl rfl 1 (by decide) (hts (Cond.fieldLink RX4 19 "BuddyFiles" "memory" "LBuddyFiles$Home;") hk_X4_setQuota_19) (fun _ h9 => h9) rfl dX4_setQuota_46 ?_
            refine lv_iload_n hx hb dX4_setQuota_49 rfl (lv_at hl 1 rfl) ?_
            refine lv_iload_n hx hb dX4_setQuota_50 rfl (lv_at hl 2 rfl) ?_
            obtain ⟨f8, ex, hm⟩ := g_bind hm
            have hPc := hP.sub (ws' := (wH A_mh A_ma K_ma c_ma)) [2, 6] rfl
            have hDc := hD.sub (ws' := (wH A_mh A_ma K_ma c_ma)) [2, 6] (by decide) rfl
            have hKc := hK.sub (tys' := (tH K_ma)) [2] rfl
            have hFc := va_free (wc := (wH A_mh A_ma K_ma c_ma)) hD hS hA [2, 6] rfl
            refine va_callv (va_runV (As := [.int p1, .int p2]) (rest := []) ⟨hx, hb, hml, hown, hts⟩ (k_X2_putQuota l dC dI A_mh A_ma K_ma c_ma s.heap.size p1 p2 _ ex) (cwV 2 hts gX4_setQuota_X2_putQuota rfl rfl rfl (by decide +kernel) ⟨Nat.le_of_ble_eq_true rfl, Nat.le_of_ble_eq_true rfl⟩) ⟨w_blW, va_recv hKc hPc (ci := 1) (q0 := 0) rfl rfl, fun U hU hW => ⟨rfl, by rw [hU], by rw [hU]; exact hPc, va_K.moved hW.alike hKc, hDc.weaken (fun _ _ _ _ => trivial)⟩⟩ rfl rfl hl.1 rfl (lv_room (Nat.le_of_ble_eq_true rfl)) dX4_setQuota_51 ⟨Nat.zero_le _, Nat.zero_le _⟩) hS (fun q _ h => hFc q h) hFc (fun _ t H9 locs9 ht hvm hw hB hz1 hk1 hS => ?_)
            refine W.widen (k := 0) (n := 0) (Nat.le_refl 0) (Nat.le_refl 0) ?_
            obtain ⟨hP1, hD1⟩ := hB
            rw [ht] at hP1
            obtain ⟨hP, hD⟩ := va_join (wr := [(A_x, .inr (2, [.ref A_d, .ref A_mh, .ref A_jh, .ref A_ha, .int c_up, .int c_fu])), (A_d, .inr (0, [.ref A_da])), (A_jh, .inr (1, [.ref A_ja])), (A_ha, .inl (K_ha, 4, .inl c_ha)), (A_da, .inl (K_da, 332, .inl c_da)), (A_ja, .inl (K_ja, 110, .inl c_ja))]) (w1 := (wH A_mh A_ma K_ma f8)) hP hD [2, 6] [0, 1, 3, 4, 5, 7] rfl rfl (by decide) (by decide) hk1 hFc hP1 hD1
            have hP : va_P (dC, dI) vwCl (wB A_x A_d A_mh A_jh A_ha A_da A_ma A_ja K_ha K_da K_ma K_ja c_ha c_da f8 c_ja c_up c_fu) H9 := hP.sub [0, 1, 6, 2, 3, 4, 7, 5] rfl
            have hD : va_D A (wB A_x A_d A_mh A_jh A_ha A_da A_ma A_ja K_ha K_da K_ma K_ja c_ha c_da f8 c_ja c_up c_fu) := hD.sub [0, 1, 6, 2, 3, 4, 7, 5] (by decide) rfl
            refine lv_iconst (v := 0) hx hb dX4_setQuota_54 (by decide) ?_
            cases hm
            subst hQ
            exact W.iret hx hb hr (fun t ht hW => ⟨⟨_, (), rfl, rfl, by rw [ht]; exact hP, hD⟩, hS.F ht⟩) hS.2.2 dX4_setQuota_55
          · have hm := g_f c7 hm
            refine lv_bipush (v := -10) hx hb dX4_setQuota_42 (by decide) ?_
            cases hm
            subst hQ
            exact W.iret hx hb hr (fun t ht hW => ⟨⟨_, (), rfl, rfl, by rw [ht]; exact hP, hD⟩, hS.F ht⟩) hS.2.2 dX4_setQuota_44
        · have hm := g_f c5 hm
          refine lv_bipush (v := -12) hx hb dX4_setQuota_27 (by decide) ?_
          cases hm
          subst hQ
          exact W.iret hx hb hr (fun t ht hW => ⟨⟨_, (), rfl, rfl, by rw [ht]; exact hP, hD⟩, hS.F ht⟩) hS.2.2 dX4_setQuota_29
  · have hm := g_t c1 hm
    refine lv_bipush (v := -11) hx hb dX4_setQuota_7 (by decide) ?_
    cases hm
    subst hQ
    exact W.iret hx hb hr (fun t ht hW => ⟨⟨_, (), rfl, rfl, by rw [ht]; exact hP, hD⟩, hS.F ht⟩) hS.2.2 dX4_setQuota_9
theorem hi_X4_usage_X4 : ∀ w ∈ wsX40, w ∈ wsX4_usage := by decide +kernel
theorem hk_X4_usage_33 : Cond.fieldLink RX4 33 "BuddyFiles" "up" "Z" ∈ wsX4_usage := by decide +kernel
theorem hk_X4_usage_19 : Cond.fieldLink RX4 19 "BuddyFiles" "memory" "LBuddyFiles$Home;" ∈ wsX4_usage := by decide +kernel
abbrev rm_X4_usage : Room := { frames := 4, cells := 0, slots := 0, locals := 86 }
set_option maxHeartbeats 4000000 in
set_option maxRecDepth 100000 in
theorem k_X4_usage (l : Launch) (dC : Nat → ClassId) (dI : Nat → Nat → Nat) (A_x A_d A_mh A_jh A_ha A_da A_ma A_ja : Nat) (K_ha K_da K_ma K_ja : ClassId) (c_ha c_da c_ma c_ja : Nat → Int32) (c_up c_fu : Int32) (p1 : Int32) (r0 : Int32) (hm : m_X4_usage c_ma c_up p1 = some r0) : Met l yX4_usage wsX4_usage rm_X4_usage (va_Pc [.ref A_x, .int p1] (fun U => va_P (dC, dI) vwCl (wB A_x A_d A_mh A_jh A_ha A_da A_ma A_ja K_ha K_da K_ma K_ja c_ha c_da c_ma c_ja c_up c_fu) U.heap ∧ va_K (dC, dI) vwCl (tB K_ha K_da K_ma K_ja) U)) (vp_Si (fun r => r0 = r)) 0 0 (fun _ => False) := by
  refine Met.ofW (cc := cX4_usage) (maxL := 2) (ret := (some .int)) (by decide) rfl ?_
  intro p e s m args below meth c s₁ B hml hv
  obtain ⟨rfl, hP, hK⟩ := hv
  have hx := B.exec
  have hb := B.bytes
  have hr := B.returns
  have hts := atoms_spec (ws := wsX4_usage) B.pre
  have hown : s.vm.findClass RX4 = some m.cls := findClass_of_methodNamed B.named
  have hlocks := B.notSynchronized
  have hl := lv_entry ([.ref A_x, .int p1]) (n := 2) (Nat.le_of_ble_eq_true rfl)
  rw [lg_entry_eq]
  generalize (lg_sl ([.ref A_x, .int p1]) ++ List.replicate (2 - (lg_sl ([.ref A_x, .int p1])).length) Slot.unset).toArray = ls at hl ⊢
  have hl : lv_has ls 2 [(0, .ref A_x), (1, .int p1)] := hl
  refine w_name (fun Q hQ => ?_)
  unfold m_X4_usage at hm
  refine lv_aload_n hx hb dX4_usage_0 rfl (lv_at hl 0 rfl) ?_
  refine va_get (D := (dC, dI)) (ci := 2) (v := .int c_up) (C := RX4) (T := TX4) (N := 6) hx hb hts hi_X4_usage_X4 hown hK hP 0 rfl rfl 4 (by decide) (hts (Cond.fieldLink RX4 33 "BuddyFiles" "up" "Z") hk_X4_usage_33) (fun _ h9 => h9) rfl dX4_usage_1 ?_
  refine lv_if_ne (tgt := 10) hx hb dX4_usage_4 (by decide) (fun c1 => ?_) (fun c1 => ?_)
  · have hm := g_f c1 hm
    refine lv_iload_n hx hb dX4_usage_10 rfl (lv_at hl 1 rfl) ?_
    obtain ⟨x2, ex, hm⟩ := g_bind hm
    refine vp_callSi (W.runS (As := [.int p1]) (rest := []) ⟨hx, hb, hml, hown, hts⟩ (k_X4_isOwner l  p1 _ ex) (va_cwS 1 hts gX4_usage_X4_isOwner rfl rfl rfl (by decide +kernel) ⟨Nat.le_of_ble_eq_true rfl, Nat.le_of_ble_eq_true rfl⟩) ⟨w_bl0, fun U hU hW => ⟨rfl, trivial⟩⟩ rfl rfl hl.1 rfl (lv_room (Nat.le_of_ble_eq_true rfl)) dX4_usage_11 ⟨Nat.zero_le _, Nat.zero_le _⟩) (fun _ ey => ?_)
    subst ey
    refine lv_if_ne (tgt := 20) hx hb dX4_usage_14 (by decide) (fun c3 => ?_) (fun c3 => ?_)
    · have hm := g_f c3 hm
      refine lv_aload_n hx hb dX4_usage_20 rfl (lv_at hl 0 rfl) ?_
      refine va_get (D := (dC, dI)) (ci := 2) (v := .ref A_mh) (C := RX4) (T := TX4) (N := 6) hx hb hts hi_X4_usage_X4 hown hK hP 0 rfl rfl 1 (by decide) (hts (Cond.fieldLink RX4 19 "BuddyFiles" "memory" "LBuddyFiles$Home;") hk_X4_usage_19) (fun _ h9 => h9) rfl dX4_usage_21 ?_
      refine lv_iload_n hx hb dX4_usage_24 rfl (lv_at hl 1 rfl) ?_
      obtain ⟨x4, ex, hm⟩ := g_bind hm
      refine vp_callSi (W.runV (As := [.int p1]) (rest := []) ⟨hx, hb, hml, hown, hts⟩ (k_X2_usageOf l dC dI A_mh A_ma K_ma c_ma p1 _ ex) (cwV 1 hts gX4_usage_X2_usageOf rfl rfl rfl (by decide +kernel) ⟨Nat.le_of_ble_eq_true rfl, Nat.le_of_ble_eq_true rfl⟩) ⟨w_blR, va_recv hK hP (ci := 1) (q0 := 2) rfl rfl, fun U hU hW => ⟨rfl, by rw [hU]; exact hP.sub [2, 6] rfl, va_K.moved hW.alike (hK.sub [2] rfl)⟩⟩ rfl rfl hl.1 rfl (lv_room (Nat.le_of_ble_eq_true rfl)) dX4_usage_25 ⟨Nat.zero_le _, Nat.zero_le _⟩) (fun _ ey => ?_)
      subst ey
      cases hm
      subst hQ
      exact W.iret hx hb hr (fun t ht hW => ⟨_, rfl, rfl, ht⟩) (fun _ h => nomatch h) dX4_usage_28
    · have hm := g_t c3 hm
      refine lv_bipush (v := -12) hx hb dX4_usage_17 (by decide) ?_
      cases hm
      subst hQ
      exact W.iret hx hb hr (fun t ht hW => ⟨_, rfl, rfl, ht⟩) (fun _ h => nomatch h) dX4_usage_19
  · have hm := g_t c1 hm
    refine lv_bipush (v := -11) hx hb dX4_usage_7 (by decide) ?_
    cases hm
    subst hQ
    exact W.iret hx hb hr (fun t ht hW => ⟨_, rfl, rfl, ht⟩) (fun _ h => nomatch h) dX4_usage_9
theorem hi_X4_free_X4 : ∀ w ∈ wsX40, w ∈ wsX4_free := by decide +kernel
theorem hk_X4_free_33 : Cond.fieldLink RX4 33 "BuddyFiles" "up" "Z" ∈ wsX4_free := by decide +kernel
theorem hk_X4_free_19 : Cond.fieldLink RX4 19 "BuddyFiles" "memory" "LBuddyFiles$Home;" ∈ wsX4_free := by decide +kernel
abbrev rm_X4_free : Room := { frames := 3, cells := 0, slots := 0, locals := 68 }
set_option maxHeartbeats 4000000 in
set_option maxRecDepth 100000 in
theorem k_X4_free (l : Launch) (dC : Nat → ClassId) (dI : Nat → Nat → Nat) (A_x A_d A_mh A_jh A_ha A_da A_ma A_ja : Nat) (K_ha K_da K_ma K_ja : ClassId) (c_ha c_da c_ma c_ja : Nat → Int32) (c_up c_fu : Int32) (p1 : Int32) (r0 : Int32) (hm : m_X4_free c_ma c_up p1 = some r0) : Met l yX4_free wsX4_free rm_X4_free (va_Pc [.ref A_x, .int p1] (fun U => va_P (dC, dI) vwCl (wB A_x A_d A_mh A_jh A_ha A_da A_ma A_ja K_ha K_da K_ma K_ja c_ha c_da c_ma c_ja c_up c_fu) U.heap ∧ va_K (dC, dI) vwCl (tB K_ha K_da K_ma K_ja) U)) (vp_Si (fun r => r0 = r)) 0 0 (fun _ => False) := by
  refine Met.ofW (cc := cX4_free) (maxL := 2) (ret := (some .int)) (by decide) rfl ?_
  intro p e s m args below meth c s₁ B hml hv
  obtain ⟨rfl, hP, hK⟩ := hv
  have hx := B.exec
  have hb := B.bytes
  have hr := B.returns
  have hts := atoms_spec (ws := wsX4_free) B.pre
  have hown : s.vm.findClass RX4 = some m.cls := findClass_of_methodNamed B.named
  have hlocks := B.notSynchronized
  have hl := lv_entry ([.ref A_x, .int p1]) (n := 2) (Nat.le_of_ble_eq_true rfl)
  rw [lg_entry_eq]
  generalize (lg_sl ([.ref A_x, .int p1]) ++ List.replicate (2 - (lg_sl ([.ref A_x, .int p1])).length) Slot.unset).toArray = ls at hl ⊢
  have hl : lv_has ls 2 [(0, .ref A_x), (1, .int p1)] := hl
  refine w_name (fun Q hQ => ?_)
  unfold m_X4_free at hm
  refine lv_aload_n hx hb dX4_free_0 rfl (lv_at hl 0 rfl) ?_
  refine va_get (D := (dC, dI)) (ci := 2) (v := .int c_up) (C := RX4) (T := TX4) (N := 6) hx hb hts hi_X4_free_X4 hown hK hP 0 rfl rfl 4 (by decide) (hts (Cond.fieldLink RX4 33 "BuddyFiles" "up" "Z") hk_X4_free_33) (fun _ h9 => h9) rfl dX4_free_1 ?_
  refine lv_if_ne (tgt := 10) hx hb dX4_free_4 (by decide) (fun c1 => ?_) (fun c1 => ?_)
  · have hm := g_f c1 hm
    refine lv_iload_n hx hb dX4_free_10 rfl (lv_at hl 1 rfl) ?_
    refine lv_if_lt (tgt := 19) hx hb dX4_free_11 (by decide) (fun c2 => ?_) (fun c2 => ?_)
    · have hm := g_t c2 hm
      refine lv_bipush (v := -12) hx hb dX4_free_19 (by decide) ?_
      cases hm
      subst hQ
      exact W.iret hx hb hr (fun t ht hW => ⟨_, rfl, rfl, ht⟩) (fun _ h => nomatch h) dX4_free_21
    · have hm := g_f c2 hm
      refine lv_iload_n hx hb dX4_free_14 rfl (lv_at hl 1 rfl) ?_
      refine lv_iconst (v := 5) hx hb dX4_free_15 (by decide) ?_
      refine lv_icmp_le (tgt := 22) hx hb dX4_free_16 (by decide) (fun c3 => ?_) (fun c3 => ?_)
      · have hm := g_t c3 hm
        refine lv_aload_n hx hb dX4_free_22 rfl (lv_at hl 0 rfl) ?_
        refine va_get (D := (dC, dI)) (ci := 2) (v := .ref A_mh) (C := RX4) (T := TX4) (N := 6) hx hb hts hi_X4_free_X4 hown hK hP 0 rfl rfl 1 (by decide) (hts (Cond.fieldLink RX4 19 "BuddyFiles" "memory" "LBuddyFiles$Home;") hk_X4_free_19) (fun _ h9 => h9) rfl dX4_free_23 ?_
        refine lv_iload_n hx hb dX4_free_26 rfl (lv_at hl 1 rfl) ?_
        obtain ⟨x4, ex, hm⟩ := g_bind hm
        refine vp_callSi (W.runV (As := [.int p1]) (rest := []) ⟨hx, hb, hml, hown, hts⟩ (k_X2_freeRunsOf l dC dI A_mh A_ma K_ma c_ma p1 _ ex) (cwV 1 hts gX4_free_X2_freeRunsOf rfl rfl rfl (by decide +kernel) ⟨Nat.le_of_ble_eq_true rfl, Nat.le_of_ble_eq_true rfl⟩) ⟨w_blR, va_recv hK hP (ci := 1) (q0 := 2) rfl rfl, fun U hU hW => ⟨rfl, by rw [hU]; exact hP.sub [2, 6] rfl, va_K.moved hW.alike (hK.sub [2] rfl)⟩⟩ rfl rfl hl.1 rfl (lv_room (Nat.le_of_ble_eq_true rfl)) dX4_free_27 ⟨Nat.zero_le _, Nat.zero_le _⟩) (fun _ ey => ?_)
        subst ey
        cases hm
        subst hQ
        exact W.iret hx hb hr (fun t ht hW => ⟨_, rfl, rfl, ht⟩) (fun _ h => nomatch h) dX4_free_30
      · have hm := g_f c3 hm
        refine lv_bipush (v := -12) hx hb dX4_free_19 (by decide) ?_
        cases hm
        subst hQ
        exact W.iret hx hb hr (fun t ht hW => ⟨_, rfl, rfl, ht⟩) (fun _ h => nomatch h) dX4_free_21
  · have hm := g_t c1 hm
    refine lv_bipush (v := -11) hx hb dX4_free_7 (by decide) ?_
    cases hm
    subst hQ
    exact W.iret hx hb hr (fun t ht hW => ⟨_, rfl, rfl, ht⟩) (fun _ h => nomatch h) dX4_free_9
theorem hi_X4_isChanged_X4 : ∀ w ∈ wsX40, w ∈ wsX4_isChanged := by decide +kernel
theorem hk_X4_isChanged_10 : Cond.fieldLink RX4 10 "BuddyFiles" "disk" "LBuddyFiles$Disk;" ∈ wsX4_isChanged := by decide +kernel
theorem hi_X4_isChanged_X1 : ∀ w ∈ wsX10, w ∈ wsX4_isChanged := by decide +kernel
theorem hk_X4_isChanged_125 : Cond.fieldLink RX4 125 "BuddyFiles$Disk" "cells" "[I" ∈ wsX4_isChanged := by decide +kernel
theorem hk_X4_isChanged_19 : Cond.fieldLink RX4 19 "BuddyFiles" "memory" "LBuddyFiles$Home;" ∈ wsX4_isChanged := by decide +kernel
theorem hi_X4_isChanged_X2 : ∀ w ∈ wsX20, w ∈ wsX4_isChanged := by decide +kernel
theorem hk_X4_isChanged_141 : Cond.fieldLink RX4 141 "BuddyFiles$Home" "cells" "[I" ∈ wsX4_isChanged := by decide +kernel
abbrev rm_X4_isChanged : Room := { frames := 0, cells := 0, slots := 0, locals := 0 }
set_option maxHeartbeats 4000000 in
set_option maxRecDepth 100000 in
theorem k_X4_isChanged (l : Launch) (dC : Nat → ClassId) (dI : Nat → Nat → Nat) (A_x A_d A_mh A_jh A_ha A_da A_ma A_ja : Nat) (K_ha K_da K_ma K_ja : ClassId) (c_ha c_da c_ma c_ja : Nat → Int32) (c_up c_fu : Int32) (p1 : Int32) (r0 : Int32) (hm : m_X4_isChanged c_da c_ma p1 = some r0) : Met l yX4_isChanged wsX4_isChanged rm_X4_isChanged (va_Pc [.ref A_x, .int p1] (fun U => va_P (dC, dI) vwCl (wB A_x A_d A_mh A_jh A_ha A_da A_ma A_ja K_ha K_da K_ma K_ja c_ha c_da c_ma c_ja c_up c_fu) U.heap ∧ va_K (dC, dI) vwCl (tB K_ha K_da K_ma K_ja) U)) (vp_Si (fun r => r0 = r)) 0 0 (fun _ => False) := by
  refine Met.ofW (cc := cX4_isChanged) (maxL := 2) (ret := (some .boolean)) (by decide) rfl ?_
  intro p e s m args below meth c s₁ B hml hv
  obtain ⟨rfl, hP, hK⟩ := hv
  have hx := B.exec
  have hb := B.bytes
  have hr := B.returns
  have hts := atoms_spec (ws := wsX4_isChanged) B.pre
  have hown : s.vm.findClass RX4 = some m.cls := findClass_of_methodNamed B.named
  have hlocks := B.notSynchronized
  have hl := lv_entry ([.ref A_x, .int p1]) (n := 2) (Nat.le_of_ble_eq_true rfl)
  rw [lg_entry_eq]
  generalize (lg_sl ([.ref A_x, .int p1]) ++ List.replicate (2 - (lg_sl ([.ref A_x, .int p1])).length) Slot.unset).toArray = ls at hl ⊢
  have hl : lv_has ls 2 [(0, .ref A_x), (1, .int p1)] := hl
  refine w_name (fun Q hQ => ?_)
  unfold m_X4_isChanged at hm
  refine lv_aload_n hx hb dX4_isChanged_0 rfl (lv_at hl 0 rfl) ?_
  refine va_get (D := (dC, dI)) (ci := 2) (v := .ref A_d) (C := RX4) (T := TX4) (N := 6) hx hb hts hi_X4_isChanged_X4 hown hK hP 0 rfl rfl 0 (by decide) (hts (Cond.fieldLink RX4 10 "BuddyFiles" "disk" "LBuddyFiles$Disk;") hk_X4_isChanged_10) (fun _ h9 => h9) rfl dX4_isChanged_1 ?_
  refine va_get (D := (dC, dI)) (ci := 0) (v := .ref A_da) (C := RX1) (T := TX1) (N := 1) hx hb hts hi_X4_isChanged_X1 hown hK hP 1 rfl rfl 0 (by decide) (hts (Cond.fieldLink RX4 125 "BuddyFiles$Disk" "cells" "[I") hk_X4_isChanged_125) (fun _ h9 => h9) rfl dX4_isChanged_4 ?_
  refine lv_iload_n hx hb dX4_isChanged_7 rfl (lv_at hl 1 rfl) ?_
  obtain ⟨x1, ex, hm⟩ := g_bind hm
  refine w_ald hx hb hK hP 5 1 rfl rfl ex dX4_isChanged_8 ?_
  refine lv_aload_n hx hb dX4_isChanged_9 rfl (lv_at hl 0 rfl) ?_
  refine va_get (D := (dC, dI)) (ci := 2) (v := .ref A_mh) (C := RX4) (T := TX4) (N := 6) hx hb hts hi_X4_isChanged_X4 hown hK hP 0 rfl rfl 1 (by decide) (hts (Cond.fieldLink RX4 19 "BuddyFiles" "memory" "LBuddyFiles$Home;") hk_X4_isChanged_19) (fun _ h9 => h9) rfl dX4_isChanged_10 ?_
  refine va_get (D := (dC, dI)) (ci := 1) (v := .ref A_ma) (C := RX2) (T := TX2) (N := 1) hx hb hts hi_X4_isChanged_X2 hown hK hP 2 rfl rfl 0 (by decide) (hts (Cond.fieldLink RX4 141 "BuddyFiles$Home" "cells" "[I") hk_X4_isChanged_141) (fun _ h9 => h9) rfl dX4_isChanged_13 ?_
  refine lv_iload_n hx hb dX4_isChanged_16 rfl (lv_at hl 1 rfl) ?_
  obtain ⟨x2, ex, hm⟩ := g_bind hm
  refine w_ald hx hb hK hP 6 2 rfl rfl ex dX4_isChanged_17 ?_
  refine lv_icmp_eq (tgt := 25) hx hb dX4_isChanged_18 (by decide) (fun c3 => ?_) (fun c3 => ?_)
  · have hm := g_t c3 hm
    refine lv_iconst (v := 0) hx hb dX4_isChanged_25 (by decide) ?_
    cases hm
    subst hQ
    exact W.zret hx hb hr rfl (fun t ht hW => ⟨_, rfl, rfl, ht⟩) (fun _ h => nomatch h) dX4_isChanged_26
  · have hm := g_f c3 hm
    refine lv_iconst (v := 1) hx hb dX4_isChanged_21 (by decide) ?_
    refine lv_goto (tgt := 26) hx hb dX4_isChanged_22 (by decide) ?_
    cases hm
    subst hQ
    exact W.zret hx hb hr rfl (fun t ht hW => ⟨_, rfl, rfl, ht⟩) (fun _ h => nomatch h) dX4_isChanged_26
abbrev rm_X4_countChanges : Room := { frames := 1, cells := 0, slots := 0, locals := 21 }
set_option maxHeartbeats 4000000 in
set_option maxRecDepth 100000 in
theorem k_X4_countChanges (l : Launch) (dC : Nat → ClassId) (dI : Nat → Nat → Nat) (A_x A_d A_mh A_jh A_ha A_da A_ma A_ja : Nat) (K_ha K_da K_ma K_ja : ClassId) (c_ha c_da c_ma c_ja : Nat → Int32) (c_up c_fu : Int32)  (r0 : Int32) (hm : m_X4_countChanges c_da c_ma = some r0) : Met l yX4_countChanges wsX4_countChanges rm_X4_countChanges (va_Pc [.ref A_x] (fun U => va_P (dC, dI) vwCl (wB A_x A_d A_mh A_jh A_ha A_da A_ma A_ja K_ha K_da K_ma K_ja c_ha c_da c_ma c_ja c_up c_fu) U.heap ∧ va_K (dC, dI) vwCl (tB K_ha K_da K_ma K_ja) U)) (vp_Si (fun r => r0 = r)) 0 0 (fun _ => False) := by
  refine Met.ofW (cc := cX4_countChanges) (maxL := 3) (ret := (some .int)) (by decide) rfl ?_
  intro p e s m args below meth c s₁ B hml hv
  obtain ⟨rfl, hP, hK⟩ := hv
  have hx := B.exec
  have hb := B.bytes
  have hr := B.returns
  have hts := atoms_spec (ws := wsX4_countChanges) B.pre
  have hown : s.vm.findClass RX4 = some m.cls := findClass_of_methodNamed B.named
  have hlocks := B.notSynchronized
  have hl := lv_entry ([.ref A_x]) (n := 3) (Nat.le_of_ble_eq_true rfl)
  rw [lg_entry_eq]
  generalize (lg_sl ([.ref A_x]) ++ List.replicate (3 - (lg_sl ([.ref A_x])).length) Slot.unset).toArray = ls at hl ⊢
  have hl : lv_has ls 3 [(0, .ref A_x)] := hl
  refine w_name (fun Q hQ => ?_)
  unfold m_X4_countChanges at hm
  refine lv_iconst (v := 0) hx hb dX4_countChanges_0 (by decide) ?_
  refine lv_istore_n (lv' := [(1, .int (0 : Int32)), (0, .ref A_x)]) hx hb dX4_countChanges_1 rfl hl (by decide) rfl (fun ls hl => ?_)
  refine lv_iconst (v := 0) hx hb dX4_countChanges_2 (by decide) ?_
  refine lv_istore_n (lv' := [(2, .int (0 : Int32)), (1, .int (0 : Int32)), (0, .ref A_x)]) hx hb dX4_countChanges_3 rfl hl (by decide) rfl (fun ls hl => ?_)
  obtain ⟨rl4, hlp, hm⟩ := g_bind hm
  have hE4 : ∀ (z3 : Int32), z3 = rl4 → ∀ (ls : Array Slot), lv_has ls 3 [(1, .int z3)] → W p l e (headSpec wsX4_countChanges rm_X4_countChanges).room s m (([.ref A_x] : List Value).toArray) below meth c s.heap [] 0 0 Q (F0 m 27 ls []) := by
    intro z3 hq ls hl
    subst hq
    have hm := g_k1_s hm
    refine lv_iload_n hx hb dX4_countChanges_27 rfl (lv_at hl 0 rfl) ?_
    cases hm
    subst hQ
    exact W.iret hx hb hr (fun t ht hW => ⟨_, rfl, rfl, ht⟩) (fun _ h => nomatch h) dX4_countChanges_28
  have hL4 : ∀ (n : Nat) (y1 : Int32) (y2 : Int32), g_loop (fun q => m_X4_countChanges_L4 c_da c_ma q.1 q.2) n (y1, y2) = some rl4 → ∀ (ls : Array Slot), lv_has ls 3 [(0, .ref A_x), (1, .int y1), (2, .int y2)] → W p l e (headSpec wsX4_countChanges rm_X4_countChanges).room s m (([.ref A_x] : List Value).toArray) below meth c s.heap [] 0 0 Q (F0 m 4 ls []) := by
    intro n
    induction n with
    | zero =>
      intro y1 y2 hm
      exact g_loop_z hm
    | succ n ih =>
      intro y1 y2 hm ls hl
      obtain ⟨q, hm, hy⟩ := g_loop_s hm
      have hm : m_X4_countChanges_L4 c_da c_ma y1 y2 = some q := hm
      unfold m_X4_countChanges_L4 at hm
      refine lv_iload_n hx hb dX4_countChanges_4 rfl (lv_at hl 2 rfl) ?_
      refine lv_bipush (v := 110) hx hb dX4_countChanges_5 (by decide) ?_
      refine lv_icmp_ge (tgt := 27) hx hb dX4_countChanges_7 (by decide) (fun c5 => ?_) (fun c5 => ?_)
      · have hm := g_t c5 hm
        cases hm
        exact hE4 _ hy _ (lv_sub hl [1] rfl)
      · have hm := g_f c5 hm
        refine lv_aload_n hx hb dX4_countChanges_10 rfl (lv_at hl 0 rfl) ?_
        refine lv_iload_n hx hb dX4_countChanges_11 rfl (lv_at hl 2 rfl) ?_
        obtain ⟨x6, ex, hm⟩ := g_bind hm
        refine vp_callSi (W.runV (As := [.int y2]) (rest := []) ⟨hx, hb, hml, hown, hts⟩ (k_X4_isChanged l dC dI A_x A_d A_mh A_jh A_ha A_da A_ma A_ja K_ha K_da K_ma K_ja c_ha c_da c_ma c_ja c_up c_fu y2 _ ex) (cwV 1 hts gX4_countChanges_X4_isChanged rfl rfl rfl (by decide +kernel) ⟨Nat.le_of_ble_eq_true rfl, Nat.le_of_ble_eq_true rfl⟩) ⟨w_blR, va_recv hK hP (ci := 2) (q0 := 0) rfl rfl, fun U hU hW => ⟨rfl, by rw [hU]; exact hP.sub [0, 1, 2, 3, 4, 5, 6, 7] rfl, va_K.moved hW.alike (hK.sub [0, 1, 2, 3] rfl)⟩⟩ rfl rfl hl.1 rfl (lv_room (Nat.le_of_ble_eq_true rfl)) dX4_countChanges_12 ⟨Nat.zero_le _, Nat.zero_le _⟩) (fun _ ey => ?_)
        subst ey
        refine lv_if_eq (tgt := 21) hx hb dX4_countChanges_15 (by decide) (fun c7 => ?_) (fun c7 => ?_)
        · have hm := g_t c7 hm
          refine lv_iinc (v := (y2 + (1 : Int32))) (lv' := [(2, .int (y2 + (1 : Int32))), (0, .ref A_x), (1, .int y1)]) hx hb dX4_countChanges_21 hl (k := 2) rfl rfl (by decide) rfl (fun ls hl => ?_)
          refine lv_goto (tgt := 4) hx hb dX4_countChanges_24 (by decide) ?_
          cases hm
          exact ih _ _ hy _ (lv_sub hl [1, 2, 0] rfl)
        · have hm := g_f c7 hm
          refine lv_iinc (v := (y1 + (1 : Int32))) (lv' := [(1, .int (y1 + (1 : Int32))), (0, .ref A_x), (2, .int y2)]) hx hb dX4_countChanges_18 hl (k := 1) rfl rfl (by decide) rfl (fun ls hl => ?_)
          refine lv_iinc (v := (y2 + (1 : Int32))) (lv' := [(2, .int (y2 + (1 : Int32))), (1, .int (y1 + (1 : Int32))), (0, .ref A_x)]) hx hb dX4_countChanges_21 hl (k := 2) rfl rfl (by decide) rfl (fun ls hl => ?_)
          refine lv_goto (tgt := 4) hx hb dX4_countChanges_24 (by decide) ?_
          cases hm
          exact ih _ _ hy _ (lv_sub hl [2, 1, 0] rfl)
  exact hL4 _ _ _ hlp _ (lv_sub hl [2, 1, 0] rfl)
theorem hi_X4_writeCell_X4 : ∀ w ∈ wsX40, w ∈ wsX4_writeCell := by decide +kernel
theorem hk_X4_writeCell_115 : Cond.fieldLink RX4 115 "BuddyFiles" "fuse" "I" ∈ wsX4_writeCell := by decide +kernel
theorem hk_X4_writeCell_10 : Cond.fieldLink RX4 10 "BuddyFiles" "disk" "LBuddyFiles$Disk;" ∈ wsX4_writeCell := by decide +kernel
theorem hi_X4_writeCell_X1 : ∀ w ∈ wsX10, w ∈ wsX4_writeCell := by decide +kernel
theorem hk_X4_writeCell_125 : Cond.fieldLink RX4 125 "BuddyFiles$Disk" "cells" "[I" ∈ wsX4_writeCell := by decide +kernel
abbrev rm_X4_writeCell : Room := { frames := 0, cells := 0, slots := 0, locals := 0 }
set_option maxHeartbeats 4000000 in
set_option maxRecDepth 100000 in
theorem k_X4_writeCell (l : Launch) (dC : Nat → ClassId) (dI : Nat → Nat → Nat) (A_x A_d A_mh A_jh A_ha A_da A_ma A_ja : Nat) (K_ha K_da K_ma K_ja : ClassId) (c_ha c_da c_ma c_ja : Nat → Int32) (c_up c_fu : Int32) (sz : Nat) (p1 : Int32) (p2 : Int32) (r0 : Int32) (o_da : (Nat → Int32)) (o_fu : Int32) (hm : m_X4_writeCell c_da c_fu p1 p2 = some (r0, o_da, o_fu)) : Met l yX4_writeCell wsX4_writeCell rm_X4_writeCell (va_Pc [.ref A_x, .int p1, .int p2] (fun U => U.heap.size = sz ∧ va_P (dC, dI) vwCl (wB A_x A_d A_mh A_jh A_ha A_da A_ma A_ja K_ha K_da K_ma K_ja c_ha c_da c_ma c_ja c_up c_fu) U.heap ∧ va_K (dC, dI) vwCl (tB K_ha K_da K_ma K_ja) U ∧ va_D (fun _ => True) (wB A_x A_d A_mh A_jh A_ha A_da A_ma A_ja K_ha K_da K_ma K_ja c_ha c_da c_ma c_ja c_up c_fu))) (va_Qi (fun (r : Int32) (_ : Unit) => r0 = r) (fun _ t => va_P (dC, dI) vwCl (wB A_x A_d A_mh A_jh A_ha A_da A_ma A_ja K_ha K_da K_ma K_ja c_ha o_da c_ma c_ja c_up o_fu) t.heap ∧ va_D (va_A (wB A_x A_d A_mh A_jh A_ha A_da A_ma A_ja K_ha K_da K_ma K_ja c_ha c_da c_ma c_ja c_up c_fu) sz) (wB A_x A_d A_mh A_jh A_ha A_da A_ma A_ja K_ha K_da K_ma K_ja c_ha o_da c_ma c_ja c_up o_fu)) (va_A (wB A_x A_d A_mh A_jh A_ha A_da A_ma A_ja K_ha K_da K_ma K_ja c_ha c_da c_ma c_ja c_up c_fu) sz)) 0 0 (va_A (wB A_x A_d A_mh A_jh A_ha A_da A_ma A_ja K_ha K_da K_ma K_ja c_ha c_da c_ma c_ja c_up c_fu) sz) := by
  refine Met.ofW (cc := cX4_writeCell) (maxL := 3) (ret := (some .boolean)) (by decide) rfl ?_
  intro p e s m args below meth c s₁ B hml hv
  obtain ⟨rfl, hsz, hP, hK, hD0⟩ := hv
  have hx := B.exec
  have hb := B.bytes
  have hr := B.returns
  have hts := atoms_spec (ws := wsX4_writeCell) B.pre
  have hown : s.vm.findClass RX4 = some m.cls := findClass_of_methodNamed B.named
  have hlocks := B.notSynchronized
  subst hsz
  have hD := hD0.self (sz := s.heap.size)
  generalize hAe : va_A (wB A_x A_d A_mh A_jh A_ha A_da A_ma A_ja K_ha K_da K_ma K_ja c_ha c_da c_ma c_ja c_up c_fu) s.heap.size = A at hD ⊢
  have hA : ∀ q : Nat, s.heap.size ≤ q → A q := fun q h => by rw [← hAe]; exact Or.inr h
  have hS : va_S A s.heap s.heap [] := va_S.rf
  have hP : va_P (dC, dI) vwCl (wB A_x A_d A_mh A_jh A_ha A_da A_ma A_ja K_ha K_da K_ma K_ja c_ha c_da c_ma c_ja c_up c_fu) s.heap := hP
  have hl := lv_entry ([.ref A_x, .int p1, .int p2]) (n := 3) (Nat.le_of_ble_eq_true rfl)
  rw [lg_entry_eq]
  generalize (lg_sl ([.ref A_x, .int p1, .int p2]) ++ List.replicate (3 - (lg_sl ([.ref A_x, .int p1, .int p2])).length) Slot.unset).toArray = ls at hl ⊢
  have hl : lv_has ls 3 [(0, .ref A_x), (1, .int p1), (2, .int p2)] := hl
  refine w_name (fun Q hQ => ?_)
  unfold m_X4_writeCell at hm
  refine lv_aload_n hx hb dX4_writeCell_0 rfl (lv_at hl 0 rfl) ?_
  refine va_get (D := (dC, dI)) (ci := 2) (v := .int c_fu) (C := RX4) (T := TX4) (N := 6) hx hb hts hi_X4_writeCell_X4 hown hK hP 0 rfl rfl 5 (by decide) (hts (Cond.fieldLink RX4 115 "BuddyFiles" "fuse" "I") hk_X4_writeCell_115) (fun _ h9 => h9) rfl dX4_writeCell_1 ?_
  refine lv_if_ne (tgt := 9) hx hb dX4_writeCell_4 (by decide) (fun c1 => ?_) (fun c1 => ?_)
  · have hm := g_f c1 hm
    refine lv_aload_n hx hb dX4_writeCell_9 rfl (lv_at hl 0 rfl) ?_
    refine va_get (D := (dC, dI)) (ci := 2) (v := .int c_fu) (C := RX4) (T := TX4) (N := 6) hx hb hts hi_X4_writeCell_X4 hown hK hP 0 rfl rfl 5 (by decide) (hts (Cond.fieldLink RX4 115 "BuddyFiles" "fuse" "I") hk_X4_writeCell_115) (fun _ h9 => h9) rfl dX4_writeCell_10 ?_
    refine lv_if_le (tgt := 26) hx hb dX4_writeCell_13 (by decide) (fun c2 => ?_) (fun c2 => ?_)
    · have hm := g_t c2 hm
      refine lv_aload_n hx hb dX4_writeCell_26 rfl (lv_at hl 0 rfl) ?_
      refine va_get (D := (dC, dI)) (ci := 2) (v := .ref A_d) (C := RX4) (T := TX4) (N := 6) hx hb hts hi_X4_writeCell_X4 hown hK hP 0 rfl rfl 0 (by decide) (hts (Cond.fieldLink RX4 10 "BuddyFiles" "disk" "LBuddyFiles$Disk;") hk_X4_writeCell_10) (fun _ h9 => h9) rfl dX4_writeCell_27 ?_
      refine va_get (D := (dC, dI)) (ci := 0) (v := .ref A_da) (C := RX1) (T := TX1) (N := 1) hx hb hts hi_X4_writeCell_X1 hown hK hP 1 rfl rfl 0 (by decide) (hts (Cond.fieldLink RX4 125 "BuddyFiles$Disk" "cells" "[I") hk_X4_writeCell_125) (fun _ h9 => h9) rfl dX4_writeCell_30 ?_
      refine lv_iload_n hx hb dX4_writeCell_33 rfl (lv_at hl 1 rfl) ?_
      refine lv_iload_n hx hb dX4_writeCell_34 rfl (lv_at hl 2 rfl) ?_
      obtain ⟨f3, ex, hm⟩ := g_bind hm
      refine w_ast hx hb hK hP hD hS 5 1 rfl rfl ex dX4_writeCell_35 (fun H4 locs4 hP hD hS => ?_)
      have hP : va_P (dC, dI) vwCl (wB A_x A_d A_mh A_jh A_ha A_da A_ma A_ja K_ha K_da K_ma K_ja c_ha f3 c_ma c_ja c_up c_fu) H4 := hP
      have hD : va_D A (wB A_x A_d A_mh A_jh A_ha A_da A_ma A_ja K_ha K_da K_ma K_ja c_ha f3 c_ma c_ja c_up c_fu) := hD
      refine lv_iconst (v := 1) hx hb dX4_writeCell_36 (by decide) ?_
      cases hm
      subst hQ
      exact W.zret hx hb hr rfl (fun t ht hW => ⟨⟨_, (), rfl, rfl, by rw [ht]; exact hP, hD⟩, hS.F ht⟩) hS.2.2 dX4_writeCell_37
    · have hm := g_f c2 hm
      refine lv_aload_n hx hb dX4_writeCell_16 rfl (lv_at hl 0 rfl) ?_
      refine lv_dup hx hb dX4_writeCell_17 rfl ?_
      refine va_get (D := (dC, dI)) (ci := 2) (v := .int c_fu) (C := RX4) (T := TX4) (N := 6) hx hb hts hi_X4_writeCell_X4 hown hK hP 0 rfl rfl 5 (by decide) (hts (Cond.fieldLink RX4 115 "BuddyFiles" "fuse" "I") hk_X4_writeCell_115) (fun _ h9 => h9) rfl dX4_writeCell_18 ?_
      refine lv_iconst (v := 1) hx hb dX4_writeCell_21 (by decide) ?_
      refine lv_isub hx hb dX4_writeCell_22 ?_
      refine va_put (D := (dC, dI)) (ci := 2) (v := .int (c_fu - (1 : Int32))) (ty := .int) (C := RX4) (T := TX4) (N := 6) hx hb hts hi_X4_writeCell_X4 tyX4 tyX4_ok nmX4 hown hK hP hD hS 0 rfl rfl 5 (by decide) (hts (Cond.fieldLink RX4 115 "BuddyFiles" "fuse" "I") hk_X4_writeCell_115) (fun _ h9 => h9) rfl (by decide +kernel) rfl rfl (Nat.le_of_ble_eq_true rfl) dX4_writeCell_23 (fun H5 locs5 hP hD hS => ?_)
      have hP : va_P (dC, dI) vwCl (wB A_x A_d A_mh A_jh A_ha A_da A_ma A_ja K_ha K_da K_ma K_ja c_ha c_da c_ma c_ja c_up (c_fu - (1 : Int32))) H5 := hP
      have hD : va_D A (wB A_x A_d A_mh A_jh A_ha A_da A_ma A_ja K_ha K_da K_ma K_ja c_ha c_da c_ma c_ja c_up (c_fu - (1 : Int32))) := hD
      refine lv_aload_n hx hb dX4_writeCell_26 rfl (lv_at hl 0 rfl) ?_
      refine va_get (D := (dC, dI)) (ci := 2) (v := .ref A_d) (C := RX4) (T := TX4) (N := 6) hx hb hts hi_X4_writeCell_X4 hown hK hP 0 rfl rfl 0 (by decide) (hts (Cond.fieldLink RX4 10 "BuddyFiles" "disk" "LBuddyFiles$Disk;") hk_X4_writeCell_10) (fun _ h9 => h9) rfl dX4_writeCell_27 ?_
      refine va_get (D := (dC, dI)) (ci := 0) (v := .ref A_da) (C := RX1) (T := TX1) (N := 1) hx hb hts hi_X4_writeCell_X1 hown hK hP 1 rfl rfl 0 (by decide) (hts (Cond.fieldLink RX4 125 "BuddyFiles$Disk" "cells" "[I") hk_X4_writeCell_125) (fun _ h9 => h9) rfl dX4_writeCell_30 ?_
      refine lv_iload_n hx hb dX4_writeCell_33 rfl (lv_at hl 1 rfl) ?_
      refine lv_iload_n hx hb dX4_writeCell_34 rfl (lv_at hl 2 rfl) ?_
      obtain ⟨f6, ex, hm⟩ := g_bind hm
      refine w_ast hx hb hK hP hD hS 5 1 rfl rfl ex dX4_writeCell_35 (fun H7 locs7 hP hD hS => ?_)
      have hP : va_P (dC, dI) vwCl (wB A_x A_d A_mh A_jh A_ha A_da A_ma A_ja K_ha K_da K_ma K_ja c_ha f6 c_ma c_ja c_up (c_fu - (1 : Int32))) H7 := hP
      have hD : va_D A (wB A_x A_d A_mh A_jh A_ha A_da A_ma A_ja K_ha K_da K_ma K_ja c_ha f6 c_ma c_ja c_up (c_fu - (1 : Int32))) := hD
      refine lv_iconst (v := 1) hx hb dX4_writeCell_36 (by decide) ?_
      cases hm
      subst hQ
      exact W.zret hx hb hr rfl (fun t ht hW => ⟨⟨_, (), rfl, rfl, by rw [ht]; exact hP, hD⟩, hS.F ht⟩) hS.2.2 dX4_writeCell_37
  · have hm := g_t c1 hm
    refine lv_iconst (v := 0) hx hb dX4_writeCell_7 (by decide) ?_
    cases hm
    subst hQ
    exact W.zret hx hb hr rfl (fun t ht hW => ⟨⟨_, (), rfl, rfl, by rw [ht]; exact hP, hD⟩, hS.F ht⟩) hS.2.2 dX4_writeCell_8
theorem hi_X4_writeJournal_X4 : ∀ w ∈ wsX40, w ∈ wsX4_writeJournal := by decide +kernel
theorem hk_X4_writeJournal_19 : Cond.fieldLink RX4 19 "BuddyFiles" "memory" "LBuddyFiles$Home;" ∈ wsX4_writeJournal := by decide +kernel
theorem hi_X4_writeJournal_X2 : ∀ w ∈ wsX20, w ∈ wsX4_writeJournal := by decide +kernel
theorem hk_X4_writeJournal_141 : Cond.fieldLink RX4 141 "BuddyFiles$Home" "cells" "[I" ∈ wsX4_writeJournal := by decide +kernel
abbrev rm_X4_writeJournal : Room := { frames := 1, cells := 0, slots := 0, locals := 22 }
set_option maxHeartbeats 4000000 in
set_option maxRecDepth 100000 in
theorem k_X4_writeJournal (l : Launch) (dC : Nat → ClassId) (dI : Nat → Nat → Nat) (A_x A_d A_mh A_jh A_ha A_da A_ma A_ja : Nat) (K_ha K_da K_ma K_ja : ClassId) (c_ha c_da c_ma c_ja : Nat → Int32) (c_up c_fu : Int32) (sz : Nat) (p1 : Int32) (r0 : Int32) (o_da : (Nat → Int32)) (o_fu : Int32) (hm : m_X4_writeJournal c_da c_ma c_fu p1 = some (r0, o_da, o_fu)) : Met l yX4_writeJournal wsX4_writeJournal rm_X4_writeJournal (va_Pc [.ref A_x, .int p1] (fun U => U.heap.size = sz ∧ va_P (dC, dI) vwCl (wB A_x A_d A_mh A_jh A_ha A_da A_ma A_ja K_ha K_da K_ma K_ja c_ha c_da c_ma c_ja c_up c_fu) U.heap ∧ va_K (dC, dI) vwCl (tB K_ha K_da K_ma K_ja) U ∧ va_D (fun _ => True) (wB A_x A_d A_mh A_jh A_ha A_da A_ma A_ja K_ha K_da K_ma K_ja c_ha c_da c_ma c_ja c_up c_fu))) (va_Qi (fun (r : Int32) (_ : Unit) => r0 = r) (fun _ t => va_P (dC, dI) vwCl (wB A_x A_d A_mh A_jh A_ha A_da A_ma A_ja K_ha K_da K_ma K_ja c_ha o_da c_ma c_ja c_up o_fu) t.heap ∧ va_D (va_A (wB A_x A_d A_mh A_jh A_ha A_da A_ma A_ja K_ha K_da K_ma K_ja c_ha c_da c_ma c_ja c_up c_fu) sz) (wB A_x A_d A_mh A_jh A_ha A_da A_ma A_ja K_ha K_da K_ma K_ja c_ha o_da c_ma c_ja c_up o_fu)) (va_A (wB A_x A_d A_mh A_jh A_ha A_da A_ma A_ja K_ha K_da K_ma K_ja c_ha c_da c_ma c_ja c_up c_fu) sz)) 0 0 (va_A (wB A_x A_d A_mh A_jh A_ha A_da A_ma A_ja K_ha K_da K_ma K_ja c_ha c_da c_ma c_ja c_up c_fu) sz) := by
  refine Met.ofW (cc := cX4_writeJournal) (maxL := 6) (ret := (some .boolean)) (by decide) rfl ?_
  intro p e s m args below meth c s₁ B hml hv
  obtain ⟨rfl, hsz, hP, hK, hD0⟩ := hv
  have hx := B.exec
  have hb := B.bytes
  have hr := B.returns
  have hts := atoms_spec (ws := wsX4_writeJournal) B.pre
  have hown : s.vm.findClass RX4 = some m.cls := findClass_of_methodNamed B.named
  have hlocks := B.notSynchronized
  subst hsz
  have hD := hD0.self (sz := s.heap.size)
  generalize hAe : va_A (wB A_x A_d A_mh A_jh A_ha A_da A_ma A_ja K_ha K_da K_ma K_ja c_ha c_da c_ma c_ja c_up c_fu) s.heap.size = A at hD ⊢
  have hA : ∀ q : Nat, s.heap.size ≤ q → A q := fun q h => by rw [← hAe]; exact Or.inr h
  have hS : va_S A s.heap s.heap [] := va_S.rf
  have hP : va_P (dC, dI) vwCl (wB A_x A_d A_mh A_jh A_ha A_da A_ma A_ja K_ha K_da K_ma K_ja c_ha c_da c_ma c_ja c_up c_fu) s.heap := hP
  have hl := lv_entry ([.ref A_x, .int p1]) (n := 6) (Nat.le_of_ble_eq_true rfl)
  rw [lg_entry_eq]
  generalize (lg_sl ([.ref A_x, .int p1]) ++ List.replicate (6 - (lg_sl ([.ref A_x, .int p1])).length) Slot.unset).toArray = ls at hl ⊢
  have hl : lv_has ls 6 [(0, .ref A_x), (1, .int p1)] := hl
  refine w_name (fun Q hQ => ?_)
  unfold m_X4_writeJournal at hm
  refine lv_iload_n hx hb dX4_writeJournal_0 rfl (lv_at hl 1 rfl) ?_
  refine lv_istore_n (lv' := [(2, .int p1), (0, .ref A_x), (1, .int p1)]) hx hb dX4_writeJournal_1 rfl hl (by decide) rfl (fun ls hl => ?_)
  refine lv_bipush (v := 112) hx hb dX4_writeJournal_2 (by decide) ?_
  refine lv_istore_n (lv' := [(3, .int (112 : Int32)), (2, .int p1), (0, .ref A_x), (1, .int p1)]) hx hb dX4_writeJournal_4 rfl hl (by decide) rfl (fun ls hl => ?_)
  refine lv_iconst (v := 0) hx hb dX4_writeJournal_5 (by decide) ?_
  refine lv_istore (lv' := [(4, .int (0 : Int32)), (3, .int (112 : Int32)), (2, .int p1), (0, .ref A_x), (1, .int p1)]) hx hb dX4_writeJournal_6 hl (by decide) rfl (fun ls hl => ?_)
  obtain ⟨rl9, hlp, hm⟩ := g_bind hm
  have hE9 : ∀ (z6 : Int32) (f7 : (Nat → Int32)) (f8 : Int32), Sum.inr (z6, f7, f8) = rl9 → ∀ (H9e : Heap) (locs9e : List Loc), va_P (dC, dI) vwCl (wB A_x A_d A_mh A_jh A_ha A_da A_ma A_ja K_ha K_da K_ma K_ja c_ha f7 c_ma c_ja c_up f8) H9e → va_D A (wB A_x A_d A_mh A_jh A_ha A_da A_ma A_ja K_ha K_da K_ma K_ja c_ha f7 c_ma c_ja c_up f8) → va_S A s.heap H9e locs9e → ∀ (ls : Array Slot), lv_has ls 6 [(0, .ref A_x), (1, .int p1), (2, .int z6)] → W p l e (headSpec wsX4_writeJournal rm_X4_writeJournal).room s m (([.ref A_x, .int p1] : List Value).toArray) below meth c H9e locs9e 0 0 Q (F0 m 78 ls []) := by
    intro z6 f7 f8 hq H9e locs9e hP hD hS ls hl
    subst hq
    have hm := g_sk_r hm
    have hm := g_k3_s hm
    refine lv_aload_n hx hb dX4_writeJournal_78 rfl (lv_at hl 0 rfl) ?_
    refine lv_bipush (v := 111) hx hb dX4_writeJournal_79 (by decide) ?_
    refine lv_iload_n hx hb dX4_writeJournal_81 rfl (lv_at hl 2 rfl) ?_
    obtain ⟨⟨x25, f26, f27⟩, ex, hm⟩ := g_bind hm
    have hm := g_k3_s hm
    have hPc := hP.sub (ws' := (wB A_x A_d A_mh A_jh A_ha A_da A_ma A_ja K_ha K_da K_ma K_ja c_ha f7 c_ma c_ja c_up f8)) [0, 1, 2, 3, 4, 5, 6, 7] rfl
    have hDc := hD.sub (ws' := (wB A_x A_d A_mh A_jh A_ha A_da A_ma A_ja K_ha K_da K_ma K_ja c_ha f7 c_ma c_ja c_up f8)) [0, 1, 2, 3, 4, 5, 6, 7] (by decide) rfl
    have hKc := hK.sub (tys' := (tB K_ha K_da K_ma K_ja)) [0, 1, 2, 3] rfl
    have hFc := va_free (wc := (wB A_x A_d A_mh A_jh A_ha A_da A_ma A_ja K_ha K_da K_ma K_ja c_ha f7 c_ma c_ja c_up f8)) hD hS hA [0, 1, 2, 3, 4, 5, 6, 7] rfl
    refine va_calli (va_runV (As := [.int (111 : Int32), .int z6]) (rest := []) ⟨hx, hb, hml, hown, hts⟩ (k_X4_writeCell l dC dI A_x A_d A_mh A_jh A_ha A_da A_ma A_ja K_ha K_da K_ma K_ja c_ha f7 c_ma c_ja c_up f8 H9e.size (111 : Int32) z6 _ _ _ ex) (cwV 2 hts gX4_writeJournal_X4_writeCell rfl rfl rfl (by decide +kernel) ⟨Nat.le_of_ble_eq_true rfl, Nat.le_of_ble_eq_true rfl⟩) ⟨w_blW, va_recv hKc hPc (ci := 2) (q0 := 0) rfl rfl, fun U hU hW => ⟨rfl, by rw [hU], by rw [hU]; exact hPc, va_K.moved hW.alike hKc, hDc.weaken (fun _ _ _ _ => trivial)⟩⟩ rfl rfl hl.1 rfl (lv_room (Nat.le_of_ble_eq_true rfl)) dX4_writeJournal_82 ⟨Nat.zero_le _, Nat.zero_le _⟩) hS (fun q _ h => hFc q h) hFc (fun _ _ t H28 locs28 ht hvm hw hB hz1 hk1 hS => ?_)
    subst hw
    refine W.widen (k := 0) (n := 0) (Nat.le_refl 0) (Nat.le_refl 0) ?_
    obtain ⟨hP1, hD1⟩ := hB
    rw [ht] at hP1
    obtain ⟨hP, hD⟩ := va_join (wr := []) (w1 := (wB A_x A_d A_mh A_jh A_ha A_da A_ma A_ja K_ha K_da K_ma K_ja c_ha f26 c_ma c_ja c_up f27)) hP hD [0, 1, 2, 3, 4, 5, 6, 7] [] rfl rfl (by decide) (by decide) hk1 hFc hP1 hD1
    have hP : va_P (dC, dI) vwCl (wB A_x A_d A_mh A_jh A_ha A_da A_ma A_ja K_ha K_da K_ma K_ja c_ha f26 c_ma c_ja c_up f27) H28 := hP.sub [0, 1, 2, 3, 4, 5, 6, 7] rfl
    have hD : va_D A (wB A_x A_d A_mh A_jh A_ha A_da A_ma A_ja K_ha K_da K_ma K_ja c_ha f26 c_ma c_ja c_up f27) := hD.sub [0, 1, 2, 3, 4, 5, 6, 7] (by decide) rfl
    refine lv_if_eq (tgt := 102) hx hb dX4_writeJournal_85 (by decide) (fun c29 => ?_) (fun c29 => ?_)
    · have hm := g_t c29 hm
      refine lv_iconst (v := 0) hx hb dX4_writeJournal_102 (by decide) ?_
      cases hm
      subst hQ
      exact W.zret hx hb hr rfl (fun t ht hW => ⟨⟨_, (), rfl, rfl, by rw [ht]; exact hP, hD⟩, hS.F ht⟩) hS.2.2 dX4_writeJournal_103
    · have hm := g_f c29 hm
      refine lv_aload_n hx hb dX4_writeJournal_88 rfl (lv_at hl 0 rfl) ?_
      refine lv_bipush (v := 110) hx hb dX4_writeJournal_89 (by decide) ?_
      refine lv_iload_n hx hb dX4_writeJournal_91 rfl (lv_at hl 1 rfl) ?_
      obtain ⟨⟨x30, f31, f32⟩, ex, hm⟩ := g_bind hm
      have hm := g_k3_s hm
      have hPc := hP.sub (ws' := (wB A_x A_d A_mh A_jh A_ha A_da A_ma A_ja K_ha K_da K_ma K_ja c_ha f26 c_ma c_ja c_up f27)) [0, 1, 2, 3, 4, 5, 6, 7] rfl
      have hDc := hD.sub (ws' := (wB A_x A_d A_mh A_jh A_ha A_da A_ma A_ja K_ha K_da K_ma K_ja c_ha f26 c_ma c_ja c_up f27)) [0, 1, 2, 3, 4, 5, 6, 7] (by decide) rfl
      have hKc := hK.sub (tys' := (tB K_ha K_da K_ma K_ja)) [0, 1, 2, 3] rfl
      have hFc := va_free (wc := (wB A_x A_d A_mh A_jh A_ha A_da A_ma A_ja K_ha K_da K_ma K_ja c_ha f26 c_ma c_ja c_up f27)) hD hS hA [0, 1, 2, 3, 4, 5, 6, 7] rfl
      refine va_calli (va_runV (As := [.int (110 : Int32), .int p1]) (rest := []) ⟨hx, hb, hml, hown, hts⟩ (k_X4_writeCell l dC dI A_x A_d A_mh A_jh A_ha A_da A_ma A_ja K_ha K_da K_ma K_ja c_ha f26 c_ma c_ja c_up f27 H28.size (110 : Int32) p1 _ _ _ ex) (cwV 2 hts gX4_writeJournal_X4_writeCell rfl rfl rfl (by decide +kernel) ⟨Nat.le_of_ble_eq_true rfl, Nat.le_of_ble_eq_true rfl⟩) ⟨w_blW, va_recv hKc hPc (ci := 2) (q0 := 0) rfl rfl, fun U hU hW => ⟨rfl, by rw [hU], by rw [hU]; exact hPc, va_K.moved hW.alike hKc, hDc.weaken (fun _ _ _ _ => trivial)⟩⟩ rfl rfl hl.1 rfl (lv_room (Nat.le_of_ble_eq_true rfl)) dX4_writeJournal_92 ⟨Nat.zero_le _, Nat.zero_le _⟩) hS (fun q _ h => hFc q h) hFc (fun _ _ t H33 locs33 ht hvm hw hB hz1 hk1 hS => ?_)
      subst hw
      refine W.widen (k := 0) (n := 0) (Nat.le_refl 0) (Nat.le_refl 0) ?_
      obtain ⟨hP1, hD1⟩ := hB
      rw [ht] at hP1
      obtain ⟨hP, hD⟩ := va_join (wr := []) (w1 := (wB A_x A_d A_mh A_jh A_ha A_da A_ma A_ja K_ha K_da K_ma K_ja c_ha f31 c_ma c_ja c_up f32)) hP hD [0, 1, 2, 3, 4, 5, 6, 7] [] rfl rfl (by decide) (by decide) hk1 hFc hP1 hD1
      have hP : va_P (dC, dI) vwCl (wB A_x A_d A_mh A_jh A_ha A_da A_ma A_ja K_ha K_da K_ma K_ja c_ha f31 c_ma c_ja c_up f32) H33 := hP.sub [0, 1, 2, 3, 4, 5, 6, 7] rfl
      have hD : va_D A (wB A_x A_d A_mh A_jh A_ha A_da A_ma A_ja K_ha K_da K_ma K_ja c_ha f31 c_ma c_ja c_up f32) := hD.sub [0, 1, 2, 3, 4, 5, 6, 7] (by decide) rfl
      refine lv_if_eq (tgt := 102) hx hb dX4_writeJournal_95 (by decide) (fun c34 => ?_) (fun c34 => ?_)
      · have hm := g_t c34 hm
        refine lv_iconst (v := 0) hx hb dX4_writeJournal_102 (by decide) ?_
        cases hm
        subst hQ
        exact W.zret hx hb hr rfl (fun t ht hW => ⟨⟨_, (), rfl, rfl, by rw [ht]; exact hP, hD⟩, hS.F ht⟩) hS.2.2 dX4_writeJournal_103
      · have hm := g_f c34 hm
        refine lv_iconst (v := 1) hx hb dX4_writeJournal_98 (by decide) ?_
        refine lv_goto (tgt := 103) hx hb dX4_writeJournal_99 (by decide) ?_
        cases hm
        subst hQ
        exact W.zret hx hb hr rfl (fun t ht hW => ⟨⟨_, (), rfl, rfl, by rw [ht]; exact hP, hD⟩, hS.F ht⟩) hS.2.2 dX4_writeJournal_103
  have hV9 : ∀ v, Sum.inl v = rl9 → v = (r0, o_da, o_fu) := by
    intro v hq
    subst hq
    have hm := g_sk_l hm
    exact Option.some.inj hm
  have hL9 : ∀ (n : Nat) (y1 : Int32) (y2 : Int32) (y3 : Int32) (f4 : (Nat → Int32)) (f5 : Int32), g_loop (fun q => m_X4_writeJournal_L8 c_ma q.1 q.2.1 q.2.2.1 q.2.2.2.1 q.2.2.2.2) n (y1, y2, y3, f4, f5) = some rl9 → ∀ (H9b : Heap) (locs9b : List Loc), va_P (dC, dI) vwCl (wB A_x A_d A_mh A_jh A_ha A_da A_ma A_ja K_ha K_da K_ma K_ja c_ha f4 c_ma c_ja c_up f5) H9b → va_D A (wB A_x A_d A_mh A_jh A_ha A_da A_ma A_ja K_ha K_da K_ma K_ja c_ha f4 c_ma c_ja c_up f5) → va_S A s.heap H9b locs9b → ∀ (ls : Array Slot), lv_has ls 6 [(0, .ref A_x), (1, .int p1), (2, .int y1), (3, .int y2), (4, .int y3)] → W p l e (headSpec wsX4_writeJournal rm_X4_writeJournal).room s m (([.ref A_x, .int p1] : List Value).toArray) below meth c H9b locs9b 0 0 Q (F0 m 8 ls []) := by
    intro n
    induction n with
    | zero =>
      intro y1 y2 y3 f4 f5 hm
      exact g_loop_z hm
    | succ n ih =>
      intro y1 y2 y3 f4 f5 hm H9b locs9b hP hD hS ls hl
      obtain ⟨q, hm, hy⟩ := g_loop_s hm
      have hm : m_X4_writeJournal_L8 c_ma y1 y2 y3 f4 f5 = some q := hm
      unfold m_X4_writeJournal_L8 at hm
      refine lv_iload hx hb dX4_writeJournal_8 (lv_at hl 4 rfl) ?_
      refine lv_bipush (v := 110) hx hb dX4_writeJournal_10 (by decide) ?_
      refine lv_icmp_ge (tgt := 78) hx hb dX4_writeJournal_12 (by decide) (fun c10 => ?_) (fun c10 => ?_)
      · have hm := g_t c10 hm
        cases hm
        exact hE9 _ _ _ hy _ _ hP hD hS _ (lv_sub hl [0, 1, 2] rfl)
      · have hm := g_f c10 hm
        refine lv_aload_n hx hb dX4_writeJournal_15 rfl (lv_at hl 0 rfl) ?_
        refine lv_iload hx hb dX4_writeJournal_16 (lv_at hl 4 rfl) ?_
        obtain ⟨x11, ex, hm⟩ := g_bind hm
        refine vp_callSi (W.runV (As := [.int y3]) (rest := []) ⟨hx, hb, hml, hown, hts⟩ (k_X4_isChanged l dC dI A_x A_d A_mh A_jh A_ha A_da A_ma A_ja K_ha K_da K_ma K_ja c_ha f4 c_ma c_ja c_up f5 y3 _ ex) (cwV 1 hts gX4_writeJournal_X4_isChanged rfl rfl rfl (by decide +kernel) ⟨Nat.le_of_ble_eq_true rfl, Nat.le_of_ble_eq_true rfl⟩) ⟨w_blR, va_recv hK hP (ci := 2) (q0 := 0) rfl rfl, fun U hU hW => ⟨rfl, by rw [hU]; exact hP.sub [0, 1, 2, 3, 4, 5, 6, 7] rfl, va_K.moved hW.alike (hK.sub [0, 1, 2, 3] rfl)⟩⟩ rfl rfl hl.1 rfl (lv_room (Nat.le_of_ble_eq_true rfl)) dX4_writeJournal_18 ⟨Nat.zero_le _, Nat.zero_le _⟩) (fun _ ey => ?_)
        subst ey
        refine lv_if_eq (tgt := 72) hx hb dX4_writeJournal_21 (by decide) (fun c12 => ?_) (fun c12 => ?_)
        · have hm := g_t c12 hm
          refine lv_iinc (v := (y3 + (1 : Int32))) (lv' := [(4, .int (y3 + (1 : Int32))), (0, .ref A_x), (1, .int p1), (2, .int y1), (3, .int y2)]) hx hb dX4_writeJournal_72 hl (k := 4) rfl rfl (by decide) rfl (fun ls hl => ?_)
          refine lv_goto (tgt := 8) hx hb dX4_writeJournal_75 (by decide) ?_
          cases hm
          exact ih _ _ _ _ _ hy _ _ hP hD hS _ (lv_sub hl [1, 2, 3, 4, 0] rfl)
        · have hm := g_f c12 hm
          refine lv_aload_n hx hb dX4_writeJournal_24 rfl (lv_at hl 0 rfl) ?_
          refine va_get (D := (dC, dI)) (ci := 2) (v := .ref A_mh) (C := RX4) (T := TX4) (N := 6) hx hb hts hi_X4_writeJournal_X4 hown hK hP 0 rfl rfl 1 (by decide) (hts (Cond.fieldLink RX4 19 "BuddyFiles" "memory" "LBuddyFiles$Home;") hk_X4_writeJournal_19) (fun _ h9 => h9) rfl dX4_writeJournal_25 ?_
          refine va_get (D := (dC, dI)) (ci := 1) (v := .ref A_ma) (C := RX2) (T := TX2) (N := 1) hx hb hts hi_X4_writeJournal_X2 hown hK hP 2 rfl rfl 0 (by decide) (hts (Cond.fieldLink RX4 141 "BuddyFiles$Home" "cells" "[I") hk_X4_writeJournal_141) (fun _ h9 => h9) rfl dX4_writeJournal_28 ?_
          refine lv_iload hx hb dX4_writeJournal_31 (lv_at hl 4 rfl) ?_
          obtain ⟨x13, ex, hm⟩ := g_bind hm
          refine w_ald hx hb hK hP 6 2 rfl rfl ex dX4_writeJournal_33 ?_
          refine lv_istore (lv' := [(5, .int x13), (0, .ref A_x), (1, .int p1), (2, .int y1), (3, .int y2), (4, .int y3)]) hx hb dX4_writeJournal_34 hl (by decide) rfl (fun ls hl => ?_)
          refine lv_aload_n hx hb dX4_writeJournal_36 rfl (lv_at hl 1 rfl) ?_
          refine lv_iload_n hx hb dX4_writeJournal_37 rfl (lv_at hl 4 rfl) ?_
          refine lv_iload hx hb dX4_writeJournal_38 (lv_at hl 5 rfl) ?_
          obtain ⟨⟨x14, f15, f16⟩, ex, hm⟩ := g_bind hm
          have hm := g_k3_s hm
          have hPc := hP.sub (ws' := (wB A_x A_d A_mh A_jh A_ha A_da A_ma A_ja K_ha K_da K_ma K_ja c_ha f4 c_ma c_ja c_up f5)) [0, 1, 2, 3, 4, 5, 6, 7] rfl
          have hDc := hD.sub (ws' := (wB A_x A_d A_mh A_jh A_ha A_da A_ma A_ja K_ha K_da K_ma K_ja c_ha f4 c_ma c_ja c_up f5)) [0, 1, 2, 3, 4, 5, 6, 7] (by decide) rfl
          have hKc := hK.sub (tys' := (tB K_ha K_da K_ma K_ja)) [0, 1, 2, 3] rfl
          have hFc := va_free (wc := (wB A_x A_d A_mh A_jh A_ha A_da A_ma A_ja K_ha K_da K_ma K_ja c_ha f4 c_ma c_ja c_up f5)) hD hS hA [0, 1, 2, 3, 4, 5, 6, 7] rfl
          refine va_calli (va_runV (As := [.int y2, .int y3]) (rest := []) ⟨hx, hb, hml, hown, hts⟩ (k_X4_writeCell l dC dI A_x A_d A_mh A_jh A_ha A_da A_ma A_ja K_ha K_da K_ma K_ja c_ha f4 c_ma c_ja c_up f5 H9b.size y2 y3 _ _ _ ex) (cwV 2 hts gX4_writeJournal_X4_writeCell rfl rfl rfl (by decide +kernel) ⟨Nat.le_of_ble_eq_true rfl, Nat.le_of_ble_eq_true rfl⟩) ⟨w_blW, va_recv hKc hPc (ci := 2) (q0 := 0) rfl rfl, fun U hU hW => ⟨rfl, by rw [hU], by rw [hU]; exact hPc, va_K.moved hW.alike hKc, hDc.weaken (fun _ _ _ _ => trivial)⟩⟩ rfl rfl hl.1 rfl (lv_room (Nat.le_of_ble_eq_true rfl)) dX4_writeJournal_40 ⟨Nat.zero_le _, Nat.zero_le _⟩) hS (fun q _ h => hFc q h) hFc (fun _ _ t H17 locs17 ht hvm hw hB hz1 hk1 hS => ?_)
          subst hw
          refine W.widen (k := 0) (n := 0) (Nat.le_refl 0) (Nat.le_refl 0) ?_
          obtain ⟨hP1, hD1⟩ := hB
          rw [ht] at hP1
          obtain ⟨hP, hD⟩ := va_join (wr := []) (w1 := (wB A_x A_d A_mh A_jh A_ha A_da A_ma A_ja K_ha K_da K_ma K_ja c_ha f15 c_ma c_ja c_up f16)) hP hD [0, 1, 2, 3, 4, 5, 6, 7] [] rfl rfl (by decide) (by decide) hk1 hFc hP1 hD1
          have hP : va_P (dC, dI) vwCl (wB A_x A_d A_mh A_jh A_ha A_da A_ma A_ja K_ha K_da K_ma K_ja c_ha f15 c_ma c_ja c_up f16) H17 := hP.sub [0, 1, 2, 3, 4, 5, 6, 7] rfl
          have hD : va_D A (wB A_x A_d A_mh A_jh A_ha A_da A_ma A_ja K_ha K_da K_ma K_ja c_ha f15 c_ma c_ja c_up f16) := hD.sub [0, 1, 2, 3, 4, 5, 6, 7] (by decide) rfl
          refine lv_if_eq (tgt := 58) hx hb dX4_writeJournal_43 (by decide) (fun c18 => ?_) (fun c18 => ?_)
          · have hm := g_t c18 hm
            refine lv_iconst (v := 0) hx hb dX4_writeJournal_58 (by decide) ?_
            cases hm
            have hq := hV9 _ hy
            cases hq
            subst hQ
            exact W.zret hx hb hr rfl (fun t ht hW => ⟨⟨_, (), rfl, rfl, by rw [ht]; exact hP, hD⟩, hS.F ht⟩) hS.2.2 dX4_writeJournal_59
          · have hm := g_f c18 hm
            refine lv_aload_n hx hb dX4_writeJournal_46 rfl (lv_at hl 1 rfl) ?_
            refine lv_iload_n hx hb dX4_writeJournal_47 rfl (lv_at hl 4 rfl) ?_
            refine lv_iconst (v := 1) hx hb dX4_writeJournal_48 (by decide) ?_
            refine lv_iadd hx hb dX4_writeJournal_49 ?_
            refine lv_iload hx hb dX4_writeJournal_50 (lv_at hl 0 rfl) ?_
            obtain ⟨⟨x19, f20, f21⟩, ex, hm⟩ := g_bind hm
            have hm := g_k3_s hm
            have hPc := hP.sub (ws' := (wB A_x A_d A_mh A_jh A_ha A_da A_ma A_ja K_ha K_da K_ma K_ja c_ha f15 c_ma c_ja c_up f16)) [0, 1, 2, 3, 4, 5, 6, 7] rfl
            have hDc := hD.sub (ws' := (wB A_x A_d A_mh A_jh A_ha A_da A_ma A_ja K_ha K_da K_ma K_ja c_ha f15 c_ma c_ja c_up f16)) [0, 1, 2, 3, 4, 5, 6, 7] (by decide) rfl
            have hKc := hK.sub (tys' := (tB K_ha K_da K_ma K_ja)) [0, 1, 2, 3] rfl
            have hFc := va_free (wc := (wB A_x A_d A_mh A_jh A_ha A_da A_ma A_ja K_ha K_da K_ma K_ja c_ha f15 c_ma c_ja c_up f16)) hD hS hA [0, 1, 2, 3, 4, 5, 6, 7] rfl
            refine va_calli (va_runV (As := [.int (y2 + (1 : Int32)), .int x13]) (rest := []) ⟨hx, hb, hml, hown, hts⟩ (k_X4_writeCell l dC dI A_x A_d A_mh A_jh A_ha A_da A_ma A_ja K_ha K_da K_ma K_ja c_ha f15 c_ma c_ja c_up f16 H17.size (y2 + (1 : Int32)) x13 _ _ _ ex) (cwV 2 hts gX4_writeJournal_X4_writeCell rfl rfl rfl (by decide +kernel) ⟨Nat.le_of_ble_eq_true rfl, Nat.le_of_ble_eq_true rfl⟩) ⟨w_blW, va_recv hKc hPc (ci := 2) (q0 := 0) rfl rfl, fun U hU hW => ⟨rfl, by rw [hU], by rw [hU]; exact hPc, va_K.moved hW.alike hKc, hDc.weaken (fun _ _ _ _ => trivial)⟩⟩ rfl rfl hl.1 rfl (lv_room (Nat.le_of_ble_eq_true rfl)) dX4_writeJournal_52 ⟨Nat.zero_le _, Nat.zero_le _⟩) hS (fun q _ h => hFc q h) hFc (fun _ _ t H22 locs22 ht hvm hw hB hz1 hk1 hS => ?_)
            subst hw
            refine W.widen (k := 0) (n := 0) (Nat.le_refl 0) (Nat.le_refl 0) ?_
            obtain ⟨hP1, hD1⟩ := hB
            rw [ht] at hP1
            obtain ⟨hP, hD⟩ := va_join (wr := []) (w1 := (wB A_x A_d A_mh A_jh A_ha A_da A_ma A_ja K_ha K_da K_ma K_ja c_ha f20 c_ma c_ja c_up f21)) hP hD [0, 1, 2, 3, 4, 5, 6, 7] [] rfl rfl (by decide) (by decide) hk1 hFc hP1 hD1
            have hP : va_P (dC, dI) vwCl (wB A_x A_d A_mh A_jh A_ha A_da A_ma A_ja K_ha K_da K_ma K_ja c_ha f20 c_ma c_ja c_up f21) H22 := hP.sub [0, 1, 2, 3, 4, 5, 6, 7] rfl
            have hD : va_D A (wB A_x A_d A_mh A_jh A_ha A_da A_ma A_ja K_ha K_da K_ma K_ja c_ha f20 c_ma c_ja c_up f21) := hD.sub [0, 1, 2, 3, 4, 5, 6, 7] (by decide) rfl
            refine lv_if_ne (tgt := 60) hx hb dX4_writeJournal_55 (by decide) (fun c23 => ?_) (fun c23 => ?_)
            · have hm := g_f c23 hm
              refine lv_iload_n hx hb dX4_writeJournal_60 rfl (lv_at hl 3 rfl) ?_
              refine lv_iload hx hb dX4_writeJournal_61 (lv_at hl 5 rfl) ?_
              refine lv_iload hx hb dX4_writeJournal_63 (lv_at hl 0 rfl) ?_
              obtain ⟨x24, ex, hm⟩ := g_bind hm
              refine vp_callSi (W.runS (As := [.int y1, .int y3, .int x13]) (rest := []) ⟨hx, hb, hml, hown, hts⟩ (k_X1_nextCheck l  y1 y3 x13 _ ex) (va_cwS 3 hts gX4_writeJournal_X1_nextCheck rfl rfl rfl (by decide +kernel) ⟨Nat.le_of_ble_eq_true rfl, Nat.le_of_ble_eq_true rfl⟩) ⟨w_bl0, fun U hU hW => ⟨rfl, trivial⟩⟩ rfl rfl hl.1 rfl (lv_room (Nat.le_of_ble_eq_true rfl)) dX4_writeJournal_65 ⟨Nat.zero_le _, Nat.zero_le _⟩) (fun _ ey => ?_)
              subst ey
              refine lv_istore_n (lv' := [(2, .int x24), (5, .int x13), (0, .ref A_x), (1, .int p1), (3, .int y2), (4, .int y3)]) hx hb dX4_writeJournal_68 rfl hl (by decide) rfl (fun ls hl => ?_)
              refine lv_iinc (v := (y2 + (2 : Int32))) (lv' := [(3, .int (y2 + (2 : Int32))), (2, .int x24), (5, .int x13), (0, .ref A_x), (1, .int p1), (4, .int y3)]) hx hb dX4_writeJournal_69 hl (k := 4) rfl rfl (by decide) rfl (fun ls hl => ?_)
              refine lv_iinc (v := (y3 + (1 : Int32))) (lv' := [(4, .int (y3 + (1 : Int32))), (3, .int (y2 + (2 : Int32))), (2, .int x24), (5, .int x13), (0, .ref A_x), (1, .int p1)]) hx hb dX4_writeJournal_72 hl (k := 5) rfl rfl (by decide) rfl (fun ls hl => ?_)
              refine lv_goto (tgt := 8) hx hb dX4_writeJournal_75 (by decide) ?_
              cases hm
              exact ih _ _ _ _ _ hy _ _ hP hD hS _ (lv_sub hl [4, 5, 2, 1, 0] rfl)
            · have hm := g_t c23 hm
              refine lv_iconst (v := 0) hx hb dX4_writeJournal_58 (by decide) ?_
              cases hm
              have hq := hV9 _ hy
              cases hq
              subst hQ
              exact W.zret hx hb hr rfl (fun t ht hW => ⟨⟨_, (), rfl, rfl, by rw [ht]; exact hP, hD⟩, hS.F ht⟩) hS.2.2 dX4_writeJournal_59
  exact hL9 _ _ _ _ _ _ hlp _ _ hP hD hS _ (lv_sub hl [3, 4, 2, 1, 0] rfl)
theorem hi_X4_writeHome_X4 : ∀ w ∈ wsX40, w ∈ wsX4_writeHome := by decide +kernel
theorem hk_X4_writeHome_19 : Cond.fieldLink RX4 19 "BuddyFiles" "memory" "LBuddyFiles$Home;" ∈ wsX4_writeHome := by decide +kernel
theorem hi_X4_writeHome_X2 : ∀ w ∈ wsX20, w ∈ wsX4_writeHome := by decide +kernel
theorem hk_X4_writeHome_141 : Cond.fieldLink RX4 141 "BuddyFiles$Home" "cells" "[I" ∈ wsX4_writeHome := by decide +kernel
abbrev rm_X4_writeHome : Room := { frames := 1, cells := 0, slots := 0, locals := 22 }
set_option maxHeartbeats 4000000 in
set_option maxRecDepth 100000 in
theorem k_X4_writeHome (l : Launch) (dC : Nat → ClassId) (dI : Nat → Nat → Nat) (A_x A_d A_mh A_jh A_ha A_da A_ma A_ja : Nat) (K_ha K_da K_ma K_ja : ClassId) (c_ha c_da c_ma c_ja : Nat → Int32) (c_up c_fu : Int32) (sz : Nat)  (r0 : Int32) (o_da : (Nat → Int32)) (o_fu : Int32) (hm : m_X4_writeHome c_da c_ma c_fu = some (r0, o_da, o_fu)) : Met l yX4_writeHome wsX4_writeHome rm_X4_writeHome (va_Pc [.ref A_x] (fun U => U.heap.size = sz ∧ va_P (dC, dI) vwCl (wB A_x A_d A_mh A_jh A_ha A_da A_ma A_ja K_ha K_da K_ma K_ja c_ha c_da c_ma c_ja c_up c_fu) U.heap ∧ va_K (dC, dI) vwCl (tB K_ha K_da K_ma K_ja) U ∧ va_D (fun _ => True) (wB A_x A_d A_mh A_jh A_ha A_da A_ma A_ja K_ha K_da K_ma K_ja c_ha c_da c_ma c_ja c_up c_fu))) (va_Qi (fun (r : Int32) (_ : Unit) => r0 = r) (fun _ t => va_P (dC, dI) vwCl (wB A_x A_d A_mh A_jh A_ha A_da A_ma A_ja K_ha K_da K_ma K_ja c_ha o_da c_ma c_ja c_up o_fu) t.heap ∧ va_D (va_A (wB A_x A_d A_mh A_jh A_ha A_da A_ma A_ja K_ha K_da K_ma K_ja c_ha c_da c_ma c_ja c_up c_fu) sz) (wB A_x A_d A_mh A_jh A_ha A_da A_ma A_ja K_ha K_da K_ma K_ja c_ha o_da c_ma c_ja c_up o_fu)) (va_A (wB A_x A_d A_mh A_jh A_ha A_da A_ma A_ja K_ha K_da K_ma K_ja c_ha c_da c_ma c_ja c_up c_fu) sz)) 0 0 (va_A (wB A_x A_d A_mh A_jh A_ha A_da A_ma A_ja K_ha K_da K_ma K_ja c_ha c_da c_ma c_ja c_up c_fu) sz) := by
  refine Met.ofW (cc := cX4_writeHome) (maxL := 2) (ret := (some .boolean)) (by decide) rfl ?_
  intro p e s m args below meth c s₁ B hml hv
  obtain ⟨rfl, hsz, hP, hK, hD0⟩ := hv
  have hx := B.exec
  have hb := B.bytes
  have hr := B.returns
  have hts := atoms_spec (ws := wsX4_writeHome) B.pre
  have hown : s.vm.findClass RX4 = some m.cls := findClass_of_methodNamed B.named
  have hlocks := B.notSynchronized
  subst hsz
  have hD := hD0.self (sz := s.heap.size)
  generalize hAe : va_A (wB A_x A_d A_mh A_jh A_ha A_da A_ma A_ja K_ha K_da K_ma K_ja c_ha c_da c_ma c_ja c_up c_fu) s.heap.size = A at hD ⊢
  have hA : ∀ q : Nat, s.heap.size ≤ q → A q := fun q h => by rw [← hAe]; exact Or.inr h
  have hS : va_S A s.heap s.heap [] := va_S.rf
  have hP : va_P (dC, dI) vwCl (wB A_x A_d A_mh A_jh A_ha A_da A_ma A_ja K_ha K_da K_ma K_ja c_ha c_da c_ma c_ja c_up c_fu) s.heap := hP
  have hl := lv_entry ([.ref A_x]) (n := 2) (Nat.le_of_ble_eq_true rfl)
  rw [lg_entry_eq]
  generalize (lg_sl ([.ref A_x]) ++ List.replicate (2 - (lg_sl ([.ref A_x])).length) Slot.unset).toArray = ls at hl ⊢
  have hl : lv_has ls 2 [(0, .ref A_x)] := hl
  refine w_name (fun Q hQ => ?_)
  unfold m_X4_writeHome at hm
  refine lv_iconst (v := 0) hx hb dX4_writeHome_0 (by decide) ?_
  refine lv_istore_n (lv' := [(1, .int (0 : Int32)), (0, .ref A_x)]) hx hb dX4_writeHome_1 rfl hl (by decide) rfl (fun ls hl => ?_)
  obtain ⟨rl6, hlp, hm⟩ := g_bind hm
  have hE6 : ∀ (f4 : (Nat → Int32)) (f5 : Int32), Sum.inr (f4, f5) = rl6 → ∀ (H6e : Heap) (locs6e : List Loc), va_P (dC, dI) vwCl (wB A_x A_d A_mh A_jh A_ha A_da A_ma A_ja K_ha K_da K_ma K_ja c_ha f4 c_ma c_ja c_up f5) H6e → va_D A (wB A_x A_d A_mh A_jh A_ha A_da A_ma A_ja K_ha K_da K_ma K_ja c_ha f4 c_ma c_ja c_up f5) → va_S A s.heap H6e locs6e → ∀ (ls : Array Slot), lv_has ls 2 [] → W p l e (headSpec wsX4_writeHome rm_X4_writeHome).room s m (([.ref A_x] : List Value).toArray) below meth c H6e locs6e 0 0 Q (F0 m 41 ls []) := by
    intro f4 f5 hq H6e locs6e hP hD hS ls hl
    subst hq
    have hm := g_sk_r hm
    have hm := g_k2_s hm
    refine lv_iconst (v := 1) hx hb dX4_writeHome_41 (by decide) ?_
    cases hm
    subst hQ
    exact W.zret hx hb hr rfl (fun t ht hW => ⟨⟨_, (), rfl, rfl, by rw [ht]; exact hP, hD⟩, hS.F ht⟩) hS.2.2 dX4_writeHome_42
  have hV6 : ∀ v, Sum.inl v = rl6 → v = (r0, o_da, o_fu) := by
    intro v hq
    subst hq
    have hm := g_sk_l hm
    exact Option.some.inj hm
  have hL6 : ∀ (n : Nat) (y1 : Int32) (f2 : (Nat → Int32)) (f3 : Int32), g_loop (fun q => m_X4_writeHome_L2 c_ma q.1 q.2.1 q.2.2) n (y1, f2, f3) = some rl6 → ∀ (H6b : Heap) (locs6b : List Loc), va_P (dC, dI) vwCl (wB A_x A_d A_mh A_jh A_ha A_da A_ma A_ja K_ha K_da K_ma K_ja c_ha f2 c_ma c_ja c_up f3) H6b → va_D A (wB A_x A_d A_mh A_jh A_ha A_da A_ma A_ja K_ha K_da K_ma K_ja c_ha f2 c_ma c_ja c_up f3) → va_S A s.heap H6b locs6b → ∀ (ls : Array Slot), lv_has ls 2 [(0, .ref A_x), (1, .int y1)] → W p l e (headSpec wsX4_writeHome rm_X4_writeHome).room s m (([.ref A_x] : List Value).toArray) below meth c H6b locs6b 0 0 Q (F0 m 2 ls []) := by
    intro n
    induction n with
    | zero =>
      intro y1 f2 f3 hm
      exact g_loop_z hm
    | succ n ih =>
      intro y1 f2 f3 hm H6b locs6b hP hD hS ls hl
      obtain ⟨q, hm, hy⟩ := g_loop_s hm
      have hm : m_X4_writeHome_L2 c_ma y1 f2 f3 = some q := hm
      unfold m_X4_writeHome_L2 at hm
      refine lv_iload_n hx hb dX4_writeHome_2 rfl (lv_at hl 1 rfl) ?_
      refine lv_bipush (v := 110) hx hb dX4_writeHome_3 (by decide) ?_
      refine lv_icmp_ge (tgt := 41) hx hb dX4_writeHome_5 (by decide) (fun c7 => ?_) (fun c7 => ?_)
      · have hm := g_t c7 hm
        cases hm
        exact hE6 _ _ hy _ _ hP hD hS _ (lv_sub hl [] rfl)
      · have hm := g_f c7 hm
        refine lv_aload_n hx hb dX4_writeHome_8 rfl (lv_at hl 0 rfl) ?_
        refine lv_iload_n hx hb dX4_writeHome_9 rfl (lv_at hl 1 rfl) ?_
        obtain ⟨x8, ex, hm⟩ := g_bind hm
        refine vp_callSi (W.runV (As := [.int y1]) (rest := []) ⟨hx, hb, hml, hown, hts⟩ (k_X4_isChanged l dC dI A_x A_d A_mh A_jh A_ha A_da A_ma A_ja K_ha K_da K_ma K_ja c_ha f2 c_ma c_ja c_up f3 y1 _ ex) (cwV 1 hts gX4_writeHome_X4_isChanged rfl rfl rfl (by decide +kernel) ⟨Nat.le_of_ble_eq_true rfl, Nat.le_of_ble_eq_true rfl⟩) ⟨w_blR, va_recv hK hP (ci := 2) (q0 := 0) rfl rfl, fun U hU hW => ⟨rfl, by rw [hU]; exact hP.sub [0, 1, 2, 3, 4, 5, 6, 7] rfl, va_K.moved hW.alike (hK.sub [0, 1, 2, 3] rfl)⟩⟩ rfl rfl hl.1 rfl (lv_room (Nat.le_of_ble_eq_true rfl)) dX4_writeHome_10 ⟨Nat.zero_le _, Nat.zero_le _⟩) (fun _ ey => ?_)
        subst ey
        refine lv_if_eq (tgt := 35) hx hb dX4_writeHome_13 (by decide) (fun c9 => ?_) (fun c9 => ?_)
        · have hm := g_t c9 hm
          refine lv_iinc (v := (y1 + (1 : Int32))) (lv' := [(1, .int (y1 + (1 : Int32))), (0, .ref A_x)]) hx hb dX4_writeHome_35 hl (k := 1) rfl rfl (by decide) rfl (fun ls hl => ?_)
          refine lv_goto (tgt := 2) hx hb dX4_writeHome_38 (by decide) ?_
          cases hm
          exact ih _ _ _ hy _ _ hP hD hS _ (lv_sub hl [1, 0] rfl)
        · have hm := g_f c9 hm
          refine lv_aload_n hx hb dX4_writeHome_16 rfl (lv_at hl 0 rfl) ?_
          refine lv_iload_n hx hb dX4_writeHome_17 rfl (lv_at hl 1 rfl) ?_
          refine lv_aload_n hx hb dX4_writeHome_18 rfl (lv_at hl 0 rfl) ?_
          refine va_get (D := (dC, dI)) (ci := 2) (v := .ref A_mh) (C := RX4) (T := TX4) (N := 6) hx hb hts hi_X4_writeHome_X4 hown hK hP 0 rfl rfl 1 (by decide) (hts (Cond.fieldLink RX4 19 "BuddyFiles" "memory" "LBuddyFiles$Home;") hk_X4_writeHome_19) (fun _ h9 => h9) rfl dX4_writeHome_19 ?_
          refine va_get (D := (dC, dI)) (ci := 1) (v := .ref A_ma) (C := RX2) (T := TX2) (N := 1) hx hb hts hi_X4_writeHome_X2 hown hK hP 2 rfl rfl 0 (by decide) (hts (Cond.fieldLink RX4 141 "BuddyFiles$Home" "cells" "[I") hk_X4_writeHome_141) (fun _ h9 => h9) rfl dX4_writeHome_22 ?_
          refine lv_iload_n hx hb dX4_writeHome_25 rfl (lv_at hl 1 rfl) ?_
          obtain ⟨x10, ex, hm⟩ := g_bind hm
          refine w_ald hx hb hK hP 6 2 rfl rfl ex dX4_writeHome_26 ?_
          obtain ⟨⟨x11, f12, f13⟩, ex, hm⟩ := g_bind hm
          have hm := g_k3_s hm
          have hPc := hP.sub (ws' := (wB A_x A_d A_mh A_jh A_ha A_da A_ma A_ja K_ha K_da K_ma K_ja c_ha f2 c_ma c_ja c_up f3)) [0, 1, 2, 3, 4, 5, 6, 7] rfl
          have hDc := hD.sub (ws' := (wB A_x A_d A_mh A_jh A_ha A_da A_ma A_ja K_ha K_da K_ma K_ja c_ha f2 c_ma c_ja c_up f3)) [0, 1, 2, 3, 4, 5, 6, 7] (by decide) rfl
          have hKc := hK.sub (tys' := (tB K_ha K_da K_ma K_ja)) [0, 1, 2, 3] rfl
          have hFc := va_free (wc := (wB A_x A_d A_mh A_jh A_ha A_da A_ma A_ja K_ha K_da K_ma K_ja c_ha f2 c_ma c_ja c_up f3)) hD hS hA [0, 1, 2, 3, 4, 5, 6, 7] rfl
          refine va_calli (va_runV (As := [.int y1, .int x10]) (rest := []) ⟨hx, hb, hml, hown, hts⟩ (k_X4_writeCell l dC dI A_x A_d A_mh A_jh A_ha A_da A_ma A_ja K_ha K_da K_ma K_ja c_ha f2 c_ma c_ja c_up f3 H6b.size y1 x10 _ _ _ ex) (cwV 2 hts gX4_writeHome_X4_writeCell rfl rfl rfl (by decide +kernel) ⟨Nat.le_of_ble_eq_true rfl, Nat.le_of_ble_eq_true rfl⟩) ⟨w_blW, va_recv hKc hPc (ci := 2) (q0 := 0) rfl rfl, fun U hU hW => ⟨rfl, by rw [hU], by rw [hU]; exact hPc, va_K.moved hW.alike hKc, hDc.weaken (fun _ _ _ _ => trivial)⟩⟩ rfl rfl hl.1 rfl (lv_room (Nat.le_of_ble_eq_true rfl)) dX4_writeHome_27 ⟨Nat.zero_le _, Nat.zero_le _⟩) hS (fun q _ h => hFc q h) hFc (fun _ _ t H14 locs14 ht hvm hw hB hz1 hk1 hS => ?_)
          subst hw
          refine W.widen (k := 0) (n := 0) (Nat.le_refl 0) (Nat.le_refl 0) ?_
          obtain ⟨hP1, hD1⟩ := hB
          rw [ht] at hP1
          obtain ⟨hP, hD⟩ := va_join (wr := []) (w1 := (wB A_x A_d A_mh A_jh A_ha A_da A_ma A_ja K_ha K_da K_ma K_ja c_ha f12 c_ma c_ja c_up f13)) hP hD [0, 1, 2, 3, 4, 5, 6, 7] [] rfl rfl (by decide) (by decide) hk1 hFc hP1 hD1
          have hP : va_P (dC, dI) vwCl (wB A_x A_d A_mh A_jh A_ha A_da A_ma A_ja K_ha K_da K_ma K_ja c_ha f12 c_ma c_ja c_up f13) H14 := hP.sub [0, 1, 2, 3, 4, 5, 6, 7] rfl
          have hD : va_D A (wB A_x A_d A_mh A_jh A_ha A_da A_ma A_ja K_ha K_da K_ma K_ja c_ha f12 c_ma c_ja c_up f13) := hD.sub [0, 1, 2, 3, 4, 5, 6, 7] (by decide) rfl
          refine lv_if_ne (tgt := 35) hx hb dX4_writeHome_30 (by decide) (fun c15 => ?_) (fun c15 => ?_)
          · have hm := g_f c15 hm
            refine lv_iinc (v := (y1 + (1 : Int32))) (lv' := [(1, .int (y1 + (1 : Int32))), (0, .ref A_x)]) hx hb dX4_writeHome_35 hl (k := 1) rfl rfl (by decide) rfl (fun ls hl => ?_)
            refine lv_goto (tgt := 2) hx hb dX4_writeHome_38 (by decide) ?_
            cases hm
            exact ih _ _ _ hy _ _ hP hD hS _ (lv_sub hl [1, 0] rfl)
          · have hm := g_t c15 hm
            refine lv_iconst (v := 0) hx hb dX4_writeHome_33 (by decide) ?_
            cases hm
            have hq := hV6 _ hy
            cases hq
            subst hQ
            exact W.zret hx hb hr rfl (fun t ht hW => ⟨⟨_, (), rfl, rfl, by rw [ht]; exact hP, hD⟩, hS.F ht⟩) hS.2.2 dX4_writeHome_34
  exact hL6 _ _ _ _ hlp _ _ hP hD hS _ (lv_sub hl [1, 0] rfl)
theorem hi_X4_sync_X4 : ∀ w ∈ wsX40, w ∈ wsX4_sync := by decide +kernel
theorem hk_X4_sync_33 : Cond.fieldLink RX4 33 "BuddyFiles" "up" "Z" ∈ wsX4_sync := by decide +kernel
abbrev rm_X4_sync : Room := { frames := 2, cells := 0, slots := 0, locals := 47 }
set_option maxHeartbeats 4000000 in
set_option maxRecDepth 100000 in
theorem k_X4_sync (l : Launch) (dC : Nat → ClassId) (dI : Nat → Nat → Nat) (A_x A_d A_mh A_jh A_ha A_da A_ma A_ja : Nat) (K_ha K_da K_ma K_ja : ClassId) (c_ha c_da c_ma c_ja : Nat → Int32) (c_up c_fu : Int32) (sz : Nat)  (r0 : Int32) (o_da : (Nat → Int32)) (o_up : Int32) (o_fu : Int32) (hm : m_X4_sync c_da c_ma c_up c_fu = some (r0, o_da, o_up, o_fu)) : Met l yX4_sync wsX4_sync rm_X4_sync (va_Pc [.ref A_x] (fun U => U.heap.size = sz ∧ va_P (dC, dI) vwCl (wB A_x A_d A_mh A_jh A_ha A_da A_ma A_ja K_ha K_da K_ma K_ja c_ha c_da c_ma c_ja c_up c_fu) U.heap ∧ va_K (dC, dI) vwCl (tB K_ha K_da K_ma K_ja) U ∧ va_D (fun _ => True) (wB A_x A_d A_mh A_jh A_ha A_da A_ma A_ja K_ha K_da K_ma K_ja c_ha c_da c_ma c_ja c_up c_fu))) (va_Qi (fun (r : Int32) (_ : Unit) => r0 = r) (fun _ t => va_P (dC, dI) vwCl (wB A_x A_d A_mh A_jh A_ha A_da A_ma A_ja K_ha K_da K_ma K_ja c_ha o_da c_ma c_ja o_up o_fu) t.heap ∧ va_D (va_A (wB A_x A_d A_mh A_jh A_ha A_da A_ma A_ja K_ha K_da K_ma K_ja c_ha c_da c_ma c_ja c_up c_fu) sz) (wB A_x A_d A_mh A_jh A_ha A_da A_ma A_ja K_ha K_da K_ma K_ja c_ha o_da c_ma c_ja o_up o_fu)) (va_A (wB A_x A_d A_mh A_jh A_ha A_da A_ma A_ja K_ha K_da K_ma K_ja c_ha c_da c_ma c_ja c_up c_fu) sz)) 0 0 (va_A (wB A_x A_d A_mh A_jh A_ha A_da A_ma A_ja K_ha K_da K_ma K_ja c_ha c_da c_ma c_ja c_up c_fu) sz) := by
  refine Met.ofW (cc := cX4_sync) (maxL := 2) (ret := (some .int)) (by decide) rfl ?_
  intro p e s m args below meth c s₁ B hml hv
  obtain ⟨rfl, hsz, hP, hK, hD0⟩ := hv
  have hx := B.exec
  have hb := B.bytes
  have hr := B.returns
  have hts := atoms_spec (ws := wsX4_sync) B.pre
  have hown : s.vm.findClass RX4 = some m.cls := findClass_of_methodNamed B.named
  have hlocks := B.notSynchronized
  subst hsz
  have hD := hD0.self (sz := s.heap.size)
  generalize hAe : va_A (wB A_x A_d A_mh A_jh A_ha A_da A_ma A_ja K_ha K_da K_ma K_ja c_ha c_da c_ma c_ja c_up c_fu) s.heap.size = A at hD ⊢
  have hA : ∀ q : Nat, s.heap.size ≤ q → A q := fun q h => by rw [← hAe]; exact Or.inr h
  have hS : va_S A s.heap s.heap [] := va_S.rf
  have hP : va_P (dC, dI) vwCl (wB A_x A_d A_mh A_jh A_ha A_da A_ma A_ja K_ha K_da K_ma K_ja c_ha c_da c_ma c_ja c_up c_fu) s.heap := hP
  have hl := lv_entry ([.ref A_x]) (n := 2) (Nat.le_of_ble_eq_true rfl)
  rw [lg_entry_eq]
  generalize (lg_sl ([.ref A_x]) ++ List.replicate (2 - (lg_sl ([.ref A_x])).length) Slot.unset).toArray = ls at hl ⊢
  have hl : lv_has ls 2 [(0, .ref A_x)] := hl
  refine w_name (fun Q hQ => ?_)
  unfold m_X4_sync at hm
  refine lv_aload_n hx hb dX4_sync_0 rfl (lv_at hl 0 rfl) ?_
  refine va_get (D := (dC, dI)) (ci := 2) (v := .int c_up) (C := RX4) (T := TX4) (N := 6) hx hb hts hi_X4_sync_X4 hown hK hP 0 rfl rfl 4 (by decide) (hts (Cond.fieldLink RX4 33 "BuddyFiles" "up" "Z") hk_X4_sync_33) (fun _ h9 => h9) rfl dX4_sync_1 ?_
  refine lv_if_ne (tgt := 10) hx hb dX4_sync_4 (by decide) (fun c1 => ?_) (fun c1 => ?_)
  · have hm := g_f c1 hm
    refine lv_aload_n hx hb dX4_sync_10 rfl (lv_at hl 0 rfl) ?_
    obtain ⟨x2, ex, hm⟩ := g_bind hm
    refine vp_callSi (W.runV (As := []) (rest := []) ⟨hx, hb, hml, hown, hts⟩ (k_X4_countChanges l dC dI A_x A_d A_mh A_jh A_ha A_da A_ma A_ja K_ha K_da K_ma K_ja c_ha c_da c_ma c_ja c_up c_fu  _ ex) (cwV 0 hts gX4_sync_X4_countChanges rfl rfl rfl (by decide +kernel) ⟨Nat.le_of_ble_eq_true rfl, Nat.le_of_ble_eq_true rfl⟩) ⟨w_blR, va_recv hK hP (ci := 2) (q0 := 0) rfl rfl, fun U hU hW => ⟨rfl, by rw [hU]; exact hP.sub [0, 1, 2, 3, 4, 5, 6, 7] rfl, va_K.moved hW.alike (hK.sub [0, 1, 2, 3] rfl)⟩⟩ rfl rfl hl.1 rfl (lv_room (Nat.le_of_ble_eq_true rfl)) dX4_sync_11 ⟨Nat.zero_le _, Nat.zero_le _⟩) (fun _ ey => ?_)
    subst ey
    refine lv_istore_n (lv' := [(1, .int x2), (0, .ref A_x)]) hx hb dX4_sync_14 rfl hl (by decide) rfl (fun ls hl => ?_)
    refine lv_iload_n hx hb dX4_sync_15 rfl (lv_at hl 0 rfl) ?_
    refine lv_if_ne (tgt := 21) hx hb dX4_sync_16 (by decide) (fun c3 => ?_) (fun c3 => ?_)
    · have hm := g_f c3 hm
      refine lv_aload_n hx hb dX4_sync_21 rfl (lv_at hl 1 rfl) ?_
      refine lv_iload_n hx hb dX4_sync_22 rfl (lv_at hl 0 rfl) ?_
      obtain ⟨⟨x4, f5, f6⟩, ex, hm⟩ := g_bind hm
      have hm := g_k3_s hm
      have hPc := hP.sub (ws' := (wB A_x A_d A_mh A_jh A_ha A_da A_ma A_ja K_ha K_da K_ma K_ja c_ha c_da c_ma c_ja c_up c_fu)) [0, 1, 2, 3, 4, 5, 6, 7] rfl
      have hDc := hD.sub (ws' := (wB A_x A_d A_mh A_jh A_ha A_da A_ma A_ja K_ha K_da K_ma K_ja c_ha c_da c_ma c_ja c_up c_fu)) [0, 1, 2, 3, 4, 5, 6, 7] (by decide) rfl
      have hKc := hK.sub (tys' := (tB K_ha K_da K_ma K_ja)) [0, 1, 2, 3] rfl
      have hFc := va_free (wc := (wB A_x A_d A_mh A_jh A_ha A_da A_ma A_ja K_ha K_da K_ma K_ja c_ha c_da c_ma c_ja c_up c_fu)) hD hS hA [0, 1, 2, 3, 4, 5, 6, 7] rfl
      refine va_calli (va_runV (As := [.int x2]) (rest := []) ⟨hx, hb, hml, hown, hts⟩ (k_X4_writeJournal l dC dI A_x A_d A_mh A_jh A_ha A_da A_ma A_ja K_ha K_da K_ma K_ja c_ha c_da c_ma c_ja c_up c_fu s.heap.size x2 _ _ _ ex) (cwV 1 hts gX4_sync_X4_writeJournal rfl rfl rfl (by decide +kernel) ⟨Nat.le_of_ble_eq_true rfl, Nat.le_of_ble_eq_true rfl⟩) ⟨w_blW, va_recv hKc hPc (ci := 2) (q0 := 0) rfl rfl, fun U hU hW => ⟨rfl, by rw [hU], by rw [hU]; exact hPc, va_K.moved hW.alike hKc, hDc.weaken (fun _ _ _ _ => trivial)⟩⟩ rfl rfl hl.1 rfl (lv_room (Nat.le_of_ble_eq_true rfl)) dX4_sync_23 ⟨Nat.zero_le _, Nat.zero_le _⟩) hS (fun q _ h => hFc q h) hFc (fun _ _ t H7 locs7 ht hvm hw hB hz1 hk1 hS => ?_)
      subst hw
      refine W.widen (k := 0) (n := 0) (Nat.le_refl 0) (Nat.le_refl 0) ?_
      obtain ⟨hP1, hD1⟩ := hB
      rw [ht] at hP1
      obtain ⟨hP, hD⟩ := va_join (wr := []) (w1 := (wB A_x A_d A_mh A_jh A_ha A_da A_ma A_ja K_ha K_da K_ma K_ja c_ha f5 c_ma c_ja c_up f6)) hP hD [0, 1, 2, 3, 4, 5, 6, 7] [] rfl rfl (by decide) (by decide) hk1 hFc hP1 hD1
      have hP : va_P (dC, dI) vwCl (wB A_x A_d A_mh A_jh A_ha A_da A_ma A_ja K_ha K_da K_ma K_ja c_ha f5 c_ma c_ja c_up f6) H7 := hP.sub [0, 1, 2, 3, 4, 5, 6, 7] rfl
      have hD : va_D A (wB A_x A_d A_mh A_jh A_ha A_da A_ma A_ja K_ha K_da K_ma K_ja c_ha f5 c_ma c_ja c_up f6) := hD.sub [0, 1, 2, 3, 4, 5, 6, 7] (by decide) rfl
      refine lv_if_eq (tgt := 48) hx hb dX4_sync_26 (by decide) (fun c8 => ?_) (fun c8 => ?_)
      · have hm := g_t c8 hm
        refine lv_aload_n hx hb dX4_sync_48 rfl (lv_at hl 1 rfl) ?_
        refine lv_iconst (v := 0) hx hb dX4_sync_49 (by decide) ?_
        refine va_put (D := (dC, dI)) (ci := 2) (v := .int (0 : Int32)) (ty := .boolean) (C := RX4) (T := TX4) (N := 6) hx hb hts hi_X4_sync_X4 tyX4 tyX4_ok nmX4 hown hK hP hD hS 0 rfl rfl 4 (by decide) (hts (Cond.fieldLink RX4 33 "BuddyFiles" "up" "Z") hk_X4_sync_33) (fun _ h9 => h9) rfl (by decide +kernel) rfl rfl (Nat.le_of_ble_eq_true rfl) dX4_sync_50 (fun H9 locs9 hP hD hS => ?_)
        have hP : va_P (dC, dI) vwCl (wB A_x A_d A_mh A_jh A_ha A_da A_ma A_ja K_ha K_da K_ma K_ja c_ha f5 c_ma c_ja (0 : Int32) f6) H9 := hP
        have hD : va_D A (wB A_x A_d A_mh A_jh A_ha A_da A_ma A_ja K_ha K_da K_ma K_ja c_ha f5 c_ma c_ja (0 : Int32) f6) := hD
        refine lv_bipush (v := -11) hx hb dX4_sync_53 (by decide) ?_
        cases hm
        subst hQ
        exact W.iret hx hb hr (fun t ht hW => ⟨⟨_, (), rfl, rfl, by rw [ht]; exact hP, hD⟩, hS.F ht⟩) hS.2.2 dX4_sync_55
      · have hm := g_f c8 hm
        refine lv_aload_n hx hb dX4_sync_29 rfl (lv_at hl 1 rfl) ?_
        obtain ⟨⟨x10, f11, f12⟩, ex, hm⟩ := g_bind hm
        have hm := g_k3_s hm
        have hPc := hP.sub (ws' := (wB A_x A_d A_mh A_jh A_ha A_da A_ma A_ja K_ha K_da K_ma K_ja c_ha f5 c_ma c_ja c_up f6)) [0, 1, 2, 3, 4, 5, 6, 7] rfl
        have hDc := hD.sub (ws' := (wB A_x A_d A_mh A_jh A_ha A_da A_ma A_ja K_ha K_da K_ma K_ja c_ha f5 c_ma c_ja c_up f6)) [0, 1, 2, 3, 4, 5, 6, 7] (by decide) rfl
        have hKc := hK.sub (tys' := (tB K_ha K_da K_ma K_ja)) [0, 1, 2, 3] rfl
        have hFc := va_free (wc := (wB A_x A_d A_mh A_jh A_ha A_da A_ma A_ja K_ha K_da K_ma K_ja c_ha f5 c_ma c_ja c_up f6)) hD hS hA [0, 1, 2, 3, 4, 5, 6, 7] rfl
        refine va_calli (va_runV (As := []) (rest := []) ⟨hx, hb, hml, hown, hts⟩ (k_X4_writeHome l dC dI A_x A_d A_mh A_jh A_ha A_da A_ma A_ja K_ha K_da K_ma K_ja c_ha f5 c_ma c_ja c_up f6 H7.size  _ _ _ ex) (cwV 0 hts gX4_sync_X4_writeHome rfl rfl rfl (by decide +kernel) ⟨Nat.le_of_ble_eq_true rfl, Nat.le_of_ble_eq_true rfl⟩) ⟨w_blW, va_recv hKc hPc (ci := 2) (q0 := 0) rfl rfl, fun U hU hW => ⟨rfl, by rw [hU], by rw [hU]; exact hPc, va_K.moved hW.alike hKc, hDc.weaken (fun _ _ _ _ => trivial)⟩⟩ rfl rfl hl.1 rfl (lv_room (Nat.le_of_ble_eq_true rfl)) dX4_sync_30 ⟨Nat.zero_le _, Nat.zero_le _⟩) hS (fun q _ h => hFc q h) hFc (fun _ _ t H13 locs13 ht hvm hw hB hz1 hk1 hS => ?_)
        subst hw
        refine W.widen (k := 0) (n := 0) (Nat.le_refl 0) (Nat.le_refl 0) ?_
        obtain ⟨hP1, hD1⟩ := hB
        rw [ht] at hP1
        obtain ⟨hP, hD⟩ := va_join (wr := []) (w1 := (wB A_x A_d A_mh A_jh A_ha A_da A_ma A_ja K_ha K_da K_ma K_ja c_ha f11 c_ma c_ja c_up f12)) hP hD [0, 1, 2, 3, 4, 5, 6, 7] [] rfl rfl (by decide) (by decide) hk1 hFc hP1 hD1
        have hP : va_P (dC, dI) vwCl (wB A_x A_d A_mh A_jh A_ha A_da A_ma A_ja K_ha K_da K_ma K_ja c_ha f11 c_ma c_ja c_up f12) H13 := hP.sub [0, 1, 2, 3, 4, 5, 6, 7] rfl
        have hD : va_D A (wB A_x A_d A_mh A_jh A_ha A_da A_ma A_ja K_ha K_da K_ma K_ja c_ha f11 c_ma c_ja c_up f12) := hD.sub [0, 1, 2, 3, 4, 5, 6, 7] (by decide) rfl
        refine lv_if_eq (tgt := 48) hx hb dX4_sync_33 (by decide) (fun c14 => ?_) (fun c14 => ?_)
        · have hm := g_t c14 hm
          refine lv_aload_n hx hb dX4_sync_48 rfl (lv_at hl 1 rfl) ?_
          refine lv_iconst (v := 0) hx hb dX4_sync_49 (by decide) ?_
          refine va_put (D := (dC, dI)) (ci := 2) (v := .int (0 : Int32)) (ty := .boolean) (C := RX4) (T := TX4) (N := 6) hx hb hts hi_X4_sync_X4 tyX4 tyX4_ok nmX4 hown hK hP hD hS 0 rfl rfl 4 (by decide) (hts (Cond.fieldLink RX4 33 "BuddyFiles" "up" "Z") hk_X4_sync_33) (fun _ h9 => h9) rfl (by decide +kernel) rfl rfl (Nat.le_of_ble_eq_true rfl) dX4_sync_50 (fun H15 locs15 hP hD hS => ?_)
          have hP : va_P (dC, dI) vwCl (wB A_x A_d A_mh A_jh A_ha A_da A_ma A_ja K_ha K_da K_ma K_ja c_ha f11 c_ma c_ja (0 : Int32) f12) H15 := hP
          have hD : va_D A (wB A_x A_d A_mh A_jh A_ha A_da A_ma A_ja K_ha K_da K_ma K_ja c_ha f11 c_ma c_ja (0 : Int32) f12) := hD
          refine lv_bipush (v := -11) hx hb dX4_sync_53 (by decide) ?_
          cases hm
          subst hQ
          exact W.iret hx hb hr (fun t ht hW => ⟨⟨_, (), rfl, rfl, by rw [ht]; exact hP, hD⟩, hS.F ht⟩) hS.2.2 dX4_sync_55
        · have hm := g_f c14 hm
          refine lv_aload_n hx hb dX4_sync_36 rfl (lv_at hl 1 rfl) ?_
          refine lv_bipush (v := 110) hx hb dX4_sync_37 (by decide) ?_
          refine lv_iconst (v := 0) hx hb dX4_sync_39 (by decide) ?_
          obtain ⟨⟨x16, f17, f18⟩, ex, hm⟩ := g_bind hm
          have hm := g_k3_s hm
          have hPc := hP.sub (ws' := (wB A_x A_d A_mh A_jh A_ha A_da A_ma A_ja K_ha K_da K_ma K_ja c_ha f11 c_ma c_ja c_up f12)) [0, 1, 2, 3, 4, 5, 6, 7] rfl
          have hDc := hD.sub (ws' := (wB A_x A_d A_mh A_jh A_ha A_da A_ma A_ja K_ha K_da K_ma K_ja c_ha f11 c_ma c_ja c_up f12)) [0, 1, 2, 3, 4, 5, 6, 7] (by decide) rfl
          have hKc := hK.sub (tys' := (tB K_ha K_da K_ma K_ja)) [0, 1, 2, 3] rfl
          have hFc := va_free (wc := (wB A_x A_d A_mh A_jh A_ha A_da A_ma A_ja K_ha K_da K_ma K_ja c_ha f11 c_ma c_ja c_up f12)) hD hS hA [0, 1, 2, 3, 4, 5, 6, 7] rfl
          refine va_calli (va_runV (As := [.int (110 : Int32), .int (0 : Int32)]) (rest := []) ⟨hx, hb, hml, hown, hts⟩ (k_X4_writeCell l dC dI A_x A_d A_mh A_jh A_ha A_da A_ma A_ja K_ha K_da K_ma K_ja c_ha f11 c_ma c_ja c_up f12 H13.size (110 : Int32) (0 : Int32) _ _ _ ex) (cwV 2 hts gX4_sync_X4_writeCell rfl rfl rfl (by decide +kernel) ⟨Nat.le_of_ble_eq_true rfl, Nat.le_of_ble_eq_true rfl⟩) ⟨w_blW, va_recv hKc hPc (ci := 2) (q0 := 0) rfl rfl, fun U hU hW => ⟨rfl, by rw [hU], by rw [hU]; exact hPc, va_K.moved hW.alike hKc, hDc.weaken (fun _ _ _ _ => trivial)⟩⟩ rfl rfl hl.1 rfl (lv_room (Nat.le_of_ble_eq_true rfl)) dX4_sync_40 ⟨Nat.zero_le _, Nat.zero_le _⟩) hS (fun q _ h => hFc q h) hFc (fun _ _ t H19 locs19 ht hvm hw hB hz1 hk1 hS => ?_)
          subst hw
          refine W.widen (k := 0) (n := 0) (Nat.le_refl 0) (Nat.le_refl 0) ?_
          obtain ⟨hP1, hD1⟩ := hB
          rw [ht] at hP1
          obtain ⟨hP, hD⟩ := va_join (wr := []) (w1 := (wB A_x A_d A_mh A_jh A_ha A_da A_ma A_ja K_ha K_da K_ma K_ja c_ha f17 c_ma c_ja c_up f18)) hP hD [0, 1, 2, 3, 4, 5, 6, 7] [] rfl rfl (by decide) (by decide) hk1 hFc hP1 hD1
          have hP : va_P (dC, dI) vwCl (wB A_x A_d A_mh A_jh A_ha A_da A_ma A_ja K_ha K_da K_ma K_ja c_ha f17 c_ma c_ja c_up f18) H19 := hP.sub [0, 1, 2, 3, 4, 5, 6, 7] rfl
          have hD : va_D A (wB A_x A_d A_mh A_jh A_ha A_da A_ma A_ja K_ha K_da K_ma K_ja c_ha f17 c_ma c_ja c_up f18) := hD.sub [0, 1, 2, 3, 4, 5, 6, 7] (by decide) rfl
          refine lv_if_eq (tgt := 48) hx hb dX4_sync_43 (by decide) (fun c20 => ?_) (fun c20 => ?_)
          · have hm := g_t c20 hm
            refine lv_aload_n hx hb dX4_sync_48 rfl (lv_at hl 1 rfl) ?_
            refine lv_iconst (v := 0) hx hb dX4_sync_49 (by decide) ?_
            refine va_put (D := (dC, dI)) (ci := 2) (v := .int (0 : Int32)) (ty := .boolean) (C := RX4) (T := TX4) (N := 6) hx hb hts hi_X4_sync_X4 tyX4 tyX4_ok nmX4 hown hK hP hD hS 0 rfl rfl 4 (by decide) (hts (Cond.fieldLink RX4 33 "BuddyFiles" "up" "Z") hk_X4_sync_33) (fun _ h9 => h9) rfl (by decide +kernel) rfl rfl (Nat.le_of_ble_eq_true rfl) dX4_sync_50 (fun H21 locs21 hP hD hS => ?_)
            have hP : va_P (dC, dI) vwCl (wB A_x A_d A_mh A_jh A_ha A_da A_ma A_ja K_ha K_da K_ma K_ja c_ha f17 c_ma c_ja (0 : Int32) f18) H21 := hP
            have hD : va_D A (wB A_x A_d A_mh A_jh A_ha A_da A_ma A_ja K_ha K_da K_ma K_ja c_ha f17 c_ma c_ja (0 : Int32) f18) := hD
            refine lv_bipush (v := -11) hx hb dX4_sync_53 (by decide) ?_
            cases hm
            subst hQ
            exact W.iret hx hb hr (fun t ht hW => ⟨⟨_, (), rfl, rfl, by rw [ht]; exact hP, hD⟩, hS.F ht⟩) hS.2.2 dX4_sync_55
          · have hm := g_f c20 hm
            refine lv_iload_n hx hb dX4_sync_46 rfl (lv_at hl 0 rfl) ?_
            cases hm
            subst hQ
            exact W.iret hx hb hr (fun t ht hW => ⟨⟨_, (), rfl, rfl, by rw [ht]; exact hP, hD⟩, hS.F ht⟩) hS.2.2 dX4_sync_47
    · have hm := g_t c3 hm
      refine lv_iconst (v := 0) hx hb dX4_sync_19 (by decide) ?_
      cases hm
      subst hQ
      exact W.iret hx hb hr (fun t ht hW => ⟨⟨_, (), rfl, rfl, by rw [ht]; exact hP, hD⟩, hS.F ht⟩) hS.2.2 dX4_sync_20
  · have hm := g_t c1 hm
    refine lv_bipush (v := -11) hx hb dX4_sync_7 (by decide) ?_
    cases hm
    subst hQ
    exact W.iret hx hb hr (fun t ht hW => ⟨⟨_, (), rfl, rfl, by rw [ht]; exact hP, hD⟩, hS.F ht⟩) hS.2.2 dX4_sync_9
theorem hi_X4_crashAfter_X4 : ∀ w ∈ wsX40, w ∈ wsX4_crashAfter := by decide +kernel
theorem hk_X4_crashAfter_33 : Cond.fieldLink RX4 33 "BuddyFiles" "up" "Z" ∈ wsX4_crashAfter := by decide +kernel
theorem hk_X4_crashAfter_115 : Cond.fieldLink RX4 115 "BuddyFiles" "fuse" "I" ∈ wsX4_crashAfter := by decide +kernel
abbrev rm_X4_crashAfter : Room := { frames := 0, cells := 0, slots := 0, locals := 0 }
set_option maxHeartbeats 4000000 in
set_option maxRecDepth 100000 in
theorem k_X4_crashAfter (l : Launch) (dC : Nat → ClassId) (dI : Nat → Nat → Nat) (A_x A_d A_mh A_jh A_ha A_da A_ma A_ja : Nat) (K_ha K_da K_ma K_ja : ClassId) (c_ha c_da c_ma c_ja : Nat → Int32) (c_up c_fu : Int32) (sz : Nat) (p1 : Int32) (r0 : Int32) (o_fu : Int32) (hm : m_X4_crashAfter c_up c_fu p1 = some (r0, o_fu)) : Met l yX4_crashAfter wsX4_crashAfter rm_X4_crashAfter (va_Pc [.ref A_x, .int p1] (fun U => U.heap.size = sz ∧ va_P (dC, dI) vwCl (wB A_x A_d A_mh A_jh A_ha A_da A_ma A_ja K_ha K_da K_ma K_ja c_ha c_da c_ma c_ja c_up c_fu) U.heap ∧ va_K (dC, dI) vwCl (tB K_ha K_da K_ma K_ja) U ∧ va_D (fun _ => True) (wB A_x A_d A_mh A_jh A_ha A_da A_ma A_ja K_ha K_da K_ma K_ja c_ha c_da c_ma c_ja c_up c_fu))) (va_Qi (fun (r : Int32) (_ : Unit) => r0 = r) (fun _ t => va_P (dC, dI) vwCl (wB A_x A_d A_mh A_jh A_ha A_da A_ma A_ja K_ha K_da K_ma K_ja c_ha c_da c_ma c_ja c_up o_fu) t.heap ∧ va_D (va_A (wB A_x A_d A_mh A_jh A_ha A_da A_ma A_ja K_ha K_da K_ma K_ja c_ha c_da c_ma c_ja c_up c_fu) sz) (wB A_x A_d A_mh A_jh A_ha A_da A_ma A_ja K_ha K_da K_ma K_ja c_ha c_da c_ma c_ja c_up o_fu)) (va_A (wB A_x A_d A_mh A_jh A_ha A_da A_ma A_ja K_ha K_da K_ma K_ja c_ha c_da c_ma c_ja c_up c_fu) sz)) 0 0 (va_A (wB A_x A_d A_mh A_jh A_ha A_da A_ma A_ja K_ha K_da K_ma K_ja c_ha c_da c_ma c_ja c_up c_fu) sz) := by
  refine Met.ofW (cc := cX4_crashAfter) (maxL := 2) (ret := (some .boolean)) (by decide) rfl ?_
  intro p e s m args below meth c s₁ B hml hv
  obtain ⟨rfl, hsz, hP, hK, hD0⟩ := hv
  have hx := B.exec
  have hb := B.bytes
  have hr := B.returns
  have hts := atoms_spec (ws := wsX4_crashAfter) B.pre
  have hown : s.vm.findClass RX4 = some m.cls := findClass_of_methodNamed B.named
  have hlocks := B.notSynchronized
  subst hsz
  have hD := hD0.self (sz := s.heap.size)
  generalize hAe : va_A (wB A_x A_d A_mh A_jh A_ha A_da A_ma A_ja K_ha K_da K_ma K_ja c_ha c_da c_ma c_ja c_up c_fu) s.heap.size = A at hD ⊢
  have hA : ∀ q : Nat, s.heap.size ≤ q → A q := fun q h => by rw [← hAe]; exact Or.inr h
  have hS : va_S A s.heap s.heap [] := va_S.rf
  have hP : va_P (dC, dI) vwCl (wB A_x A_d A_mh A_jh A_ha A_da A_ma A_ja K_ha K_da K_ma K_ja c_ha c_da c_ma c_ja c_up c_fu) s.heap := hP
  have hl := lv_entry ([.ref A_x, .int p1]) (n := 2) (Nat.le_of_ble_eq_true rfl)
  rw [lg_entry_eq]
  generalize (lg_sl ([.ref A_x, .int p1]) ++ List.replicate (2 - (lg_sl ([.ref A_x, .int p1])).length) Slot.unset).toArray = ls at hl ⊢
  have hl : lv_has ls 2 [(0, .ref A_x), (1, .int p1)] := hl
  refine w_name (fun Q hQ => ?_)
  unfold m_X4_crashAfter at hm
  refine lv_aload_n hx hb dX4_crashAfter_0 rfl (lv_at hl 0 rfl) ?_
  refine va_get (D := (dC, dI)) (ci := 2) (v := .int c_up) (C := RX4) (T := TX4) (N := 6) hx hb hts hi_X4_crashAfter_X4 hown hK hP 0 rfl rfl 4 (by decide) (hts (Cond.fieldLink RX4 33 "BuddyFiles" "up" "Z") hk_X4_crashAfter_33) (fun _ h9 => h9) rfl dX4_crashAfter_1 ?_
  refine lv_if_eq (tgt := 12) hx hb dX4_crashAfter_4 (by decide) (fun c1 => ?_) (fun c1 => ?_)
  · have hm := g_t c1 hm
    refine lv_iconst (v := 0) hx hb dX4_crashAfter_12 (by decide) ?_
    cases hm
    subst hQ
    exact W.zret hx hb hr rfl (fun t ht hW => ⟨⟨_, (), rfl, rfl, by rw [ht]; exact hP, hD⟩, hS.F ht⟩) hS.2.2 dX4_crashAfter_13
  · have hm := g_f c1 hm
    refine lv_iload_n hx hb dX4_crashAfter_7 rfl (lv_at hl 1 rfl) ?_
    refine lv_iconst (v := -1) hx hb dX4_crashAfter_8 (by decide) ?_
    refine lv_icmp_ge (tgt := 14) hx hb dX4_crashAfter_9 (by decide) (fun c2 => ?_) (fun c2 => ?_)
    · have hm := g_t c2 hm
      refine lv_aload_n hx hb dX4_crashAfter_14 rfl (lv_at hl 0 rfl) ?_
      refine lv_iload_n hx hb dX4_crashAfter_15 rfl (lv_at hl 1 rfl) ?_
      refine va_put (D := (dC, dI)) (ci := 2) (v := .int p1) (ty := .int) (C := RX4) (T := TX4) (N := 6) hx hb hts hi_X4_crashAfter_X4 tyX4 tyX4_ok nmX4 hown hK hP hD hS 0 rfl rfl 5 (by decide) (hts (Cond.fieldLink RX4 115 "BuddyFiles" "fuse" "I") hk_X4_crashAfter_115) (fun _ h9 => h9) rfl (by decide +kernel) rfl rfl (Nat.le_of_ble_eq_true rfl) dX4_crashAfter_16 (fun H3 locs3 hP hD hS => ?_)
      have hP : va_P (dC, dI) vwCl (wB A_x A_d A_mh A_jh A_ha A_da A_ma A_ja K_ha K_da K_ma K_ja c_ha c_da c_ma c_ja c_up p1) H3 := hP
      have hD : va_D A (wB A_x A_d A_mh A_jh A_ha A_da A_ma A_ja K_ha K_da K_ma K_ja c_ha c_da c_ma c_ja c_up p1) := hD
      refine lv_iconst (v := 1) hx hb dX4_crashAfter_19 (by decide) ?_
      cases hm
      subst hQ
      exact W.zret hx hb hr rfl (fun t ht hW => ⟨⟨_, (), rfl, rfl, by rw [ht]; exact hP, hD⟩, hS.F ht⟩) hS.2.2 dX4_crashAfter_20
    · have hm := g_f c2 hm
      refine lv_iconst (v := 0) hx hb dX4_crashAfter_12 (by decide) ?_
      cases hm
      subst hQ
      exact W.zret hx hb hr rfl (fun t ht hW => ⟨⟨_, (), rfl, rfl, by rw [ht]; exact hP, hD⟩, hS.F ht⟩) hS.2.2 dX4_crashAfter_13
theorem hi_X4_mount_X4 : ∀ w ∈ wsX40, w ∈ wsX4_mount := by decide +kernel
theorem hk_X4_mount_33 : Cond.fieldLink RX4 33 "BuddyFiles" "up" "Z" ∈ wsX4_mount := by decide +kernel
theorem hk_X4_mount_10 : Cond.fieldLink RX4 10 "BuddyFiles" "disk" "LBuddyFiles$Disk;" ∈ wsX4_mount := by decide +kernel
theorem hk_X4_mount_23 : Cond.fieldLink RX4 23 "BuddyFiles" "judged" "LBuddyFiles$Home;" ∈ wsX4_mount := by decide +kernel
theorem hi_X4_mount_X1 : ∀ w ∈ wsX10, w ∈ wsX4_mount := by decide +kernel
theorem hk_X4_mount_125 : Cond.fieldLink RX4 125 "BuddyFiles$Disk" "cells" "[I" ∈ wsX4_mount := by decide +kernel
theorem hk_X4_mount_19 : Cond.fieldLink RX4 19 "BuddyFiles" "memory" "LBuddyFiles$Home;" ∈ wsX4_mount := by decide +kernel
abbrev rm_X4_mount : Room := { frames := 6, cells := 0, slots := 0, locals := 135 }
set_option maxHeartbeats 4000000 in
set_option maxRecDepth 100000 in
theorem k_X4_mount (l : Launch) (dC : Nat → ClassId) (dI : Nat → Nat → Nat) (A_x A_d A_mh A_jh A_ha A_da A_ma A_ja : Nat) (K_ha K_da K_ma K_ja : ClassId) (c_ha c_da c_ma c_ja : Nat → Int32) (c_up c_fu : Int32) (sz : Nat)  (r0 : Int32) (o_ha : (Nat → Int32)) (o_da : (Nat → Int32)) (o_ma : (Nat → Int32)) (o_ja : (Nat → Int32)) (o_up : Int32) (o_fu : Int32) (hm : m_X4_mount c_ha c_da c_ma c_ja c_up c_fu = some (r0, o_ha, o_da, o_ma, o_ja, o_up, o_fu)) : Met l yX4_mount wsX4_mount rm_X4_mount (va_Pc [.ref A_x] (fun U => U.heap.size = sz ∧ va_P (dC, dI) vwCl (wB A_x A_d A_mh A_jh A_ha A_da A_ma A_ja K_ha K_da K_ma K_ja c_ha c_da c_ma c_ja c_up c_fu) U.heap ∧ va_K (dC, dI) vwCl (tB K_ha K_da K_ma K_ja) U ∧ va_D (fun _ => True) (wB A_x A_d A_mh A_jh A_ha A_da A_ma A_ja K_ha K_da K_ma K_ja c_ha c_da c_ma c_ja c_up c_fu))) (va_Qi (fun (r : Int32) (_ : Unit) => r0 = r) (fun _ t => va_P (dC, dI) vwCl (wB A_x A_d A_mh A_jh A_ha A_da A_ma A_ja K_ha K_da K_ma K_ja o_ha o_da o_ma o_ja o_up o_fu) t.heap ∧ va_D (va_A (wB A_x A_d A_mh A_jh A_ha A_da A_ma A_ja K_ha K_da K_ma K_ja c_ha c_da c_ma c_ja c_up c_fu) sz) (wB A_x A_d A_mh A_jh A_ha A_da A_ma A_ja K_ha K_da K_ma K_ja o_ha o_da o_ma o_ja o_up o_fu)) (va_A (wB A_x A_d A_mh A_jh A_ha A_da A_ma A_ja K_ha K_da K_ma K_ja c_ha c_da c_ma c_ja c_up c_fu) sz)) 0 0 (va_A (wB A_x A_d A_mh A_jh A_ha A_da A_ma A_ja K_ha K_da K_ma K_ja c_ha c_da c_ma c_ja c_up c_fu) sz) := by
  refine Met.ofW (cc := cX4_mount) (maxL := 1) (ret := (some .int)) (by decide) rfl ?_
  intro p e s m args below meth c s₁ B hml hv
  obtain ⟨rfl, hsz, hP, hK, hD0⟩ := hv
  have hx := B.exec
  have hb := B.bytes
  have hr := B.returns
  have hts := atoms_spec (ws := wsX4_mount) B.pre
  have hown : s.vm.findClass RX4 = some m.cls := findClass_of_methodNamed B.named
  have hlocks := B.notSynchronized
  subst hsz
  have hD := hD0.self (sz := s.heap.size)
  generalize hAe : va_A (wB A_x A_d A_mh A_jh A_ha A_da A_ma A_ja K_ha K_da K_ma K_ja c_ha c_da c_ma c_ja c_up c_fu) s.heap.size = A at hD ⊢
  have hA : ∀ q : Nat, s.heap.size ≤ q → A q := fun q h => by rw [← hAe]; exact Or.inr h
  have hS : va_S A s.heap s.heap [] := va_S.rf
  have hP : va_P (dC, dI) vwCl (wB A_x A_d A_mh A_jh A_ha A_da A_ma A_ja K_ha K_da K_ma K_ja c_ha c_da c_ma c_ja c_up c_fu) s.heap := hP
  have hl := lv_entry ([.ref A_x]) (n := 1) (Nat.le_of_ble_eq_true rfl)
  rw [lg_entry_eq]
  generalize (lg_sl ([.ref A_x]) ++ List.replicate (1 - (lg_sl ([.ref A_x])).length) Slot.unset).toArray = ls at hl ⊢
  have hl : lv_has ls 1 [(0, .ref A_x)] := hl
  refine w_name (fun Q hQ => ?_)
  unfold m_X4_mount at hm
  refine lv_aload_n hx hb dX4_mount_0 rfl (lv_at hl 0 rfl) ?_
  refine va_get (D := (dC, dI)) (ci := 2) (v := .int c_up) (C := RX4) (T := TX4) (N := 6) hx hb hts hi_X4_mount_X4 hown hK hP 0 rfl rfl 4 (by decide) (hts (Cond.fieldLink RX4 33 "BuddyFiles" "up" "Z") hk_X4_mount_33) (fun _ h9 => h9) rfl dX4_mount_1 ?_
  refine lv_if_eq (tgt := 10) hx hb dX4_mount_4 (by decide) (fun c1 => ?_) (fun c1 => ?_)
  · have hm := g_t c1 hm
    refine lv_aload_n hx hb dX4_mount_10 rfl (lv_at hl 0 rfl) ?_
    refine va_get (D := (dC, dI)) (ci := 2) (v := .ref A_d) (C := RX4) (T := TX4) (N := 6) hx hb hts hi_X4_mount_X4 hown hK hP 0 rfl rfl 0 (by decide) (hts (Cond.fieldLink RX4 10 "BuddyFiles" "disk" "LBuddyFiles$Disk;") hk_X4_mount_10) (fun _ h9 => h9) rfl dX4_mount_11 ?_
    obtain ⟨x2, ex, hm⟩ := g_bind hm
    refine vp_callSi (W.runV (As := []) (rest := []) ⟨hx, hb, hml, hown, hts⟩ (k_X1_journalHolds l dC dI A_d A_da K_da c_da  _ ex) (cwV 0 hts gX4_mount_X1_journalHolds rfl rfl rfl (by decide +kernel) ⟨Nat.le_of_ble_eq_true rfl, Nat.le_of_ble_eq_true rfl⟩) ⟨w_blR, va_recv hK hP (ci := 0) (q0 := 1) rfl rfl, fun U hU hW => ⟨rfl, by rw [hU]; exact hP.sub [1, 5] rfl, va_K.moved hW.alike (hK.sub [1] rfl)⟩⟩ rfl rfl hl.1 rfl (lv_room (Nat.le_of_ble_eq_true rfl)) dX4_mount_14 ⟨Nat.zero_le _, Nat.zero_le _⟩) (fun _ ey => ?_)
    subst ey
    obtain ⟨rj4, hreg, hm⟩ := g_bind hm
    have hJ4 : ∀ (f3 : (Nat → Int32)), f3 = rj4 → ∀ (H4 : Heap) (locs4 : List Loc), va_P (dC, dI) vwCl (wB A_x A_d A_mh A_jh A_ha A_da A_ma A_ja K_ha K_da K_ma K_ja c_ha f3 c_ma c_ja c_up c_fu) H4 → va_D A (wB A_x A_d A_mh A_jh A_ha A_da A_ma A_ja K_ha K_da K_ma K_ja c_ha f3 c_ma c_ja c_up c_fu) → va_S A s.heap H4 locs4 → ∀ (ls : Array Slot), lv_has ls 1 [(0, .ref A_x)] → W p l e (headSpec wsX4_mount rm_X4_mount).room s m (([.ref A_x] : List Value).toArray) below meth c H4 locs4 0 0 Q (F0 m 27 ls []) := by
      intro f3 hq H4 locs4 hP hD hS ls hl
      subst hq
      have hm := g_k1_s hm
      refine lv_aload_n hx hb dX4_mount_27 rfl (lv_at hl 0 rfl) ?_
      refine va_get (D := (dC, dI)) (ci := 2) (v := .ref A_jh) (C := RX4) (T := TX4) (N := 6) hx hb hts hi_X4_mount_X4 hown hK hP 0 rfl rfl 2 (by decide) (hts (Cond.fieldLink RX4 23 "BuddyFiles" "judged" "LBuddyFiles$Home;") hk_X4_mount_23) (fun _ h9 => h9) rfl dX4_mount_28 ?_
      refine lv_aload_n hx hb dX4_mount_31 rfl (lv_at hl 0 rfl) ?_
      refine va_get (D := (dC, dI)) (ci := 2) (v := .ref A_d) (C := RX4) (T := TX4) (N := 6) hx hb hts hi_X4_mount_X4 hown hK hP 0 rfl rfl 0 (by decide) (hts (Cond.fieldLink RX4 10 "BuddyFiles" "disk" "LBuddyFiles$Disk;") hk_X4_mount_10) (fun _ h9 => h9) rfl dX4_mount_32 ?_
      refine va_get (D := (dC, dI)) (ci := 0) (v := .ref A_da) (C := RX1) (T := TX1) (N := 1) hx hb hts hi_X4_mount_X1 hown hK hP 1 rfl rfl 0 (by decide) (hts (Cond.fieldLink RX4 125 "BuddyFiles$Disk" "cells" "[I") hk_X4_mount_125) (fun _ h9 => h9) rfl dX4_mount_35 ?_
      obtain ⟨f5, ex, hm⟩ := g_bind hm
      have hPc := hP.sub (ws' := (wHD A_jh A_ja A_da K_ja K_da c_ja f3)) [3, 7, 5] rfl
      have hDc := hD.sub (ws' := (wHD A_jh A_ja A_da K_ja K_da c_ja f3)) [3, 7, 5] (by decide) rfl
      have hKc := hK.sub (tys' := (tHD K_ja K_da)) [3, 1] rfl
      have hFc := va_free (wc := (wHD A_jh A_ja A_da K_ja K_da c_ja f3)) hD hS hA [3, 7, 5] rfl
      refine va_callv (va_runV (As := [.ref A_da]) (rest := []) ⟨hx, hb, hml, hown, hts⟩ (k_X2_copyFrom l dC dI A_jh A_ja A_da K_ja K_da c_ja f3 H4.size  _ ex) (cwV 1 hts gX4_mount_X2_copyFrom rfl rfl rfl (by decide +kernel) ⟨Nat.le_of_ble_eq_true rfl, Nat.le_of_ble_eq_true rfl⟩) ⟨w_blW, va_recv hKc hPc (ci := 1) (q0 := 0) rfl rfl, fun U hU hW => ⟨rfl, by rw [hU], by rw [hU]; exact hPc, va_K.moved hW.alike hKc, hDc.weaken (fun _ _ _ _ => trivial)⟩⟩ rfl rfl hl.1 rfl (lv_room (Nat.le_of_ble_eq_true rfl)) dX4_mount_38 ⟨Nat.zero_le _, Nat.zero_le _⟩) hS (fun q _ h => hFc q h) hFc (fun _ t H6 locs6 ht hvm hw hB hz1 hk1 hS => ?_)
      refine W.widen (k := 0) (n := 0) (Nat.le_refl 0) (Nat.le_refl 0) ?_
      obtain ⟨hP1, hD1⟩ := hB
      rw [ht] at hP1
      obtain ⟨hP, hD⟩ := va_join (wr := [(A_x, .inr (2, [.ref A_d, .ref A_mh, .ref A_jh, .ref A_ha, .int c_up, .int c_fu])), (A_d, .inr (0, [.ref A_da])), (A_mh, .inr (1, [.ref A_ma])), (A_ha, .inl (K_ha, 4, .inl c_ha)), (A_ma, .inl (K_ma, 110, .inl c_ma))]) (w1 := (wHD A_jh A_ja A_da K_ja K_da f5 f3)) hP hD [3, 7, 5] [0, 1, 2, 4, 6] rfl rfl (by decide) (by decide) hk1 hFc hP1 hD1
      have hP : va_P (dC, dI) vwCl (wB A_x A_d A_mh A_jh A_ha A_da A_ma A_ja K_ha K_da K_ma K_ja c_ha f3 c_ma f5 c_up c_fu) H6 := hP.sub [0, 1, 2, 5, 3, 7, 4, 6] rfl
      have hD : va_D A (wB A_x A_d A_mh A_jh A_ha A_da A_ma A_ja K_ha K_da K_ma K_ja c_ha f3 c_ma f5 c_up c_fu) := hD.sub [0, 1, 2, 5, 3, 7, 4, 6] (by decide) rfl
      refine lv_aload_n hx hb dX4_mount_41 rfl (lv_at hl 0 rfl) ?_
      refine va_get (D := (dC, dI)) (ci := 2) (v := .ref A_jh) (C := RX4) (T := TX4) (N := 6) hx hb hts hi_X4_mount_X4 hown hK hP 0 rfl rfl 2 (by decide) (hts (Cond.fieldLink RX4 23 "BuddyFiles" "judged" "LBuddyFiles$Home;") hk_X4_mount_23) (fun _ h9 => h9) rfl dX4_mount_42 ?_
      obtain ⟨x7, ex, hm⟩ := g_bind hm
      refine vp_callSi (W.runS (As := [.ref A_jh]) (rest := []) ⟨hx, hb, hml, hown, hts⟩ (k_X0_leastBroken l dC dI A_jh A_ja K_ja f5  _ ex) (va_cwS 1 hts gX4_mount_X0_leastBroken rfl rfl rfl (by decide +kernel) ⟨Nat.le_of_ble_eq_true rfl, Nat.le_of_ble_eq_true rfl⟩) ⟨w_blR, fun U hU hW => ⟨rfl, by rw [hU]; exact hP.sub [3, 7] rfl, va_K.moved hW.alike (hK.sub [3] rfl)⟩⟩ rfl rfl hl.1 rfl (lv_room (Nat.le_of_ble_eq_true rfl)) dX4_mount_45 ⟨Nat.zero_le _, Nat.zero_le _⟩) (fun _ ey => ?_)
      subst ey
      refine lv_if_eq (tgt := 54) hx hb dX4_mount_48 (by decide) (fun c8 => ?_) (fun c8 => ?_)
      · have hm := g_t c8 hm
        refine lv_aload_n hx hb dX4_mount_54 rfl (lv_at hl 0 rfl) ?_
        refine va_get (D := (dC, dI)) (ci := 2) (v := .ref A_mh) (C := RX4) (T := TX4) (N := 6) hx hb hts hi_X4_mount_X4 hown hK hP 0 rfl rfl 1 (by decide) (hts (Cond.fieldLink RX4 19 "BuddyFiles" "memory" "LBuddyFiles$Home;") hk_X4_mount_19) (fun _ h9 => h9) rfl dX4_mount_55 ?_
        refine lv_aload_n hx hb dX4_mount_58 rfl (lv_at hl 0 rfl) ?_
        refine va_get (D := (dC, dI)) (ci := 2) (v := .ref A_d) (C := RX4) (T := TX4) (N := 6) hx hb hts hi_X4_mount_X4 hown hK hP 0 rfl rfl 0 (by decide) (hts (Cond.fieldLink RX4 10 "BuddyFiles" "disk" "LBuddyFiles$Disk;") hk_X4_mount_10) (fun _ h9 => h9) rfl dX4_mount_59 ?_
        refine va_get (D := (dC, dI)) (ci := 0) (v := .ref A_da) (C := RX1) (T := TX1) (N := 1) hx hb hts hi_X4_mount_X1 hown hK hP 1 rfl rfl 0 (by decide) (hts (Cond.fieldLink RX4 125 "BuddyFiles$Disk" "cells" "[I") hk_X4_mount_125) (fun _ h9 => h9) rfl dX4_mount_62 ?_
        obtain ⟨f9, ex, hm⟩ := g_bind hm
        have hPc := hP.sub (ws' := (wHD A_mh A_ma A_da K_ma K_da c_ma f3)) [2, 6, 5] rfl
        have hDc := hD.sub (ws' := (wHD A_mh A_ma A_da K_ma K_da c_ma f3)) [2, 6, 5] (by decide) rfl
        have hKc := hK.sub (tys' := (tHD K_ma K_da)) [2, 1] rfl
        have hFc := va_free (wc := (wHD A_mh A_ma A_da K_ma K_da c_ma f3)) hD hS hA [2, 6, 5] rfl
        refine va_callv (va_runV (As := [.ref A_da]) (rest := []) ⟨hx, hb, hml, hown, hts⟩ (k_X2_copyFrom l dC dI A_mh A_ma A_da K_ma K_da c_ma f3 H6.size  _ ex) (cwV 1 hts gX4_mount_X2_copyFrom rfl rfl rfl (by decide +kernel) ⟨Nat.le_of_ble_eq_true rfl, Nat.le_of_ble_eq_true rfl⟩) ⟨w_blW, va_recv hKc hPc (ci := 1) (q0 := 0) rfl rfl, fun U hU hW => ⟨rfl, by rw [hU], by rw [hU]; exact hPc, va_K.moved hW.alike hKc, hDc.weaken (fun _ _ _ _ => trivial)⟩⟩ rfl rfl hl.1 rfl (lv_room (Nat.le_of_ble_eq_true rfl)) dX4_mount_65 ⟨Nat.zero_le _, Nat.zero_le _⟩) hS (fun q _ h => hFc q h) hFc (fun _ t H10 locs10 ht hvm hw hB hz1 hk1 hS => ?_)
        refine W.widen (k := 0) (n := 0) (Nat.le_refl 0) (Nat.le_refl 0) ?_
        obtain ⟨hP1, hD1⟩ := hB
        rw [ht] at hP1
        obtain ⟨hP, hD⟩ := va_join (wr := [(A_x, .inr (2, [.ref A_d, .ref A_mh, .ref A_jh, .ref A_ha, .int c_up, .int c_fu])), (A_d, .inr (0, [.ref A_da])), (A_jh, .inr (1, [.ref A_ja])), (A_ha, .inl (K_ha, 4, .inl c_ha)), (A_ja, .inl (K_ja, 110, .inl f5))]) (w1 := (wHD A_mh A_ma A_da K_ma K_da f9 f3)) hP hD [2, 6, 5] [0, 1, 3, 4, 7] rfl rfl (by decide) (by decide) hk1 hFc hP1 hD1
        have hP : va_P (dC, dI) vwCl (wB A_x A_d A_mh A_jh A_ha A_da A_ma A_ja K_ha K_da K_ma K_ja c_ha f3 f9 f5 c_up c_fu) H10 := hP.sub [0, 1, 5, 2, 3, 7, 6, 4] rfl
        have hD : va_D A (wB A_x A_d A_mh A_jh A_ha A_da A_ma A_ja K_ha K_da K_ma K_ja c_ha f3 f9 f5 c_up c_fu) := hD.sub [0, 1, 5, 2, 3, 7, 6, 4] (by decide) rfl
        refine lv_aload_n hx hb dX4_mount_68 rfl (lv_at hl 0 rfl) ?_
        obtain ⟨⟨f11, f12, f13⟩, ex, hm⟩ := g_bind hm
        have hm := g_k3_s hm
        have hPc := hP.sub (ws' := (wB A_x A_d A_mh A_jh A_ha A_da A_ma A_ja K_ha K_da K_ma K_ja c_ha f3 f9 f5 c_up c_fu)) [0, 1, 2, 3, 4, 5, 6, 7] rfl
        have hDc := hD.sub (ws' := (wB A_x A_d A_mh A_jh A_ha A_da A_ma A_ja K_ha K_da K_ma K_ja c_ha f3 f9 f5 c_up c_fu)) [0, 1, 2, 3, 4, 5, 6, 7] (by decide) rfl
        have hKc := hK.sub (tys' := (tB K_ha K_da K_ma K_ja)) [0, 1, 2, 3] rfl
        have hFc := va_free (wc := (wB A_x A_d A_mh A_jh A_ha A_da A_ma A_ja K_ha K_da K_ma K_ja c_ha f3 f9 f5 c_up c_fu)) hD hS hA [0, 1, 2, 3, 4, 5, 6, 7] rfl
        refine va_callv (va_runV (As := []) (rest := []) ⟨hx, hb, hml, hown, hts⟩ (k_X4_goUp l dC dI A_x A_d A_mh A_jh A_ha A_da A_ma A_ja K_ha K_da K_ma K_ja c_ha f3 f9 f5 c_up c_fu H10.size  _ _ _ ex) (cwV 0 hts gX4_mount_X4_goUp rfl rfl rfl (by decide +kernel) ⟨Nat.le_of_ble_eq_true rfl, Nat.le_of_ble_eq_true rfl⟩) ⟨w_blW, va_recv hKc hPc (ci := 2) (q0 := 0) rfl rfl, fun U hU hW => ⟨rfl, by rw [hU], by rw [hU]; exact hPc, va_K.moved hW.alike hKc, hDc.weaken (fun _ _ _ _ => trivial)⟩⟩ rfl rfl hl.1 rfl (lv_room (Nat.le_of_ble_eq_true rfl)) dX4_mount_69 ⟨Nat.zero_le _, Nat.zero_le _⟩) hS (fun q _ h => hFc q h) hFc (fun _ t H14 locs14 ht hvm hw hB hz1 hk1 hS => ?_)
        refine W.widen (k := 0) (n := 0) (Nat.le_refl 0) (Nat.le_refl 0) ?_
        obtain ⟨hP1, hD1⟩ := hB
        rw [ht] at hP1
        obtain ⟨hP, hD⟩ := va_join (wr := []) (w1 := (wB A_x A_d A_mh A_jh A_ha A_da A_ma A_ja K_ha K_da K_ma K_ja f11 f3 f9 f5 f12 f13)) hP hD [0, 1, 2, 3, 4, 5, 6, 7] [] rfl rfl (by decide) (by decide) hk1 hFc hP1 hD1
        have hP : va_P (dC, dI) vwCl (wB A_x A_d A_mh A_jh A_ha A_da A_ma A_ja K_ha K_da K_ma K_ja f11 f3 f9 f5 f12 f13) H14 := hP.sub [0, 1, 2, 3, 4, 5, 6, 7] rfl
        have hD : va_D A (wB A_x A_d A_mh A_jh A_ha A_da A_ma A_ja K_ha K_da K_ma K_ja f11 f3 f9 f5 f12 f13) := hD.sub [0, 1, 2, 3, 4, 5, 6, 7] (by decide) rfl
        refine lv_iconst (v := 0) hx hb dX4_mount_72 (by decide) ?_
        cases hm
        subst hQ
        exact W.iret hx hb hr (fun t ht hW => ⟨⟨_, (), rfl, rfl, by rw [ht]; exact hP, hD⟩, hS.F ht⟩) hS.2.2 dX4_mount_73
      · have hm := g_f c8 hm
        refine lv_bipush (v := -13) hx hb dX4_mount_51 (by decide) ?_
        cases hm
        subst hQ
        exact W.iret hx hb hr (fun t ht hW => ⟨⟨_, (), rfl, rfl, by rw [ht]; exact hP, hD⟩, hS.F ht⟩) hS.2.2 dX4_mount_53
    have hm := hreg
    refine lv_if_eq (tgt := 27) hx hb dX4_mount_17 (by decide) (fun c15 => ?_) (fun c15 => ?_)
    · have hm := g_t c15 hm
      exact hJ4 _ (Option.some.inj hm) _ _ hP hD hS _ (lv_sub hl [0] rfl)
    · have hm := g_f c15 hm
      refine lv_aload_n hx hb dX4_mount_20 rfl (lv_at hl 0 rfl) ?_
      refine va_get (D := (dC, dI)) (ci := 2) (v := .ref A_d) (C := RX4) (T := TX4) (N := 6) hx hb hts hi_X4_mount_X4 hown hK hP 0 rfl rfl 0 (by decide) (hts (Cond.fieldLink RX4 10 "BuddyFiles" "disk" "LBuddyFiles$Disk;") hk_X4_mount_10) (fun _ h9 => h9) rfl dX4_mount_21 ?_
      obtain ⟨f16, ex, hm⟩ := g_bind hm
      have hPc := hP.sub (ws' := (wD A_d A_da K_da c_da)) [1, 5] rfl
      have hDc := hD.sub (ws' := (wD A_d A_da K_da c_da)) [1, 5] (by decide) rfl
      have hKc := hK.sub (tys' := (tD K_da)) [1] rfl
      have hFc := va_free (wc := (wD A_d A_da K_da c_da)) hD hS hA [1, 5] rfl
      refine va_callv (va_runV (As := []) (rest := []) ⟨hx, hb, hml, hown, hts⟩ (k_X1_replayJournal l dC dI A_d A_da K_da c_da s.heap.size  _ ex) (cwV 0 hts gX4_mount_X1_replayJournal rfl rfl rfl (by decide +kernel) ⟨Nat.le_of_ble_eq_true rfl, Nat.le_of_ble_eq_true rfl⟩) ⟨w_blW, va_recv hKc hPc (ci := 0) (q0 := 0) rfl rfl, fun U hU hW => ⟨rfl, by rw [hU], by rw [hU]; exact hPc, va_K.moved hW.alike hKc, hDc.weaken (fun _ _ _ _ => trivial)⟩⟩ rfl rfl hl.1 rfl (lv_room (Nat.le_of_ble_eq_true rfl)) dX4_mount_24 ⟨Nat.zero_le _, Nat.zero_le _⟩) hS (fun q _ h => hFc q h) hFc (fun _ t H17 locs17 ht hvm hw hB hz1 hk1 hS => ?_)
      refine W.widen (k := 0) (n := 0) (Nat.le_refl 0) (Nat.le_refl 0) ?_
      obtain ⟨hP1, hD1⟩ := hB
      rw [ht] at hP1
      obtain ⟨hP, hD⟩ := va_join (wr := [(A_x, .inr (2, [.ref A_d, .ref A_mh, .ref A_jh, .ref A_ha, .int c_up, .int c_fu])), (A_mh, .inr (1, [.ref A_ma])), (A_jh, .inr (1, [.ref A_ja])), (A_ha, .inl (K_ha, 4, .inl c_ha)), (A_ma, .inl (K_ma, 110, .inl c_ma)), (A_ja, .inl (K_ja, 110, .inl c_ja))]) (w1 := (wD A_d A_da K_da f16)) hP hD [1, 5] [0, 2, 3, 4, 6, 7] rfl rfl (by decide) (by decide) hk1 hFc hP1 hD1
      have hP : va_P (dC, dI) vwCl (wB A_x A_d A_mh A_jh A_ha A_da A_ma A_ja K_ha K_da K_ma K_ja c_ha f16 c_ma c_ja c_up c_fu) H17 := hP.sub [0, 6, 1, 2, 3, 7, 4, 5] rfl
      have hD : va_D A (wB A_x A_d A_mh A_jh A_ha A_da A_ma A_ja K_ha K_da K_ma K_ja c_ha f16 c_ma c_ja c_up c_fu) := hD.sub [0, 6, 1, 2, 3, 7, 4, 5] (by decide) rfl
      exact hJ4 _ (Option.some.inj hm) _ _ hP hD hS _ (lv_sub hl [0] rfl)
  · have hm := g_f c1 hm
    refine lv_bipush (v := -4) hx hb dX4_mount_7 (by decide) ?_
    cases hm
    subst hQ
    exact W.iret hx hb hr (fun t ht hW => ⟨⟨_, (), rfl, rfl, by rw [ht]; exact hP, hD⟩, hS.F ht⟩) hS.2.2 dX4_mount_9
theorem hi_X4_corrupt_X4 : ∀ w ∈ wsX40, w ∈ wsX4_corrupt := by decide +kernel
theorem hk_X4_corrupt_33 : Cond.fieldLink RX4 33 "BuddyFiles" "up" "Z" ∈ wsX4_corrupt := by decide +kernel
theorem hk_X4_corrupt_10 : Cond.fieldLink RX4 10 "BuddyFiles" "disk" "LBuddyFiles$Disk;" ∈ wsX4_corrupt := by decide +kernel
theorem hi_X4_corrupt_X1 : ∀ w ∈ wsX10, w ∈ wsX4_corrupt := by decide +kernel
theorem hk_X4_corrupt_125 : Cond.fieldLink RX4 125 "BuddyFiles$Disk" "cells" "[I" ∈ wsX4_corrupt := by decide +kernel
abbrev rm_X4_corrupt : Room := { frames := 0, cells := 0, slots := 0, locals := 0 }
set_option maxHeartbeats 4000000 in
set_option maxRecDepth 100000 in
theorem k_X4_corrupt (l : Launch) (dC : Nat → ClassId) (dI : Nat → Nat → Nat) (A_x A_d A_mh A_jh A_ha A_da A_ma A_ja : Nat) (K_ha K_da K_ma K_ja : ClassId) (c_ha c_da c_ma c_ja : Nat → Int32) (c_up c_fu : Int32) (sz : Nat) (p1 : Int32) (p2 : Int32) (r0 : Int32) (o_da : (Nat → Int32)) (hm : m_X4_corrupt c_da c_up p1 p2 = some (r0, o_da)) : Met l yX4_corrupt wsX4_corrupt rm_X4_corrupt (va_Pc [.ref A_x, .int p1, .int p2] (fun U => U.heap.size = sz ∧ va_P (dC, dI) vwCl (wB A_x A_d A_mh A_jh A_ha A_da A_ma A_ja K_ha K_da K_ma K_ja c_ha c_da c_ma c_ja c_up c_fu) U.heap ∧ va_K (dC, dI) vwCl (tB K_ha K_da K_ma K_ja) U ∧ va_D (fun _ => True) (wB A_x A_d A_mh A_jh A_ha A_da A_ma A_ja K_ha K_da K_ma K_ja c_ha c_da c_ma c_ja c_up c_fu))) (va_Qi (fun (r : Int32) (_ : Unit) => r0 = r) (fun _ t => va_P (dC, dI) vwCl (wB A_x A_d A_mh A_jh A_ha A_da A_ma A_ja K_ha K_da K_ma K_ja c_ha o_da c_ma c_ja c_up c_fu) t.heap ∧ va_D (va_A (wB A_x A_d A_mh A_jh A_ha A_da A_ma A_ja K_ha K_da K_ma K_ja c_ha c_da c_ma c_ja c_up c_fu) sz) (wB A_x A_d A_mh A_jh A_ha A_da A_ma A_ja K_ha K_da K_ma K_ja c_ha o_da c_ma c_ja c_up c_fu)) (va_A (wB A_x A_d A_mh A_jh A_ha A_da A_ma A_ja K_ha K_da K_ma K_ja c_ha c_da c_ma c_ja c_up c_fu) sz)) 0 0 (va_A (wB A_x A_d A_mh A_jh A_ha A_da A_ma A_ja K_ha K_da K_ma K_ja c_ha c_da c_ma c_ja c_up c_fu) sz) := by
  refine Met.ofW (cc := cX4_corrupt) (maxL := 3) (ret := (some .boolean)) (by decide) rfl ?_
  intro p e s m args below meth c s₁ B hml hv
  obtain ⟨rfl, hsz, hP, hK, hD0⟩ := hv
  have hx := B.exec
  have hb := B.bytes
  have hr := B.returns
  have hts := atoms_spec (ws := wsX4_corrupt) B.pre
  have hown : s.vm.findClass RX4 = some m.cls := findClass_of_methodNamed B.named
  have hlocks := B.notSynchronized
  subst hsz
  have hD := hD0.self (sz := s.heap.size)
  generalize hAe : va_A (wB A_x A_d A_mh A_jh A_ha A_da A_ma A_ja K_ha K_da K_ma K_ja c_ha c_da c_ma c_ja c_up c_fu) s.heap.size = A at hD ⊢
  have hA : ∀ q : Nat, s.heap.size ≤ q → A q := fun q h => by rw [← hAe]; exact Or.inr h
  have hS : va_S A s.heap s.heap [] := va_S.rf
  have hP : va_P (dC, dI) vwCl (wB A_x A_d A_mh A_jh A_ha A_da A_ma A_ja K_ha K_da K_ma K_ja c_ha c_da c_ma c_ja c_up c_fu) s.heap := hP
  have hl := lv_entry ([.ref A_x, .int p1, .int p2]) (n := 3) (Nat.le_of_ble_eq_true rfl)
  rw [lg_entry_eq]
  generalize (lg_sl ([.ref A_x, .int p1, .int p2]) ++ List.replicate (3 - (lg_sl ([.ref A_x, .int p1, .int p2])).length) Slot.unset).toArray = ls at hl ⊢
  have hl : lv_has ls 3 [(0, .ref A_x), (1, .int p1), (2, .int p2)] := hl
  refine w_name (fun Q hQ => ?_)
  unfold m_X4_corrupt at hm
  refine lv_aload_n hx hb dX4_corrupt_0 rfl (lv_at hl 0 rfl) ?_
  refine va_get (D := (dC, dI)) (ci := 2) (v := .int c_up) (C := RX4) (T := TX4) (N := 6) hx hb hts hi_X4_corrupt_X4 hown hK hP 0 rfl rfl 4 (by decide) (hts (Cond.fieldLink RX4 33 "BuddyFiles" "up" "Z") hk_X4_corrupt_33) (fun _ h9 => h9) rfl dX4_corrupt_1 ?_
  refine lv_if_ne (tgt := 18) hx hb dX4_corrupt_4 (by decide) (fun c1 => ?_) (fun c1 => ?_)
  · have hm := g_f c1 hm
    refine lv_iconst (v := 0) hx hb dX4_corrupt_18 (by decide) ?_
    cases hm
    subst hQ
    exact W.zret hx hb hr rfl (fun t ht hW => ⟨⟨_, (), rfl, rfl, by rw [ht]; exact hP, hD⟩, hS.F ht⟩) hS.2.2 dX4_corrupt_19
  · have hm := g_t c1 hm
    refine lv_iload_n hx hb dX4_corrupt_7 rfl (lv_at hl 1 rfl) ?_
    refine lv_if_lt (tgt := 18) hx hb dX4_corrupt_8 (by decide) (fun c2 => ?_) (fun c2 => ?_)
    · have hm := g_t c2 hm
      refine lv_iconst (v := 0) hx hb dX4_corrupt_18 (by decide) ?_
      cases hm
      subst hQ
      exact W.zret hx hb hr rfl (fun t ht hW => ⟨⟨_, (), rfl, rfl, by rw [ht]; exact hP, hD⟩, hS.F ht⟩) hS.2.2 dX4_corrupt_19
    · have hm := g_f c2 hm
      refine lv_iload_n hx hb dX4_corrupt_11 rfl (lv_at hl 1 rfl) ?_
      refine lv_sipush (v := 332) hx hb dX4_corrupt_12 (by decide) ?_
      refine lv_icmp_lt (tgt := 20) hx hb dX4_corrupt_15 (by decide) (fun c3 => ?_) (fun c3 => ?_)
      · have hm := g_t c3 hm
        refine lv_aload_n hx hb dX4_corrupt_20 rfl (lv_at hl 0 rfl) ?_
        refine va_get (D := (dC, dI)) (ci := 2) (v := .ref A_d) (C := RX4) (T := TX4) (N := 6) hx hb hts hi_X4_corrupt_X4 hown hK hP 0 rfl rfl 0 (by decide) (hts (Cond.fieldLink RX4 10 "BuddyFiles" "disk" "LBuddyFiles$Disk;") hk_X4_corrupt_10) (fun _ h9 => h9) rfl dX4_corrupt_21 ?_
        refine va_get (D := (dC, dI)) (ci := 0) (v := .ref A_da) (C := RX1) (T := TX1) (N := 1) hx hb hts hi_X4_corrupt_X1 hown hK hP 1 rfl rfl 0 (by decide) (hts (Cond.fieldLink RX4 125 "BuddyFiles$Disk" "cells" "[I") hk_X4_corrupt_125) (fun _ h9 => h9) rfl dX4_corrupt_24 ?_
        refine lv_iload_n hx hb dX4_corrupt_27 rfl (lv_at hl 1 rfl) ?_
        refine lv_iload_n hx hb dX4_corrupt_28 rfl (lv_at hl 2 rfl) ?_
        obtain ⟨f4, ex, hm⟩ := g_bind hm
        refine w_ast hx hb hK hP hD hS 5 1 rfl rfl ex dX4_corrupt_29 (fun H5 locs5 hP hD hS => ?_)
        have hP : va_P (dC, dI) vwCl (wB A_x A_d A_mh A_jh A_ha A_da A_ma A_ja K_ha K_da K_ma K_ja c_ha f4 c_ma c_ja c_up c_fu) H5 := hP
        have hD : va_D A (wB A_x A_d A_mh A_jh A_ha A_da A_ma A_ja K_ha K_da K_ma K_ja c_ha f4 c_ma c_ja c_up c_fu) := hD
        refine lv_iconst (v := 1) hx hb dX4_corrupt_30 (by decide) ?_
        cases hm
        subst hQ
        exact W.zret hx hb hr rfl (fun t ht hW => ⟨⟨_, (), rfl, rfl, by rw [ht]; exact hP, hD⟩, hS.F ht⟩) hS.2.2 dX4_corrupt_31
      · have hm := g_f c3 hm
        refine lv_iconst (v := 0) hx hb dX4_corrupt_18 (by decide) ?_
        cases hm
        subst hQ
        exact W.zret hx hb hr rfl (fun t ht hW => ⟨⟨_, (), rfl, rfl, by rw [ht]; exact hP, hD⟩, hS.F ht⟩) hS.2.2 dX4_corrupt_19
theorem hi_X4_fsck_X4 : ∀ w ∈ wsX40, w ∈ wsX4_fsck := by decide +kernel
theorem hk_X4_fsck_23 : Cond.fieldLink RX4 23 "BuddyFiles" "judged" "LBuddyFiles$Home;" ∈ wsX4_fsck := by decide +kernel
theorem hk_X4_fsck_10 : Cond.fieldLink RX4 10 "BuddyFiles" "disk" "LBuddyFiles$Disk;" ∈ wsX4_fsck := by decide +kernel
theorem hi_X4_fsck_X1 : ∀ w ∈ wsX10, w ∈ wsX4_fsck := by decide +kernel
theorem hk_X4_fsck_125 : Cond.fieldLink RX4 125 "BuddyFiles$Disk" "cells" "[I" ∈ wsX4_fsck := by decide +kernel
theorem hi_X4_fsck_X2 : ∀ w ∈ wsX20, w ∈ wsX4_fsck := by decide +kernel
theorem hk_X4_fsck_141 : Cond.fieldLink RX4 141 "BuddyFiles$Home" "cells" "[I" ∈ wsX4_fsck := by decide +kernel
abbrev rm_X4_fsck : Room := { frames := 6, cells := 0, slots := 0, locals := 135 }
set_option maxHeartbeats 4000000 in
set_option maxRecDepth 100000 in
theorem k_X4_fsck (l : Launch) (dC : Nat → ClassId) (dI : Nat → Nat → Nat) (A_x A_d A_mh A_jh A_ha A_da A_ma A_ja : Nat) (K_ha K_da K_ma K_ja : ClassId) (c_ha c_da c_ma c_ja : Nat → Int32) (c_up c_fu : Int32) (sz : Nat)  (r0 : Int32) (o_ja : (Nat → Int32)) (hm : m_X4_fsck c_da c_ja = some (r0, o_ja)) : Met l yX4_fsck wsX4_fsck rm_X4_fsck (va_Pc [.ref A_x] (fun U => U.heap.size = sz ∧ va_P (dC, dI) vwCl (wB A_x A_d A_mh A_jh A_ha A_da A_ma A_ja K_ha K_da K_ma K_ja c_ha c_da c_ma c_ja c_up c_fu) U.heap ∧ va_K (dC, dI) vwCl (tB K_ha K_da K_ma K_ja) U ∧ va_D (fun _ => True) (wB A_x A_d A_mh A_jh A_ha A_da A_ma A_ja K_ha K_da K_ma K_ja c_ha c_da c_ma c_ja c_up c_fu))) (va_Qi (fun (r : Int32) (_ : Unit) => r0 = r) (fun _ t => va_P (dC, dI) vwCl (wB A_x A_d A_mh A_jh A_ha A_da A_ma A_ja K_ha K_da K_ma K_ja c_ha c_da c_ma o_ja c_up c_fu) t.heap ∧ va_D (va_A (wB A_x A_d A_mh A_jh A_ha A_da A_ma A_ja K_ha K_da K_ma K_ja c_ha c_da c_ma c_ja c_up c_fu) sz) (wB A_x A_d A_mh A_jh A_ha A_da A_ma A_ja K_ha K_da K_ma K_ja c_ha c_da c_ma o_ja c_up c_fu)) (va_A (wB A_x A_d A_mh A_jh A_ha A_da A_ma A_ja K_ha K_da K_ma K_ja c_ha c_da c_ma c_ja c_up c_fu) sz)) 0 0 (va_A (wB A_x A_d A_mh A_jh A_ha A_da A_ma A_ja K_ha K_da K_ma K_ja c_ha c_da c_ma c_ja c_up c_fu) sz) := by
  refine Met.ofW (cc := cX4_fsck) (maxL := 1) (ret := (some .int)) (by decide) rfl ?_
  intro p e s m args below meth c s₁ B hml hv
  obtain ⟨rfl, hsz, hP, hK, hD0⟩ := hv
  have hx := B.exec
  have hb := B.bytes
  have hr := B.returns
  have hts := atoms_spec (ws := wsX4_fsck) B.pre
  have hown : s.vm.findClass RX4 = some m.cls := findClass_of_methodNamed B.named
  have hlocks := B.notSynchronized
  subst hsz
  have hD := hD0.self (sz := s.heap.size)
  generalize hAe : va_A (wB A_x A_d A_mh A_jh A_ha A_da A_ma A_ja K_ha K_da K_ma K_ja c_ha c_da c_ma c_ja c_up c_fu) s.heap.size = A at hD ⊢
  have hA : ∀ q : Nat, s.heap.size ≤ q → A q := fun q h => by rw [← hAe]; exact Or.inr h
  have hS : va_S A s.heap s.heap [] := va_S.rf
  have hP : va_P (dC, dI) vwCl (wB A_x A_d A_mh A_jh A_ha A_da A_ma A_ja K_ha K_da K_ma K_ja c_ha c_da c_ma c_ja c_up c_fu) s.heap := hP
  have hl := lv_entry ([.ref A_x]) (n := 1) (Nat.le_of_ble_eq_true rfl)
  rw [lg_entry_eq]
  generalize (lg_sl ([.ref A_x]) ++ List.replicate (1 - (lg_sl ([.ref A_x])).length) Slot.unset).toArray = ls at hl ⊢
  have hl : lv_has ls 1 [(0, .ref A_x)] := hl
  refine w_name (fun Q hQ => ?_)
  unfold m_X4_fsck at hm
  refine lv_aload_n hx hb dX4_fsck_0 rfl (lv_at hl 0 rfl) ?_
  refine va_get (D := (dC, dI)) (ci := 2) (v := .ref A_jh) (C := RX4) (T := TX4) (N := 6) hx hb hts hi_X4_fsck_X4 hown hK hP 0 rfl rfl 2 (by decide) (hts (Cond.fieldLink RX4 23 "BuddyFiles" "judged" "LBuddyFiles$Home;") hk_X4_fsck_23) (fun _ h9 => h9) rfl dX4_fsck_1 ?_
  refine lv_aload_n hx hb dX4_fsck_4 rfl (lv_at hl 0 rfl) ?_
  refine va_get (D := (dC, dI)) (ci := 2) (v := .ref A_d) (C := RX4) (T := TX4) (N := 6) hx hb hts hi_X4_fsck_X4 hown hK hP 0 rfl rfl 0 (by decide) (hts (Cond.fieldLink RX4 10 "BuddyFiles" "disk" "LBuddyFiles$Disk;") hk_X4_fsck_10) (fun _ h9 => h9) rfl dX4_fsck_5 ?_
  refine va_get (D := (dC, dI)) (ci := 0) (v := .ref A_da) (C := RX1) (T := TX1) (N := 1) hx hb hts hi_X4_fsck_X1 hown hK hP 1 rfl rfl 0 (by decide) (hts (Cond.fieldLink RX4 125 "BuddyFiles$Disk" "cells" "[I") hk_X4_fsck_125) (fun _ h9 => h9) rfl dX4_fsck_8 ?_
  obtain ⟨f1, ex, hm⟩ := g_bind hm
  have hPc := hP.sub (ws' := (wHD A_jh A_ja A_da K_ja K_da c_ja c_da)) [3, 7, 5] rfl
  have hDc := hD.sub (ws' := (wHD A_jh A_ja A_da K_ja K_da c_ja c_da)) [3, 7, 5] (by decide) rfl
  have hKc := hK.sub (tys' := (tHD K_ja K_da)) [3, 1] rfl
  have hFc := va_free (wc := (wHD A_jh A_ja A_da K_ja K_da c_ja c_da)) hD hS hA [3, 7, 5] rfl
  refine va_callv (va_runV (As := [.ref A_da]) (rest := []) ⟨hx, hb, hml, hown, hts⟩ (k_X2_copyFrom l dC dI A_jh A_ja A_da K_ja K_da c_ja c_da s.heap.size  _ ex) (cwV 1 hts gX4_fsck_X2_copyFrom rfl rfl rfl (by decide +kernel) ⟨Nat.le_of_ble_eq_true rfl, Nat.le_of_ble_eq_true rfl⟩) ⟨w_blW, va_recv hKc hPc (ci := 1) (q0 := 0) rfl rfl, fun U hU hW => ⟨rfl, by rw [hU], by rw [hU]; exact hPc, va_K.moved hW.alike hKc, hDc.weaken (fun _ _ _ _ => trivial)⟩⟩ rfl rfl hl.1 rfl (lv_room (Nat.le_of_ble_eq_true rfl)) dX4_fsck_11 ⟨Nat.zero_le _, Nat.zero_le _⟩) hS (fun q _ h => hFc q h) hFc (fun _ t H2 locs2 ht hvm hw hB hz1 hk1 hS => ?_)
  refine W.widen (k := 0) (n := 0) (Nat.le_refl 0) (Nat.le_refl 0) ?_
  obtain ⟨hP1, hD1⟩ := hB
  rw [ht] at hP1
  obtain ⟨hP, hD⟩ := va_join (wr := [(A_x, .inr (2, [.ref A_d, .ref A_mh, .ref A_jh, .ref A_ha, .int c_up, .int c_fu])), (A_d, .inr (0, [.ref A_da])), (A_mh, .inr (1, [.ref A_ma])), (A_ha, .inl (K_ha, 4, .inl c_ha)), (A_ma, .inl (K_ma, 110, .inl c_ma))]) (w1 := (wHD A_jh A_ja A_da K_ja K_da f1 c_da)) hP hD [3, 7, 5] [0, 1, 2, 4, 6] rfl rfl (by decide) (by decide) hk1 hFc hP1 hD1
  have hP : va_P (dC, dI) vwCl (wB A_x A_d A_mh A_jh A_ha A_da A_ma A_ja K_ha K_da K_ma K_ja c_ha c_da c_ma f1 c_up c_fu) H2 := hP.sub [0, 1, 2, 5, 3, 7, 4, 6] rfl
  have hD : va_D A (wB A_x A_d A_mh A_jh A_ha A_da A_ma A_ja K_ha K_da K_ma K_ja c_ha c_da c_ma f1 c_up c_fu) := hD.sub [0, 1, 2, 5, 3, 7, 4, 6] (by decide) rfl
  refine lv_aload_n hx hb dX4_fsck_14 rfl (lv_at hl 0 rfl) ?_
  refine va_get (D := (dC, dI)) (ci := 2) (v := .ref A_d) (C := RX4) (T := TX4) (N := 6) hx hb hts hi_X4_fsck_X4 hown hK hP 0 rfl rfl 0 (by decide) (hts (Cond.fieldLink RX4 10 "BuddyFiles" "disk" "LBuddyFiles$Disk;") hk_X4_fsck_10) (fun _ h9 => h9) rfl dX4_fsck_15 ?_
  obtain ⟨x3, ex, hm⟩ := g_bind hm
  refine vp_callSi (W.runV (As := []) (rest := []) ⟨hx, hb, hml, hown, hts⟩ (k_X1_journalHolds l dC dI A_d A_da K_da c_da  _ ex) (cwV 0 hts gX4_fsck_X1_journalHolds rfl rfl rfl (by decide +kernel) ⟨Nat.le_of_ble_eq_true rfl, Nat.le_of_ble_eq_true rfl⟩) ⟨w_blR, va_recv hK hP (ci := 0) (q0 := 1) rfl rfl, fun U hU hW => ⟨rfl, by rw [hU]; exact hP.sub [1, 5] rfl, va_K.moved hW.alike (hK.sub [1] rfl)⟩⟩ rfl rfl hl.1 rfl (lv_room (Nat.le_of_ble_eq_true rfl)) dX4_fsck_18 ⟨Nat.zero_le _, Nat.zero_le _⟩) (fun _ ey => ?_)
  subst ey
  refine lv_if_eq (tgt := 38) hx hb dX4_fsck_21 (by decide) (fun c4 => ?_) (fun c4 => ?_)
  · have hm := g_t c4 hm
    refine lv_aload_n hx hb dX4_fsck_38 rfl (lv_at hl 0 rfl) ?_
    refine va_get (D := (dC, dI)) (ci := 2) (v := .ref A_jh) (C := RX4) (T := TX4) (N := 6) hx hb hts hi_X4_fsck_X4 hown hK hP 0 rfl rfl 2 (by decide) (hts (Cond.fieldLink RX4 23 "BuddyFiles" "judged" "LBuddyFiles$Home;") hk_X4_fsck_23) (fun _ h9 => h9) rfl dX4_fsck_39 ?_
    obtain ⟨x5, ex, hm⟩ := g_bind hm
    refine vp_callSi (W.runS (As := [.ref A_jh]) (rest := []) ⟨hx, hb, hml, hown, hts⟩ (k_X0_leastBroken l dC dI A_jh A_ja K_ja f1  _ ex) (va_cwS 1 hts gX4_fsck_X0_leastBroken rfl rfl rfl (by decide +kernel) ⟨Nat.le_of_ble_eq_true rfl, Nat.le_of_ble_eq_true rfl⟩) ⟨w_blR, fun U hU hW => ⟨rfl, by rw [hU]; exact hP.sub [3, 7] rfl, va_K.moved hW.alike (hK.sub [3] rfl)⟩⟩ rfl rfl hl.1 rfl (lv_room (Nat.le_of_ble_eq_true rfl)) dX4_fsck_42 ⟨Nat.zero_le _, Nat.zero_le _⟩) (fun _ ey => ?_)
    subst ey
    cases hm
    subst hQ
    exact W.iret hx hb hr (fun t ht hW => ⟨⟨_, (), rfl, rfl, by rw [ht]; exact hP, hD⟩, hS.F ht⟩) hS.2.2 dX4_fsck_45
  · have hm := g_f c4 hm
    refine lv_aload_n hx hb dX4_fsck_24 rfl (lv_at hl 0 rfl) ?_
    refine va_get (D := (dC, dI)) (ci := 2) (v := .ref A_d) (C := RX4) (T := TX4) (N := 6) hx hb hts hi_X4_fsck_X4 hown hK hP 0 rfl rfl 0 (by decide) (hts (Cond.fieldLink RX4 10 "BuddyFiles" "disk" "LBuddyFiles$Disk;") hk_X4_fsck_10) (fun _ h9 => h9) rfl dX4_fsck_25 ?_
    refine lv_aload_n hx hb dX4_fsck_28 rfl (lv_at hl 0 rfl) ?_
    refine va_get (D := (dC, dI)) (ci := 2) (v := .ref A_jh) (C := RX4) (T := TX4) (N := 6) hx hb hts hi_X4_fsck_X4 hown hK hP 0 rfl rfl 2 (by decide) (hts (Cond.fieldLink RX4 23 "BuddyFiles" "judged" "LBuddyFiles$Home;") hk_X4_fsck_23) (fun _ h9 => h9) rfl dX4_fsck_29 ?_
    refine va_get (D := (dC, dI)) (ci := 1) (v := .ref A_ja) (C := RX2) (T := TX2) (N := 1) hx hb hts hi_X4_fsck_X2 hown hK hP 3 rfl rfl 0 (by decide) (hts (Cond.fieldLink RX4 141 "BuddyFiles$Home" "cells" "[I") hk_X4_fsck_141) (fun _ h9 => h9) rfl dX4_fsck_32 ?_
    obtain ⟨f6, ex, hm⟩ := g_bind hm
    have hPc := hP.sub (ws' := (wDH A_d A_da A_ja K_da K_ja c_da f1)) [1, 5, 7] rfl
    have hDc := hD.sub (ws' := (wDH A_d A_da A_ja K_da K_ja c_da f1)) [1, 5, 7] (by decide) rfl
    have hKc := hK.sub (tys' := (tDH K_da K_ja)) [1, 3] rfl
    have hFc := va_free (wc := (wDH A_d A_da A_ja K_da K_ja c_da f1)) hD hS hA [1, 5, 7] rfl
    refine va_callv (va_runV (As := [.ref A_ja]) (rest := []) ⟨hx, hb, hml, hown, hts⟩ (k_X1_replayInto l dC dI A_d A_da A_ja K_da K_ja c_da f1 H2.size  _ ex) (cwV 1 hts gX4_fsck_X1_replayInto rfl rfl rfl (by decide +kernel) ⟨Nat.le_of_ble_eq_true rfl, Nat.le_of_ble_eq_true rfl⟩) ⟨w_blW, va_recv hKc hPc (ci := 0) (q0 := 0) rfl rfl, fun U hU hW => ⟨rfl, by rw [hU], by rw [hU]; exact hPc, va_K.moved hW.alike hKc, hDc.weaken (fun _ _ _ _ => trivial)⟩⟩ rfl rfl hl.1 rfl (lv_room (Nat.le_of_ble_eq_true rfl)) dX4_fsck_35 ⟨Nat.zero_le _, Nat.zero_le _⟩) hS (fun q _ h => hFc q h) hFc (fun _ t H7 locs7 ht hvm hw hB hz1 hk1 hS => ?_)
    refine W.widen (k := 0) (n := 0) (Nat.le_refl 0) (Nat.le_refl 0) ?_
    obtain ⟨hP1, hD1⟩ := hB
    rw [ht] at hP1
    obtain ⟨hP, hD⟩ := va_join (wr := [(A_x, .inr (2, [.ref A_d, .ref A_mh, .ref A_jh, .ref A_ha, .int c_up, .int c_fu])), (A_mh, .inr (1, [.ref A_ma])), (A_jh, .inr (1, [.ref A_ja])), (A_ha, .inl (K_ha, 4, .inl c_ha)), (A_ma, .inl (K_ma, 110, .inl c_ma))]) (w1 := (wDH A_d A_da A_ja K_da K_ja c_da f6)) hP hD [1, 5, 7] [0, 2, 3, 4, 6] rfl rfl (by decide) (by decide) hk1 hFc hP1 hD1
    have hP : va_P (dC, dI) vwCl (wB A_x A_d A_mh A_jh A_ha A_da A_ma A_ja K_ha K_da K_ma K_ja c_ha c_da c_ma f6 c_up c_fu) H7 := hP.sub [0, 5, 1, 2, 3, 6, 4, 7] rfl
    have hD : va_D A (wB A_x A_d A_mh A_jh A_ha A_da A_ma A_ja K_ha K_da K_ma K_ja c_ha c_da c_ma f6 c_up c_fu) := hD.sub [0, 5, 1, 2, 3, 6, 4, 7] (by decide) rfl
    refine lv_aload_n hx hb dX4_fsck_38 rfl (lv_at hl 0 rfl) ?_
    refine va_get (D := (dC, dI)) (ci := 2) (v := .ref A_jh) (C := RX4) (T := TX4) (N := 6) hx hb hts hi_X4_fsck_X4 hown hK hP 0 rfl rfl 2 (by decide) (hts (Cond.fieldLink RX4 23 "BuddyFiles" "judged" "LBuddyFiles$Home;") hk_X4_fsck_23) (fun _ h9 => h9) rfl dX4_fsck_39 ?_
    obtain ⟨x8, ex, hm⟩ := g_bind hm
    refine vp_callSi (W.runS (As := [.ref A_jh]) (rest := []) ⟨hx, hb, hml, hown, hts⟩ (k_X0_leastBroken l dC dI A_jh A_ja K_ja f6  _ ex) (va_cwS 1 hts gX4_fsck_X0_leastBroken rfl rfl rfl (by decide +kernel) ⟨Nat.le_of_ble_eq_true rfl, Nat.le_of_ble_eq_true rfl⟩) ⟨w_blR, fun U hU hW => ⟨rfl, by rw [hU]; exact hP.sub [3, 7] rfl, va_K.moved hW.alike (hK.sub [3] rfl)⟩⟩ rfl rfl hl.1 rfl (lv_room (Nat.le_of_ble_eq_true rfl)) dX4_fsck_42 ⟨Nat.zero_le _, Nat.zero_le _⟩) (fun _ ey => ?_)
    subst ey
    cases hm
    subst hQ
    exact W.iret hx hb hr (fun t ht hW => ⟨⟨_, (), rfl, rfl, by rw [ht]; exact hP, hD⟩, hS.F ht⟩) hS.2.2 dX4_fsck_45
theorem hi_X4_peek_X4 : ∀ w ∈ wsX40, w ∈ wsX4_peek := by decide +kernel
theorem hk_X4_peek_10 : Cond.fieldLink RX4 10 "BuddyFiles" "disk" "LBuddyFiles$Disk;" ∈ wsX4_peek := by decide +kernel
theorem hi_X4_peek_X1 : ∀ w ∈ wsX10, w ∈ wsX4_peek := by decide +kernel
theorem hk_X4_peek_125 : Cond.fieldLink RX4 125 "BuddyFiles$Disk" "cells" "[I" ∈ wsX4_peek := by decide +kernel
abbrev rm_X4_peek : Room := { frames := 0, cells := 0, slots := 0, locals := 0 }
set_option maxHeartbeats 4000000 in
set_option maxRecDepth 100000 in
theorem k_X4_peek (l : Launch) (dC : Nat → ClassId) (dI : Nat → Nat → Nat) (A_x A_d A_mh A_jh A_ha A_da A_ma A_ja : Nat) (K_ha K_da K_ma K_ja : ClassId) (c_ha c_da c_ma c_ja : Nat → Int32) (c_up c_fu : Int32) (p1 : Int32) (r0 : Int32) (hm : m_X4_peek c_da p1 = some r0) : Met l yX4_peek wsX4_peek rm_X4_peek (va_Pc [.ref A_x, .int p1] (fun U => va_P (dC, dI) vwCl (wB A_x A_d A_mh A_jh A_ha A_da A_ma A_ja K_ha K_da K_ma K_ja c_ha c_da c_ma c_ja c_up c_fu) U.heap ∧ va_K (dC, dI) vwCl (tB K_ha K_da K_ma K_ja) U)) (vp_Si (fun r => r0 = r)) 0 0 (fun _ => False) := by
  refine Met.ofW (cc := cX4_peek) (maxL := 2) (ret := (some .int)) (by decide) rfl ?_
  intro p e s m args below meth c s₁ B hml hv
  obtain ⟨rfl, hP, hK⟩ := hv
  have hx := B.exec
  have hb := B.bytes
  have hr := B.returns
  have hts := atoms_spec (ws := wsX4_peek) B.pre
  have hown : s.vm.findClass RX4 = some m.cls := findClass_of_methodNamed B.named
  have hlocks := B.notSynchronized
  have hl := lv_entry ([.ref A_x, .int p1]) (n := 2) (Nat.le_of_ble_eq_true rfl)
  rw [lg_entry_eq]
  generalize (lg_sl ([.ref A_x, .int p1]) ++ List.replicate (2 - (lg_sl ([.ref A_x, .int p1])).length) Slot.unset).toArray = ls at hl ⊢
  have hl : lv_has ls 2 [(0, .ref A_x), (1, .int p1)] := hl
  refine w_name (fun Q hQ => ?_)
  unfold m_X4_peek at hm
  refine lv_iload_n hx hb dX4_peek_0 rfl (lv_at hl 1 rfl) ?_
  refine lv_if_lt (tgt := 11) hx hb dX4_peek_1 (by decide) (fun c1 => ?_) (fun c1 => ?_)
  · have hm := g_t c1 hm
    refine lv_iconst (v := 0) hx hb dX4_peek_11 (by decide) ?_
    cases hm
    subst hQ
    exact W.iret hx hb hr (fun t ht hW => ⟨_, rfl, rfl, ht⟩) (fun _ h => nomatch h) dX4_peek_12
  · have hm := g_f c1 hm
    refine lv_iload_n hx hb dX4_peek_4 rfl (lv_at hl 1 rfl) ?_
    refine lv_sipush (v := 332) hx hb dX4_peek_5 (by decide) ?_
    refine lv_icmp_lt (tgt := 13) hx hb dX4_peek_8 (by decide) (fun c2 => ?_) (fun c2 => ?_)
    · have hm := g_t c2 hm
      refine lv_aload_n hx hb dX4_peek_13 rfl (lv_at hl 0 rfl) ?_
      refine va_get (D := (dC, dI)) (ci := 2) (v := .ref A_d) (C := RX4) (T := TX4) (N := 6) hx hb hts hi_X4_peek_X4 hown hK hP 0 rfl rfl 0 (by decide) (hts (Cond.fieldLink RX4 10 "BuddyFiles" "disk" "LBuddyFiles$Disk;") hk_X4_peek_10) (fun _ h9 => h9) rfl dX4_peek_14 ?_
      refine va_get (D := (dC, dI)) (ci := 0) (v := .ref A_da) (C := RX1) (T := TX1) (N := 1) hx hb hts hi_X4_peek_X1 hown hK hP 1 rfl rfl 0 (by decide) (hts (Cond.fieldLink RX4 125 "BuddyFiles$Disk" "cells" "[I") hk_X4_peek_125) (fun _ h9 => h9) rfl dX4_peek_17 ?_
      refine lv_iload_n hx hb dX4_peek_20 rfl (lv_at hl 1 rfl) ?_
      obtain ⟨x3, ex, hm⟩ := g_bind hm
      refine w_ald hx hb hK hP 5 1 rfl rfl ex dX4_peek_21 ?_
      cases hm
      subst hQ
      exact W.iret hx hb hr (fun t ht hW => ⟨_, rfl, rfl, ht⟩) (fun _ h => nomatch h) dX4_peek_22
    · have hm := g_f c2 hm
      refine lv_iconst (v := 0) hx hb dX4_peek_11 (by decide) ?_
      cases hm
      subst hQ
      exact W.iret hx hb hr (fun t ht hW => ⟨_, rfl, rfl, ht⟩) (fun _ h => nomatch h) dX4_peek_12
