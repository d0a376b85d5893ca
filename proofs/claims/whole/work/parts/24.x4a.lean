theorem hi_X4_goUp_X4 : ∀ w ∈ wsX40, w ∈ wsX4_goUp := by decide +kernel
theorem hk_X4_goUp_26 : Cond.fieldLink RX4 26 "BuddyFiles" "slotOfHandle" "[I" ∈ wsX4_goUp := by decide +kernel
theorem hk_X4_goUp_115 : Cond.fieldLink RX4 115 "BuddyFiles" "fuse" "I" ∈ wsX4_goUp := by decide +kernel
theorem hk_X4_goUp_33 : Cond.fieldLink RX4 33 "BuddyFiles" "up" "Z" ∈ wsX4_goUp := by decide +kernel
abbrev rm_X4_goUp : Room := { frames := 0, cells := 0, slots := 0, locals := 0 }
set_option maxHeartbeats 4000000 in
set_option maxRecDepth 100000 in
theorem k_X4_goUp (l : Launch) (dC : Nat → ClassId) (dI : Nat → Nat → Nat) (A_x A_d A_mh A_jh A_ha A_da A_ma A_ja : Nat) (K_ha K_da K_ma K_ja : ClassId) (c_ha c_da c_ma c_ja : Nat → Int32) (c_up c_fu : Int32) (sz : Nat)  (o_ha : (Nat → Int32)) (o_up : Int32) (o_fu : Int32) (hm : m_X4_goUp c_ha c_up c_fu = some (o_ha, o_up, o_fu)) : Met l yX4_goUp wsX4_goUp rm_X4_goUp (va_Pc [.ref A_x] (fun U => U.heap.size = sz ∧ va_P (dC, dI) vwCl (wB A_x A_d A_mh A_jh A_ha A_da A_ma A_ja K_ha K_da K_ma K_ja c_ha c_da c_ma c_ja c_up c_fu) U.heap ∧ va_K (dC, dI) vwCl (tB K_ha K_da K_ma K_ja) U ∧ va_D (fun _ => True) (wB A_x A_d A_mh A_jh A_ha A_da A_ma A_ja K_ha K_da K_ma K_ja c_ha c_da c_ma c_ja c_up c_fu))) (va_Qv (fun (_ : Unit) => True) (fun _ t => va_P (dC, dI) vwCl (wB A_x A_d A_mh A_jh A_ha A_da A_ma A_ja K_ha K_da K_ma K_ja o_ha c_da c_ma c_ja o_up o_fu) t.heap ∧ va_D (va_A (wB A_x A_d A_mh A_jh A_ha A_da A_ma A_ja K_ha K_da K_ma K_ja c_ha c_da c_ma c_ja c_up c_fu) sz) (wB A_x A_d A_mh A_jh A_ha A_da A_ma A_ja K_ha K_da K_ma K_ja o_ha c_da c_ma c_ja o_up o_fu)) (va_A (wB A_x A_d A_mh A_jh A_ha A_da A_ma A_ja K_ha K_da K_ma K_ja c_ha c_da c_ma c_ja c_up c_fu) sz)) 0 0 (va_A (wB A_x A_d A_mh A_jh A_ha A_da A_ma A_ja K_ha K_da K_ma K_ja c_ha c_da c_ma c_ja c_up c_fu) sz) := by
  refine Met.ofW (cc := cX4_goUp) (maxL := 2) (ret := (none)) (by decide) rfl ?_
  intro p e s m args below meth c s₁ B hml hv
  obtain ⟨rfl, hsz, hP, hK, hD0⟩ := hv
  have hx := B.exec
  have hb := B.bytes
  have hr := B.returns
  have hts := atoms_spec (ws := wsX4_goUp) B.pre
  have hown : s.vm.findClass RX4 = some m.cls := findClass_of_methodNamed B.named
  have hlocks := B.notSynchronized
  subst hsz
  have hD := hD0.self (sz := s.heap.size)
  generalize hAe : va_A (wB A_x A_d A_mh A_jh A_ha A_da A_ma A_ja K_ha K_da K_ma K_ja c_ha c_da c_ma c_ja c_up c_fu) s.heap.size = A at hD ⊢
  have hA : ∀ q : Nat, s.heap.size ≤ q → A q := fun q h => by rw [← hAe]; exact Or.inr h
  have hS : va_S A s.heap s.heap [] := va_S.rf
  have hP : va_P (dC, dI) vwCl (wB A_x A_d A_mh A_jh A_ha A_da A_ma A_ja K_ha K_da K_ma K_ja c_ha c_da c_ma c_ja c_up c_fu) s.heap := hP
  have hl := lv_entry ([.ref A_x]) (n := 2) (Nat.le_of_ble_eq_true rfl)
  rw [lg_entry_eq]
  generalize (lg_sl ([.ref A_x]) ++ List.replicate (2 - (lg_sl ([.ref A_x])).length) Slot.unset).toArray = ls at hl ⊢
  have hl : lv_has ls 2 [(0, .ref A_x)] := hl
  refine w_name (fun Q hQ => ?_)
  unfold m_X4_goUp at hm
  refine lv_iconst (v := 0) hx hb dX4_goUp_0 (by decide) ?_
  refine lv_istore_n (lv' := [(1, .int (0 : Int32)), (0, .ref A_x)]) hx hb dX4_goUp_1 rfl hl (by decide) rfl (fun ls hl => ?_)
  obtain ⟨rl4, hlp, hm⟩ := g_bind hm
  have hE4 : ∀ (f3 : (Nat → Int32)), f3 = rl4 → ∀ (H4e : Heap) (locs4e : List Loc), va_P (dC, dI) vwCl (wB A_x A_d A_mh A_jh A_ha A_da A_ma A_ja K_ha K_da K_ma K_ja f3 c_da c_ma c_ja c_up c_fu) H4e → va_D A (wB A_x A_d A_mh A_jh A_ha A_da A_ma A_ja K_ha K_da K_ma K_ja f3 c_da c_ma c_ja c_up c_fu) → va_S A s.heap H4e locs4e → ∀ (ls : Array Slot), lv_has ls 2 [(0, .ref A_x)] → W p l e (headSpec wsX4_goUp rm_X4_goUp).room s m (([.ref A_x] : List Value).toArray) below meth c H4e locs4e 0 0 Q (F0 m 20 ls []) := by
    intro f3 hq H4e locs4e hP hD hS ls hl
    subst hq
    have hm := g_k1_s hm
    refine lv_aload_n hx hb dX4_goUp_20 rfl (lv_at hl 0 rfl) ?_
    refine lv_iconst (v := -1) hx hb dX4_goUp_21 (by decide) ?_
    refine va_put (D := (dC, dI)) (ci := 2) (v := .int (-1 : Int32)) (ty := .int) (C := RX4) (T := TX4) (N := 6) hx hb hts hi_X4_goUp_X4 tyX4 tyX4_ok nmX4 hown hK hP hD hS 0 rfl rfl 5 (by decide) (hts (Cond.fieldLink RX4 115 "BuddyFiles" "fuse" "I") hk_X4_goUp_115) (fun _ h9 => h9) rfl (by decide +kernel) rfl rfl (Nat.le_of_ble_eq_true rfl) dX4_goUp_22 (fun H8 locs8 hP hD hS => ?_)
    have hP : va_P (dC, dI) vwCl (wB A_x A_d A_mh A_jh A_ha A_da A_ma A_ja K_ha K_da K_ma K_ja f3 c_da c_ma c_ja c_up (-1 : Int32)) H8 := hP
    have hD : va_D A (wB A_x A_d A_mh A_jh A_ha A_da A_ma A_ja K_ha K_da K_ma K_ja f3 c_da c_ma c_ja c_up (-1 : Int32)) := hD
    refine lv_aload_n hx hb dX4_goUp_25 rfl (lv_at hl 0 rfl) ?_
    refine lv_iconst (v := 1) hx hb dX4_goUp_26 (by decide) ?_
    refine va_put (D := (dC, dI)) (ci := 2) (v := .int (1 : Int32)) (ty := .boolean) (C := RX4) (T := TX4) (N := 6) hx hb hts hi_X4_goUp_X4 tyX4 tyX4_ok nmX4 hown hK hP hD hS 0 rfl rfl 4 (by decide) (hts (Cond.fieldLink RX4 33 "BuddyFiles" "up" "Z") hk_X4_goUp_33) (fun _ h9 => h9) rfl (by decide +kernel) rfl rfl (Nat.le_of_ble_eq_true rfl) dX4_goUp_27 (fun H9 locs9 hP hD hS => ?_)
    have hP : va_P (dC, dI) vwCl (wB A_x A_d A_mh A_jh A_ha A_da A_ma A_ja K_ha K_da K_ma K_ja f3 c_da c_ma c_ja (1 : Int32) (-1 : Int32)) H9 := hP
    have hD : va_D A (wB A_x A_d A_mh A_jh A_ha A_da A_ma A_ja K_ha K_da K_ma K_ja f3 c_da c_ma c_ja (1 : Int32) (-1 : Int32)) := hD
    cases hm
    subst hQ
    exact W.vret hx hb hr (fun t ht hW => ⟨⟨(), rfl, trivial, by rw [ht]; exact hP, hD⟩, hS.F ht⟩) hS.2.2 dX4_goUp_30
  have hL4 : ∀ (n : Nat) (y1 : Int32) (f2 : (Nat → Int32)), g_loop (fun q => m_X4_goUp_L2 q.1 q.2) n (y1, f2) = some rl4 → ∀ (H4b : Heap) (locs4b : List Loc), va_P (dC, dI) vwCl (wB A_x A_d A_mh A_jh A_ha A_da A_ma A_ja K_ha K_da K_ma K_ja f2 c_da c_ma c_ja c_up c_fu) H4b → va_D A (wB A_x A_d A_mh A_jh A_ha A_da A_ma A_ja K_ha K_da K_ma K_ja f2 c_da c_ma c_ja c_up c_fu) → va_S A s.heap H4b locs4b → ∀ (ls : Array Slot), lv_has ls 2 [(0, .ref A_x), (1, .int y1)] → W p l e (headSpec wsX4_goUp rm_X4_goUp).room s m (([.ref A_x] : List Value).toArray) below meth c H4b locs4b 0 0 Q (F0 m 2 ls []) := by
    intro n
    induction n with
    | zero =>
      intro y1 f2 hm
      exact g_loop_z hm
    | succ n ih =>
      intro y1 f2 hm H4b locs4b hP hD hS ls hl
      obtain ⟨q, hm, hy⟩ := g_loop_s hm
      have hm : m_X4_goUp_L2 y1 f2 = some q := hm
      unfold m_X4_goUp_L2 at hm
      refine lv_iload_n hx hb dX4_goUp_2 rfl (lv_at hl 1 rfl) ?_
      refine lv_iconst (v := 4) hx hb dX4_goUp_3 (by decide) ?_
      refine lv_icmp_ge (tgt := 20) hx hb dX4_goUp_4 (by decide) (fun c5 => ?_) (fun c5 => ?_)
      · have hm := g_t c5 hm
        cases hm
        exact hE4 _ hy _ _ hP hD hS _ (lv_sub hl [0] rfl)
      · have hm := g_f c5 hm
        refine lv_aload_n hx hb dX4_goUp_7 rfl (lv_at hl 0 rfl) ?_
        refine va_get (D := (dC, dI)) (ci := 2) (v := .ref A_ha) (C := RX4) (T := TX4) (N := 6) hx hb hts hi_X4_goUp_X4 hown hK hP 0 rfl rfl 3 (by decide) (hts (Cond.fieldLink RX4 26 "BuddyFiles" "slotOfHandle" "[I") hk_X4_goUp_26) (fun _ h9 => h9) rfl dX4_goUp_8 ?_
        refine lv_iload_n hx hb dX4_goUp_11 rfl (lv_at hl 1 rfl) ?_
        refine lv_iconst (v := -1) hx hb dX4_goUp_12 (by decide) ?_
        obtain ⟨f6, ex, hm⟩ := g_bind hm
        refine w_ast hx hb hK hP hD hS 4 0 rfl rfl ex dX4_goUp_13 (fun H7 locs7 hP hD hS => ?_)
        have hP : va_P (dC, dI) vwCl (wB A_x A_d A_mh A_jh A_ha A_da A_ma A_ja K_ha K_da K_ma K_ja f6 c_da c_ma c_ja c_up c_fu) H7 := hP
        have hD : va_D A (wB A_x A_d A_mh A_jh A_ha A_da A_ma A_ja K_ha K_da K_ma K_ja f6 c_da c_ma c_ja c_up c_fu) := hD
        refine lv_iinc (v := (y1 + (1 : Int32))) (lv' := [(1, .int (y1 + (1 : Int32))), (0, .ref A_x)]) hx hb dX4_goUp_14 hl (k := 1) rfl rfl (by decide) rfl (fun ls hl => ?_)
        refine lv_goto (tgt := 2) hx hb dX4_goUp_17 (by decide) ?_
        cases hm
        exact ih _ _ hy _ _ hP hD hS _ (lv_sub hl [1, 0] rfl)
  exact hL4 _ _ _ hlp _ _ hP hD hS _ (lv_sub hl [1, 0] rfl)
theorem hi_X4_startAfresh_X4 : ∀ w ∈ wsX40, w ∈ wsX4_startAfresh := by decide +kernel
theorem hk_X4_startAfresh_10 : Cond.fieldLink RX4 10 "BuddyFiles" "disk" "LBuddyFiles$Disk;" ∈ wsX4_startAfresh := by decide +kernel
theorem hk_X4_startAfresh_19 : Cond.fieldLink RX4 19 "BuddyFiles" "memory" "LBuddyFiles$Home;" ∈ wsX4_startAfresh := by decide +kernel
theorem hi_X4_startAfresh_X1 : ∀ w ∈ wsX10, w ∈ wsX4_startAfresh := by decide +kernel
theorem hk_X4_startAfresh_125 : Cond.fieldLink RX4 125 "BuddyFiles$Disk" "cells" "[I" ∈ wsX4_startAfresh := by decide +kernel
abbrev rm_X4_startAfresh : Room := { frames := 2, cells := 0, slots := 0, locals := 81 }
set_option maxHeartbeats 4000000 in
set_option maxRecDepth 100000 in
theorem k_X4_startAfresh (l : Launch) (dC : Nat → ClassId) (dI : Nat → Nat → Nat) (A_x A_d A_mh A_jh A_ha A_da A_ma A_ja : Nat) (K_ha K_da K_ma K_ja : ClassId) (c_ha c_da c_ma c_ja : Nat → Int32) (c_up c_fu : Int32) (sz : Nat)  (o_ha : (Nat → Int32)) (o_da : (Nat → Int32)) (o_ma : (Nat → Int32)) (o_up : Int32) (o_fu : Int32) (hm : m_X4_startAfresh c_ha c_da c_ma c_up c_fu = some (o_ha, o_da, o_ma, o_up, o_fu)) : Met l yX4_startAfresh wsX4_startAfresh rm_X4_startAfresh (va_Pc [.ref A_x] (fun U => U.heap.size = sz ∧ va_P (dC, dI) vwCl (wB A_x A_d A_mh A_jh A_ha A_da A_ma A_ja K_ha K_da K_ma K_ja c_ha c_da c_ma c_ja c_up c_fu) U.heap ∧ va_K (dC, dI) vwCl (tB K_ha K_da K_ma K_ja) U ∧ va_D (fun _ => True) (wB A_x A_d A_mh A_jh A_ha A_da A_ma A_ja K_ha K_da K_ma K_ja c_ha c_da c_ma c_ja c_up c_fu))) (va_Qv (fun (_ : Unit) => True) (fun _ t => va_P (dC, dI) vwCl (wB A_x A_d A_mh A_jh A_ha A_da A_ma A_ja K_ha K_da K_ma K_ja o_ha o_da o_ma c_ja o_up o_fu) t.heap ∧ va_D (va_A (wB A_x A_d A_mh A_jh A_ha A_da A_ma A_ja K_ha K_da K_ma K_ja c_ha c_da c_ma c_ja c_up c_fu) sz) (wB A_x A_d A_mh A_jh A_ha A_da A_ma A_ja K_ha K_da K_ma K_ja o_ha o_da o_ma c_ja o_up o_fu)) (va_A (wB A_x A_d A_mh A_jh A_ha A_da A_ma A_ja K_ha K_da K_ma K_ja c_ha c_da c_ma c_ja c_up c_fu) sz)) 0 0 (va_A (wB A_x A_d A_mh A_jh A_ha A_da A_ma A_ja K_ha K_da K_ma K_ja c_ha c_da c_ma c_ja c_up c_fu) sz) := by
  refine Met.ofW (cc := cX4_startAfresh) (maxL := 1) (ret := (none)) (by decide) rfl ?_
  intro p e s m args below meth c s₁ B hml hv
  obtain ⟨rfl, hsz, hP, hK, hD0⟩ := hv
  have hx := B.exec
  have hb := B.bytes
  have hr := B.returns
  have hts := atoms_spec (ws := wsX4_startAfresh) B.pre
  have hown : s.vm.findClass RX4 = some m.cls := findClass_of_methodNamed B.named
  have hlocks := B.notSynchronized
  subst hsz
  have hD := hD0.self (sz := s.heap.size)
  generalize hAe : va_A (wB A_x A_d A_mh A_jh A_ha A_da A_ma A_ja K_ha K_da K_ma K_ja c_ha c_da c_ma c_ja c_up c_fu) s.heap.size = A at hD ⊢
  have hA : ∀ q : Nat, s.heap.size ≤ q → A q := fun q h => by rw [← hAe]; exact Or.inr h
  have hS : va_S A s.heap s.heap [] := va_S.rf
  have hP : va_P (dC, dI) vwCl (wB A_x A_d A_mh A_jh A_ha A_da A_ma A_ja K_ha K_da K_ma K_ja c_ha c_da c_ma c_ja c_up c_fu) s.heap := hP
  have hl := lv_entry ([.ref A_x]) (n := 1) (Nat.le_of_ble_eq_true rfl)
  rw [lg_entry_eq]
  generalize (lg_sl ([.ref A_x]) ++ List.replicate (1 - (lg_sl ([.ref A_x])).length) Slot.unset).toArray = ls at hl ⊢
  have hl : lv_has ls 1 [(0, .ref A_x)] := hl
  refine w_name (fun Q hQ => ?_)
  unfold m_X4_startAfresh at hm
  refine lv_aload_n hx hb dX4_startAfresh_0 rfl (lv_at hl 0 rfl) ?_
  refine va_get (D := (dC, dI)) (ci := 2) (v := .ref A_d) (C := RX4) (T := TX4) (N := 6) hx hb hts hi_X4_startAfresh_X4 hown hK hP 0 rfl rfl 0 (by decide) (hts (Cond.fieldLink RX4 10 "BuddyFiles" "disk" "LBuddyFiles$Disk;") hk_X4_startAfresh_10) (fun _ h9 => h9) rfl dX4_startAfresh_1 ?_
  obtain ⟨f1, ex, hm⟩ := g_bind hm
  have hPc := hP.sub (ws' := (wD A_d A_da K_da c_da)) [1, 5] rfl
  have hDc := hD.sub (ws' := (wD A_d A_da K_da c_da)) [1, 5] (by decide) rfl
  have hKc := hK.sub (tys' := (tD K_da)) [1] rfl
  have hFc := va_free (wc := (wD A_d A_da K_da c_da)) hD hS hA [1, 5] rfl
  refine va_callv (va_runV (As := []) (rest := []) ⟨hx, hb, hml, hown, hts⟩ (k_X1_clear l dC dI A_d A_da K_da c_da s.heap.size  _ ex) (cwV 0 hts gX4_startAfresh_X1_clear rfl rfl rfl (by decide +kernel) ⟨Nat.le_of_ble_eq_true rfl, Nat.le_of_ble_eq_true rfl⟩) ⟨w_blW, va_recv hKc hPc (ci := 0) (q0 := 0) rfl rfl, fun U hU hW => ⟨rfl, by rw [hU], by rw [hU]; exact hPc, va_K.moved hW.alike hKc, hDc.weaken (fun _ _ _ _ => trivial)⟩⟩ rfl rfl hl.1 rfl (lv_room (Nat.le_of_ble_eq_true rfl)) dX4_startAfresh_4 ⟨Nat.zero_le _, Nat.zero_le _⟩) hS (fun q _ h => hFc q h) hFc (fun _ t H2 locs2 ht hvm hw hB hz1 hk1 hS => ?_)
  refine W.widen (k := 0) (n := 0) (Nat.le_refl 0) (Nat.le_refl 0) ?_
  obtain ⟨hP1, hD1⟩ := hB
  rw [ht] at hP1
  obtain ⟨hP, hD⟩ := va_join (wr := [(A_x, .inr (2, [.ref A_d, .ref A_mh, .ref A_jh, .ref A_ha, .int c_up, .int c_fu])), (A_mh, .inr (1, [.ref A_ma])), (A_jh, .inr (1, [.ref A_ja])), (A_ha, .inl (K_ha, 4, .inl c_ha)), (A_ma, .inl (K_ma, 110, .inl c_ma)), (A_ja, .inl (K_ja, 110, .inl c_ja))]) (w1 := (wD A_d A_da K_da f1)) hP hD [1, 5] [0, 2, 3, 4, 6, 7] rfl rfl (by decide) (by decide) hk1 hFc hP1 hD1
  have hP : va_P (dC, dI) vwCl (wB A_x A_d A_mh A_jh A_ha A_da A_ma A_ja K_ha K_da K_ma K_ja c_ha f1 c_ma c_ja c_up c_fu) H2 := hP.sub [0, 6, 1, 2, 3, 7, 4, 5] rfl
  have hD : va_D A (wB A_x A_d A_mh A_jh A_ha A_da A_ma A_ja K_ha K_da K_ma K_ja c_ha f1 c_ma c_ja c_up c_fu) := hD.sub [0, 6, 1, 2, 3, 7, 4, 5] (by decide) rfl
  refine lv_aload_n hx hb dX4_startAfresh_7 rfl (lv_at hl 0 rfl) ?_
  refine va_get (D := (dC, dI)) (ci := 2) (v := .ref A_mh) (C := RX4) (T := TX4) (N := 6) hx hb hts hi_X4_startAfresh_X4 hown hK hP 0 rfl rfl 1 (by decide) (hts (Cond.fieldLink RX4 19 "BuddyFiles" "memory" "LBuddyFiles$Home;") hk_X4_startAfresh_19) (fun _ h9 => h9) rfl dX4_startAfresh_8 ?_
  refine lv_aload_n hx hb dX4_startAfresh_11 rfl (lv_at hl 0 rfl) ?_
  refine va_get (D := (dC, dI)) (ci := 2) (v := .ref A_d) (C := RX4) (T := TX4) (N := 6) hx hb hts hi_X4_startAfresh_X4 hown hK hP 0 rfl rfl 0 (by decide) (hts (Cond.fieldLink RX4 10 "BuddyFiles" "disk" "LBuddyFiles$Disk;") hk_X4_startAfresh_10) (fun _ h9 => h9) rfl dX4_startAfresh_12 ?_
  refine va_get (D := (dC, dI)) (ci := 0) (v := .ref A_da) (C := RX1) (T := TX1) (N := 1) hx hb hts hi_X4_startAfresh_X1 hown hK hP 1 rfl rfl 0 (by decide) (hts (Cond.fieldLink RX4 125 "BuddyFiles$Disk" "cells" "[I") hk_X4_startAfresh_125) (fun _ h9 => h9) rfl dX4_startAfresh_15 ?_
  obtain ⟨f3, ex, hm⟩ := g_bind hm
  have hPc := hP.sub (ws' := (wHD A_mh A_ma A_da K_ma K_da c_ma f1)) [2, 6, 5] rfl
  have hDc := hD.sub (ws' := (wHD A_mh A_ma A_da K_ma K_da c_ma f1)) [2, 6, 5] (by decide) rfl
  have hKc := hK.sub (tys' := (tHD K_ma K_da)) [2, 1] rfl
  have hFc := va_free (wc := (wHD A_mh A_ma A_da K_ma K_da c_ma f1)) hD hS hA [2, 6, 5] rfl
  refine va_callv (va_runV (As := [.ref A_da]) (rest := []) ⟨hx, hb, hml, hown, hts⟩ (k_X2_copyFrom l dC dI A_mh A_ma A_da K_ma K_da c_ma f1 H2.size  _ ex) (cwV 1 hts gX4_startAfresh_X2_copyFrom rfl rfl rfl (by decide +kernel) ⟨Nat.le_of_ble_eq_true rfl, Nat.le_of_ble_eq_true rfl⟩) ⟨w_blW, va_recv hKc hPc (ci := 1) (q0 := 0) rfl rfl, fun U hU hW => ⟨rfl, by rw [hU], by rw [hU]; exact hPc, va_K.moved hW.alike hKc, hDc.weaken (fun _ _ _ _ => trivial)⟩⟩ rfl rfl hl.1 rfl (lv_room (Nat.le_of_ble_eq_true rfl)) dX4_startAfresh_18 ⟨Nat.zero_le _, Nat.zero_le _⟩) hS (fun q _ h => hFc q h) hFc (fun _ t H4 locs4 ht hvm hw hB hz1 hk1 hS => ?_)
  refine W.widen (k := 0) (n := 0) (Nat.le_refl 0) (Nat.le_refl 0) ?_
  obtain ⟨hP1, hD1⟩ := hB
  rw [ht] at hP1
  obtain ⟨hP, hD⟩ := va_join (wr := [(A_x, .inr (2, [.ref A_d, .ref A_mh, .ref A_jh, .ref A_ha, .int c_up, .int c_fu])), (A_d, .inr (0, [.ref A_da])), (A_jh, .inr (1, [.ref A_ja])), (A_ha, .inl (K_ha, 4, .inl c_ha)), (A_ja, .inl (K_ja, 110, .inl c_ja))]) (w1 := (wHD A_mh A_ma A_da K_ma K_da f3 f1)) hP hD [2, 6, 5] [0, 1, 3, 4, 7] rfl rfl (by decide) (by decide) hk1 hFc hP1 hD1
  have hP : va_P (dC, dI) vwCl (wB A_x A_d A_mh A_jh A_ha A_da A_ma A_ja K_ha K_da K_ma K_ja c_ha f1 f3 c_ja c_up c_fu) H4 := hP.sub [0, 1, 5, 2, 3, 7, 6, 4] rfl
  have hD : va_D A (wB A_x A_d A_mh A_jh A_ha A_da A_ma A_ja K_ha K_da K_ma K_ja c_ha f1 f3 c_ja c_up c_fu) := hD.sub [0, 1, 5, 2, 3, 7, 6, 4] (by decide) rfl
  refine lv_aload_n hx hb dX4_startAfresh_21 rfl (lv_at hl 0 rfl) ?_
  obtain ⟨⟨f5, f6, f7⟩, ex, hm⟩ := g_bind hm
  have hm := g_k3_s hm
  have hPc := hP.sub (ws' := (wB A_x A_d A_mh A_jh A_ha A_da A_ma A_ja K_ha K_da K_ma K_ja c_ha f1 f3 c_ja c_up c_fu)) [0, 1, 2, 3, 4, 5, 6, 7] rfl
  have hDc := hD.sub (ws' := (wB A_x A_d A_mh A_jh A_ha A_da A_ma A_ja K_ha K_da K_ma K_ja c_ha f1 f3 c_ja c_up c_fu)) [0, 1, 2, 3, 4, 5, 6, 7] (by decide) rfl
  have hKc := hK.sub (tys' := (tB K_ha K_da K_ma K_ja)) [0, 1, 2, 3] rfl
  have hFc := va_free (wc := (wB A_x A_d A_mh A_jh A_ha A_da A_ma A_ja K_ha K_da K_ma K_ja c_ha f1 f3 c_ja c_up c_fu)) hD hS hA [0, 1, 2, 3, 4, 5, 6, 7] rfl
  refine va_callv (va_runV (As := []) (rest := []) ⟨hx, hb, hml, hown, hts⟩ (k_X4_goUp l dC dI A_x A_d A_mh A_jh A_ha A_da A_ma A_ja K_ha K_da K_ma K_ja c_ha f1 f3 c_ja c_up c_fu H4.size  _ _ _ ex) (cwV 0 hts gX4_startAfresh_X4_goUp rfl rfl rfl (by decide +kernel) ⟨Nat.le_of_ble_eq_true rfl, Nat.le_of_ble_eq_true rfl⟩) ⟨w_blW, va_recv hKc hPc (ci := 2) (q0 := 0) rfl rfl, fun U hU hW => ⟨rfl, by rw [hU], by rw [hU]; exact hPc, va_K.moved hW.alike hKc, hDc.weaken (fun _ _ _ _ => trivial)⟩⟩ rfl rfl hl.1 rfl (lv_room (Nat.le_of_ble_eq_true rfl)) dX4_startAfresh_22 ⟨Nat.zero_le _, Nat.zero_le _⟩) hS (fun q _ h => hFc q h) hFc (fun _ t H8 locs8 ht hvm hw hB hz1 hk1 hS => ?_)
  refine W.widen (k := 0) (n := 0) (Nat.le_refl 0) (Nat.le_refl 0) ?_
  obtain ⟨hP1, hD1⟩ := hB
  rw [ht] at hP1
  obtain ⟨hP, hD⟩ := va_join (wr := []) (w1 := (wB A_x A_d A_mh A_jh A_ha A_da A_ma A_ja K_ha K_da K_ma K_ja f5 f1 f3 c_ja f6 f7)) hP hD [0, 1, 2, 3, 4, 5, 6, 7] [] rfl rfl (by decide) (by decide) hk1 hFc hP1 hD1
  have hP : va_P (dC, dI) vwCl (wB A_x A_d A_mh A_jh A_ha A_da A_ma A_ja K_ha K_da K_ma K_ja f5 f1 f3 c_ja f6 f7) H8 := hP.sub [0, 1, 2, 3, 4, 5, 6, 7] rfl
  have hD : va_D A (wB A_x A_d A_mh A_jh A_ha A_da A_ma A_ja K_ha K_da K_ma K_ja f5 f1 f3 c_ja f6 f7) := hD.sub [0, 1, 2, 3, 4, 5, 6, 7] (by decide) rfl
  cases hm
  subst hQ
  exact W.vret hx hb hr (fun t ht hW => ⟨⟨(), rfl, trivial, by rw [ht]; exact hP, hD⟩, hS.F ht⟩) hS.2.2 dX4_startAfresh_25
abbrev rm_X4_format : Room := { frames := 3, cells := 0, slots := 0, locals := 101 }
set_option maxHeartbeats 4000000 in
set_option maxRecDepth 100000 in
theorem k_X4_format (l : Launch) (dC : Nat → ClassId) (dI : Nat → Nat → Nat) (A_x A_d A_mh A_jh A_ha A_da A_ma A_ja : Nat) (K_ha K_da K_ma K_ja : ClassId) (c_ha c_da c_ma c_ja : Nat → Int32) (c_up c_fu : Int32) (sz : Nat)  (o_ha : (Nat → Int32)) (o_da : (Nat → Int32)) (o_ma : (Nat → Int32)) (o_up : Int32) (o_fu : Int32) (hm : m_X4_format c_ha c_da c_ma c_up c_fu = some (o_ha, o_da, o_ma, o_up, o_fu)) : Met l yX4_format wsX4_format rm_X4_format (va_Pc [.ref A_x] (fun U => U.heap.size = sz ∧ va_P (dC, dI) vwCl (wB A_x A_d A_mh A_jh A_ha A_da A_ma A_ja K_ha K_da K_ma K_ja c_ha c_da c_ma c_ja c_up c_fu) U.heap ∧ va_K (dC, dI) vwCl (tB K_ha K_da K_ma K_ja) U ∧ va_D (fun _ => True) (wB A_x A_d A_mh A_jh A_ha A_da A_ma A_ja K_ha K_da K_ma K_ja c_ha c_da c_ma c_ja c_up c_fu))) (va_Qv (fun (_ : Unit) => True) (fun _ t => va_P (dC, dI) vwCl (wB A_x A_d A_mh A_jh A_ha A_da A_ma A_ja K_ha K_da K_ma K_ja o_ha o_da o_ma c_ja o_up o_fu) t.heap ∧ va_D (va_A (wB A_x A_d A_mh A_jh A_ha A_da A_ma A_ja K_ha K_da K_ma K_ja c_ha c_da c_ma c_ja c_up c_fu) sz) (wB A_x A_d A_mh A_jh A_ha A_da A_ma A_ja K_ha K_da K_ma K_ja o_ha o_da o_ma c_ja o_up o_fu)) (va_A (wB A_x A_d A_mh A_jh A_ha A_da A_ma A_ja K_ha K_da K_ma K_ja c_ha c_da c_ma c_ja c_up c_fu) sz)) 0 0 (va_A (wB A_x A_d A_mh A_jh A_ha A_da A_ma A_ja K_ha K_da K_ma K_ja c_ha c_da c_ma c_ja c_up c_fu) sz) := by
  refine Met.ofW (cc := cX4_format) (maxL := 1) (ret := (none)) (by decide) rfl ?_
  intro p e s m args below meth c s₁ B hml hv
  obtain ⟨rfl, hsz, hP, hK, hD0⟩ := hv
  have hx := B.exec
  have hb := B.bytes
  have hr := B.returns
  have hts := atoms_spec (ws := wsX4_format) B.pre
  have hown : s.vm.findClass RX4 = some m.cls := findClass_of_methodNamed B.named
  have hlocks := B.notSynchronized
  subst hsz
  have hD := hD0.self (sz := s.heap.size)
  generalize hAe : va_A (wB A_x A_d A_mh A_jh A_ha A_da A_ma A_ja K_ha K_da K_ma K_ja c_ha c_da c_ma c_ja c_up c_fu) s.heap.size = A at hD ⊢
  have hA : ∀ q : Nat, s.heap.size ≤ q → A q := fun q h => by rw [← hAe]; exact Or.inr h
  have hS : va_S A s.heap s.heap [] := va_S.rf
  have hP : va_P (dC, dI) vwCl (wB A_x A_d A_mh A_jh A_ha A_da A_ma A_ja K_ha K_da K_ma K_ja c_ha c_da c_ma c_ja c_up c_fu) s.heap := hP
  have hl := lv_entry ([.ref A_x]) (n := 1) (Nat.le_of_ble_eq_true rfl)
  rw [lg_entry_eq]
  generalize (lg_sl ([.ref A_x]) ++ List.replicate (1 - (lg_sl ([.ref A_x])).length) Slot.unset).toArray = ls at hl ⊢
  have hl : lv_has ls 1 [(0, .ref A_x)] := hl
  refine w_name (fun Q hQ => ?_)
  unfold m_X4_format at hm
  refine lv_aload_n hx hb dX4_format_0 rfl (lv_at hl 0 rfl) ?_
  obtain ⟨⟨f1, f2, f3, f4, f5⟩, ex, hm⟩ := g_bind hm
  have hm := g_k5_s hm
  have hPc := hP.sub (ws' := (wB A_x A_d A_mh A_jh A_ha A_da A_ma A_ja K_ha K_da K_ma K_ja c_ha c_da c_ma c_ja c_up c_fu)) [0, 1, 2, 3, 4, 5, 6, 7] rfl
  have hDc := hD.sub (ws' := (wB A_x A_d A_mh A_jh A_ha A_da A_ma A_ja K_ha K_da K_ma K_ja c_ha c_da c_ma c_ja c_up c_fu)) [0, 1, 2, 3, 4, 5, 6, 7] (by decide) rfl
  have hKc := hK.sub (tys' := (tB K_ha K_da K_ma K_ja)) [0, 1, 2, 3] rfl
  have hFc := va_free (wc := (wB A_x A_d A_mh A_jh A_ha A_da A_ma A_ja K_ha K_da K_ma K_ja c_ha c_da c_ma c_ja c_up c_fu)) hD hS hA [0, 1, 2, 3, 4, 5, 6, 7] rfl
  refine va_callv (va_runV (As := []) (rest := []) ⟨hx, hb, hml, hown, hts⟩ (k_X4_startAfresh l dC dI A_x A_d A_mh A_jh A_ha A_da A_ma A_ja K_ha K_da K_ma K_ja c_ha c_da c_ma c_ja c_up c_fu s.heap.size  _ _ _ _ _ ex) (cwV 0 hts gX4_format_X4_startAfresh rfl rfl rfl (by decide +kernel) ⟨Nat.le_of_ble_eq_true rfl, Nat.le_of_ble_eq_true rfl⟩) ⟨w_blW, va_recv hKc hPc (ci := 2) (q0 := 0) rfl rfl, fun U hU hW => ⟨rfl, by rw [hU], by rw [hU]; exact hPc, va_K.moved hW.alike hKc, hDc.weaken (fun _ _ _ _ => trivial)⟩⟩ rfl rfl hl.1 rfl (lv_room (Nat.le_of_ble_eq_true rfl)) dX4_format_1 ⟨Nat.zero_le _, Nat.zero_le _⟩) hS (fun q _ h => hFc q h) hFc (fun _ t H6 locs6 ht hvm hw hB hz1 hk1 hS => ?_)
  refine W.widen (k := 0) (n := 0) (Nat.le_refl 0) (Nat.le_refl 0) ?_
  obtain ⟨hP1, hD1⟩ := hB
  rw [ht] at hP1
  obtain ⟨hP, hD⟩ := va_join (wr := []) (w1 := (wB A_x A_d A_mh A_jh A_ha A_da A_ma A_ja K_ha K_da K_ma K_ja f1 f2 f3 c_ja f4 f5)) hP hD [0, 1, 2, 3, 4, 5, 6, 7] [] rfl rfl (by decide) (by decide) hk1 hFc hP1 hD1
  have hP : va_P (dC, dI) vwCl (wB A_x A_d A_mh A_jh A_ha A_da A_ma A_ja K_ha K_da K_ma K_ja f1 f2 f3 c_ja f4 f5) H6 := hP.sub [0, 1, 2, 3, 4, 5, 6, 7] rfl
  have hD : va_D A (wB A_x A_d A_mh A_jh A_ha A_da A_ma A_ja K_ha K_da K_ma K_ja f1 f2 f3 c_ja f4 f5) := hD.sub [0, 1, 2, 3, 4, 5, 6, 7] (by decide) rfl
  cases hm
  subst hQ
  exact W.vret hx hb hr (fun t ht hW => ⟨⟨(), rfl, trivial, by rw [ht]; exact hP, hD⟩, hS.F ht⟩) hS.2.2 dX4_format_4
abbrev rm_X4_isName : Room := { frames := 0, cells := 0, slots := 0, locals := 0 }
set_option maxHeartbeats 4000000 in
set_option maxRecDepth 100000 in
theorem k_X4_isName (l : Launch)  (p0 : Int32) (r0 : Int32) (hm : m_X4_isName p0 = some r0) : Met l yX4_isName wsX4_isName rm_X4_isName (va_Pc [.int p0] (fun _ => True)) (vp_Si (fun r => r0 = r)) 0 0 (fun _ => False) := by
  refine Met.ofW (cc := cX4_isName) (maxL := 1) (ret := (some .boolean)) (by decide) rfl ?_
  intro p e s m args below meth c s₁ B hml hv
  obtain ⟨rfl, -⟩ := hv
  have hx := B.exec
  have hb := B.bytes
  have hr := B.returns
  have hts := atoms_spec (ws := wsX4_isName) B.pre
  have hown : s.vm.findClass RX4 = some m.cls := findClass_of_methodNamed B.named
  have hlocks := B.notSynchronized
  have hl := lv_entry ([.int p0]) (n := 1) (Nat.le_of_ble_eq_true rfl)
  rw [lg_entry_eq]
  generalize (lg_sl ([.int p0]) ++ List.replicate (1 - (lg_sl ([.int p0])).length) Slot.unset).toArray = ls at hl ⊢
  have hl : lv_has ls 1 [(0, .int p0)] := hl
  refine w_name (fun Q hQ => ?_)
  unfold m_X4_isName at hm
  refine lv_iload_n hx hb dX4_isName_0 rfl (lv_at hl 0 rfl) ?_
  refine lv_iconst (v := 1) hx hb dX4_isName_1 (by decide) ?_
  refine lv_icmp_lt (tgt := 15) hx hb dX4_isName_2 (by decide) (fun c1 => ?_) (fun c1 => ?_)
  · have hm := g_t c1 hm
    refine lv_iconst (v := 0) hx hb dX4_isName_15 (by decide) ?_
    cases hm
    subst hQ
    exact W.zret hx hb hr rfl (fun t ht hW => ⟨_, rfl, rfl, ht⟩) (fun _ h => nomatch h) dX4_isName_16
  · have hm := g_f c1 hm
    refine lv_iload_n hx hb dX4_isName_5 rfl (lv_at hl 0 rfl) ?_
    refine lv_bipush (v := 99) hx hb dX4_isName_6 (by decide) ?_
    refine lv_icmp_gt (tgt := 15) hx hb dX4_isName_8 (by decide) (fun c2 => ?_) (fun c2 => ?_)
    · have hm := g_t c2 hm
      refine lv_iconst (v := 0) hx hb dX4_isName_15 (by decide) ?_
      cases hm
      subst hQ
      exact W.zret hx hb hr rfl (fun t ht hW => ⟨_, rfl, rfl, ht⟩) (fun _ h => nomatch h) dX4_isName_16
    · have hm := g_f c2 hm
      refine lv_iconst (v := 1) hx hb dX4_isName_11 (by decide) ?_
      refine lv_goto (tgt := 16) hx hb dX4_isName_12 (by decide) ?_
      cases hm
      subst hQ
      exact W.zret hx hb hr rfl (fun t ht hW => ⟨_, rfl, rfl, ht⟩) (fun _ h => nomatch h) dX4_isName_16
abbrev rm_X4_isOwner : Room := { frames := 0, cells := 0, slots := 0, locals := 0 }
set_option maxHeartbeats 4000000 in
set_option maxRecDepth 100000 in
theorem k_X4_isOwner (l : Launch)  (p0 : Int32) (r0 : Int32) (hm : m_X4_isOwner p0 = some r0) : Met l yX4_isOwner wsX4_isOwner rm_X4_isOwner (va_Pc [.int p0] (fun _ => True)) (vp_Si (fun r => r0 = r)) 0 0 (fun _ => False) := by
  refine Met.ofW (cc := cX4_isOwner) (maxL := 1) (ret := (some .boolean)) (by decide) rfl ?_
  intro p e s m args below meth c s₁ B hml hv
  obtain ⟨rfl, -⟩ := hv
  have hx := B.exec
  have hb := B.bytes
  have hr := B.returns
  have hts := atoms_spec (ws := wsX4_isOwner) B.pre
  have hown : s.vm.findClass RX4 = some m.cls := findClass_of_methodNamed B.named
  have hlocks := B.notSynchronized
  have hl := lv_entry ([.int p0]) (n := 1) (Nat.le_of_ble_eq_true rfl)
  rw [lg_entry_eq]
  generalize (lg_sl ([.int p0]) ++ List.replicate (1 - (lg_sl ([.int p0])).length) Slot.unset).toArray = ls at hl ⊢
  have hl : lv_has ls 1 [(0, .int p0)] := hl
  refine w_name (fun Q hQ => ?_)
  unfold m_X4_isOwner at hm
  refine lv_iload_n hx hb dX4_isOwner_0 rfl (lv_at hl 0 rfl) ?_
  refine lv_if_lt (tgt := 13) hx hb dX4_isOwner_1 (by decide) (fun c1 => ?_) (fun c1 => ?_)
  · have hm := g_t c1 hm
    refine lv_iconst (v := 0) hx hb dX4_isOwner_13 (by decide) ?_
    cases hm
    subst hQ
    exact W.zret hx hb hr rfl (fun t ht hW => ⟨_, rfl, rfl, ht⟩) (fun _ h => nomatch h) dX4_isOwner_14
  · have hm := g_f c1 hm
    refine lv_iload_n hx hb dX4_isOwner_4 rfl (lv_at hl 0 rfl) ?_
    refine lv_iconst (v := 3) hx hb dX4_isOwner_5 (by decide) ?_
    refine lv_icmp_ge (tgt := 13) hx hb dX4_isOwner_6 (by decide) (fun c2 => ?_) (fun c2 => ?_)
    · have hm := g_t c2 hm
      refine lv_iconst (v := 0) hx hb dX4_isOwner_13 (by decide) ?_
      cases hm
      subst hQ
      exact W.zret hx hb hr rfl (fun t ht hW => ⟨_, rfl, rfl, ht⟩) (fun _ h => nomatch h) dX4_isOwner_14
    · have hm := g_f c2 hm
      refine lv_iconst (v := 1) hx hb dX4_isOwner_9 (by decide) ?_
      refine lv_goto (tgt := 14) hx hb dX4_isOwner_10 (by decide) ?_
      cases hm
      subst hQ
      exact W.zret hx hb hr rfl (fun t ht hW => ⟨_, rfl, rfl, ht⟩) (fun _ h => nomatch h) dX4_isOwner_14
theorem hi_X4_create_X4 : ∀ w ∈ wsX40, w ∈ wsX4_create := by decide +kernel
theorem hk_X4_create_33 : Cond.fieldLink RX4 33 "BuddyFiles" "up" "Z" ∈ wsX4_create := by decide +kernel
theorem hk_X4_create_19 : Cond.fieldLink RX4 19 "BuddyFiles" "memory" "LBuddyFiles$Home;" ∈ wsX4_create := by decide +kernel
abbrev rm_X4_create : Room := { frames := 2, cells := 0, slots := 0, locals := 43 }
set_option maxHeartbeats 4000000 in
set_option maxRecDepth 100000 in
theorem k_X4_create (l : Launch) (dC : Nat → ClassId) (dI : Nat → Nat → Nat) (A_x A_d A_mh A_jh A_ha A_da A_ma A_ja : Nat) (K_ha K_da K_ma K_ja : ClassId) (c_ha c_da c_ma c_ja : Nat → Int32) (c_up c_fu : Int32) (sz : Nat) (p1 : Int32) (p2 : Int32) (r0 : Int32) (o_ma : (Nat → Int32)) (hm : m_X4_create c_ma c_up p1 p2 = some (r0, o_ma)) : Met l yX4_create wsX4_create rm_X4_create (va_Pc [.ref A_x, .int p1, .int p2] (fun U => U.heap.size = sz ∧ va_P (dC, dI) vwCl (wB A_x A_d A_mh A_jh A_ha A_da A_ma A_ja K_ha K_da K_ma K_ja c_ha c_da c_ma c_ja c_up c_fu) U.heap ∧ va_K (dC, dI) vwCl (tB K_ha K_da K_ma K_ja) U ∧ va_D (fun _ => True) (wB A_x A_d A_mh A_jh A_ha A_da A_ma A_ja K_ha K_da K_ma K_ja c_ha c_da c_ma c_ja c_up c_fu))) (va_Qi (fun (r : Int32) (_ : Unit) => r0 = r) (fun _ t => va_P (dC, dI) vwCl (wB A_x A_d A_mh A_jh A_ha A_da A_ma A_ja K_ha K_da K_ma K_ja c_ha c_da o_ma c_ja c_up c_fu) t.heap ∧ va_D (va_A (wB A_x A_d A_mh A_jh A_ha A_da A_ma A_ja K_ha K_da K_ma K_ja c_ha c_da c_ma c_ja c_up c_fu) sz) (wB A_x A_d A_mh A_jh A_ha A_da A_ma A_ja K_ha K_da K_ma K_ja c_ha c_da o_ma c_ja c_up c_fu)) (va_A (wB A_x A_d A_mh A_jh A_ha A_da A_ma A_ja K_ha K_da K_ma K_ja c_ha c_da c_ma c_ja c_up c_fu) sz)) 0 0 (va_A (wB A_x A_d A_mh A_jh A_ha A_da A_ma A_ja K_ha K_da K_ma K_ja c_ha c_da c_ma c_ja c_up c_fu) sz) := by
  refine Met.ofW (cc := cX4_create) (maxL := 4) (ret := (some .int)) (by decide) rfl ?_
  intro p e s m args below meth c s₁ B hml hv
  obtain ⟨rfl, hsz, hP, hK, hD0⟩ := hv
  have hx := B.exec
  have hb := B.bytes
  have hr := B.returns
  have hts := atoms_spec (ws := wsX4_create) B.pre
  have hown : s.vm.findClass RX4 = some m.cls := findClass_of_methodNamed B.named
  have hlocks := B.notSynchronized
  subst hsz
  have hD := hD0.self (sz := s.heap.size)
  generalize hAe : va_A (wB A_x A_d A_mh A_jh A_ha A_da A_ma A_ja K_ha K_da K_ma K_ja c_ha c_da c_ma c_ja c_up c_fu) s.heap.size = A at hD ⊢
  have hA : ∀ q : Nat, s.heap.size ≤ q → A q := fun q h => by rw [← hAe]; exact Or.inr h
  have hS : va_S A s.heap s.heap [] := va_S.rf
  have hP : va_P (dC, dI) vwCl (wB A_x A_d A_mh A_jh A_ha A_da A_ma A_ja K_ha K_da K_ma K_ja c_ha c_da c_ma c_ja c_up c_fu) s.heap := hP
  have hl := lv_entry ([.ref A_x, .int p1, .int p2]) (n := 4) (Nat.le_of_ble_eq_true rfl)
  rw [lg_entry_eq]
  generalize (lg_sl ([.ref A_x, .int p1, .int p2]) ++ List.replicate (4 - (lg_sl ([.ref A_x, .int p1, .int p2])).length) Slot.unset).toArray = ls at hl ⊢
  have hl : lv_has ls 4 [(0, .ref A_x), (1, .int p1), (2, .int p2)] := hl
  refine w_name (fun Q hQ => ?_)
  unfold m_X4_create at hm
  refine lv_aload_n hx hb dX4_create_0 rfl (lv_at hl 0 rfl) ?_
  refine va_get (D := (dC, dI)) (ci := 2) (v := .int c_up) (C := RX4) (T := TX4) (N := 6) hx hb hts hi_X4_create_X4 hown hK hP 0 rfl rfl 4 (by decide) (hts (Cond.fieldLink RX4 33 "BuddyFiles" "up" "Z") hk_X4_create_33) (fun _ h9 => h9) rfl dX4_create_1 ?_
  refine lv_if_ne (tgt := 10) hx hb dX4_create_4 (by decide) (fun c1 => ?_) (fun c1 => ?_)
  · have hm := g_f c1 hm
    refine lv_iload_n hx hb dX4_create_10 rfl (lv_at hl 1 rfl) ?_
    obtain ⟨x2, ex, hm⟩ := g_bind hm
    refine vp_callSi (W.runS (As := [.int p1]) (rest := []) ⟨hx, hb, hml, hown, hts⟩ (k_X4_isName l  p1 _ ex) (va_cwS 1 hts gX4_create_X4_isName rfl rfl rfl (by decide +kernel) ⟨Nat.le_of_ble_eq_true rfl, Nat.le_of_ble_eq_true rfl⟩) ⟨w_bl0, fun U hU hW => ⟨rfl, trivial⟩⟩ rfl rfl hl.1 rfl (lv_room (Nat.le_of_ble_eq_true rfl)) dX4_create_11 ⟨Nat.zero_le _, Nat.zero_le _⟩) (fun _ ey => ?_)
    subst ey
    refine lv_if_eq (tgt := 24) hx hb dX4_create_14 (by decide) (fun c3 => ?_) (fun c3 => ?_)
    · have hm := g_t c3 hm
      refine lv_bipush (v := -12) hx hb dX4_create_24 (by decide) ?_
      cases hm
      subst hQ
      exact W.iret hx hb hr (fun t ht hW => ⟨⟨_, (), rfl, rfl, by rw [ht]; exact hP, hD⟩, hS.F ht⟩) hS.2.2 dX4_create_26
    · have hm := g_f c3 hm
      refine lv_iload_n hx hb dX4_create_17 rfl (lv_at hl 2 rfl) ?_
      obtain ⟨x4, ex, hm⟩ := g_bind hm
      refine vp_callSi (W.runS (As := [.int p2]) (rest := []) ⟨hx, hb, hml, hown, hts⟩ (k_X4_isOwner l  p2 _ ex) (va_cwS 1 hts gX4_create_X4_isOwner rfl rfl rfl (by decide +kernel) ⟨Nat.le_of_ble_eq_true rfl, Nat.le_of_ble_eq_true rfl⟩) ⟨w_bl0, fun U hU hW => ⟨rfl, trivial⟩⟩ rfl rfl hl.1 rfl (lv_room (Nat.le_of_ble_eq_true rfl)) dX4_create_18 ⟨Nat.zero_le _, Nat.zero_le _⟩) (fun _ ey => ?_)
      subst ey
      refine lv_if_ne (tgt := 27) hx hb dX4_create_21 (by decide) (fun c5 => ?_) (fun c5 => ?_)
      · have hm := g_f c5 hm
        refine lv_aload_n hx hb dX4_create_27 rfl (lv_at hl 0 rfl) ?_
        refine va_get (D := (dC, dI)) (ci := 2) (v := .ref A_mh) (C := RX4) (T := TX4) (N := 6) hx hb hts hi_X4_create_X4 hown hK hP 0 rfl rfl 1 (by decide) (hts (Cond.fieldLink RX4 19 "BuddyFiles" "memory" "LBuddyFiles$Home;") hk_X4_create_19) (fun _ h9 => h9) rfl dX4_create_28 ?_
        refine lv_iload_n hx hb dX4_create_31 rfl (lv_at hl 1 rfl) ?_
        obtain ⟨x6, ex, hm⟩ := g_bind hm
        refine vp_callSi (W.runV (As := [.int p1]) (rest := []) ⟨hx, hb, hml, hown, hts⟩ (k_X2_slotOf l dC dI A_mh A_ma K_ma c_ma p1 _ ex) (cwV 1 hts gX4_create_X2_slotOf rfl rfl rfl (by decide +kernel) ⟨Nat.le_of_ble_eq_true rfl, Nat.le_of_ble_eq_true rfl⟩) ⟨w_blR, va_recv hK hP (ci := 1) (q0 := 2) rfl rfl, fun U hU hW => ⟨rfl, by rw [hU]; exact hP.sub [2, 6] rfl, va_K.moved hW.alike (hK.sub [2] rfl)⟩⟩ rfl rfl hl.1 rfl (lv_room (Nat.le_of_ble_eq_true rfl)) dX4_create_32 ⟨Nat.zero_le _, Nat.zero_le _⟩) (fun _ ey => ?_)
        subst ey
        refine lv_iconst (v := -1) hx hb dX4_create_35 (by decide) ?_
        refine lv_icmp_eq (tgt := 41) hx hb dX4_create_36 (by decide) (fun c7 => ?_) (fun c7 => ?_)
        · have hm := g_t c7 hm
          refine lv_aload_n hx hb dX4_create_41 rfl (lv_at hl 0 rfl) ?_
          refine va_get (D := (dC, dI)) (ci := 2) (v := .ref A_mh) (C := RX4) (T := TX4) (N := 6) hx hb hts hi_X4_create_X4 hown hK hP 0 rfl rfl 1 (by decide) (hts (Cond.fieldLink RX4 19 "BuddyFiles" "memory" "LBuddyFiles$Home;") hk_X4_create_19) (fun _ h9 => h9) rfl dX4_create_42 ?_
          obtain ⟨x8, ex, hm⟩ := g_bind hm
          refine vp_callSi (W.runV (As := []) (rest := []) ⟨hx, hb, hml, hown, hts⟩ (k_X2_emptySlot l dC dI A_mh A_ma K_ma c_ma  _ ex) (cwV 0 hts gX4_create_X2_emptySlot rfl rfl rfl (by decide +kernel) ⟨Nat.le_of_ble_eq_true rfl, Nat.le_of_ble_eq_true rfl⟩) ⟨w_blR, va_recv hK hP (ci := 1) (q0 := 2) rfl rfl, fun U hU hW => ⟨rfl, by rw [hU]; exact hP.sub [2, 6] rfl, va_K.moved hW.alike (hK.sub [2] rfl)⟩⟩ rfl rfl hl.1 rfl (lv_room (Nat.le_of_ble_eq_true rfl)) dX4_create_45 ⟨Nat.zero_le _, Nat.zero_le _⟩) (fun _ ey => ?_)
          subst ey
          refine lv_istore_n (lv' := [(3, .int x8), (0, .ref A_x), (1, .int p1), (2, .int p2)]) hx hb dX4_create_48 rfl hl (by decide) rfl (fun ls hl => ?_)
          refine lv_iload_n hx hb dX4_create_49 rfl (lv_at hl 0 rfl) ?_
          refine lv_iconst (v := -1) hx hb dX4_create_50 (by decide) ?_
          refine lv_icmp_ne (tgt := 57) hx hb dX4_create_51 (by decide) (fun c9 => ?_) (fun c9 => ?_)
          · have hm := g_f c9 hm
            refine lv_aload_n hx hb dX4_create_57 rfl (lv_at hl 1 rfl) ?_
            refine va_get (D := (dC, dI)) (ci := 2) (v := .ref A_mh) (C := RX4) (T := TX4) (N := 6) hx hb hts hi_X4_create_X4 hown hK hP 0 rfl rfl 1 (by decide) (hts (Cond.fieldLink RX4 19 "BuddyFiles" "memory" "LBuddyFiles$Home;") hk_X4_create_19) (fun _ h9 => h9) rfl dX4_create_58 ?_
            refine lv_iload_n hx hb dX4_create_61 rfl (lv_at hl 0 rfl) ?_
            refine lv_iload_n hx hb dX4_create_62 rfl (lv_at hl 2 rfl) ?_
            refine lv_iload_n hx hb dX4_create_63 rfl (lv_at hl 3 rfl) ?_
            obtain ⟨f10, ex, hm⟩ := g_bind hm
            have hPc := hP.sub (ws' := (wH A_mh A_ma K_ma c_ma)) [2, 6] rfl
            have hDc := hD.sub (ws' := (wH A_mh A_ma K_ma c_ma)) [2, 6] (by decide) rfl
            have hKc := hK.sub (tys' := (tH K_ma)) [2] rfl
            have hFc := va_free (wc := (wH A_mh A_ma K_ma c_ma)) hD hS hA [2, 6] rfl
            refine va_callv (va_runV (As := [.int x8, .int p1, .int p2]) (rest := []) ⟨hx, hb, hml, hown, hts⟩ (k_X2_makeFile l dC dI A_mh A_ma K_ma c_ma s.heap.size x8 p1 p2 _ ex) (cwV 3 hts gX4_create_X2_makeFile rfl rfl rfl (by decide +kernel) ⟨Nat.le_of_ble_eq_true rfl, Nat.le_of_ble_eq_true rfl⟩) ⟨w_blW, va_recv hKc hPc (ci := 1) (q0 := 0) rfl rfl, fun U hU hW => ⟨rfl, by rw [hU], by rw [hU]; exact hPc, va_K.moved hW.alike hKc, hDc.weaken (fun _ _ _ _ => trivial)⟩⟩ rfl rfl hl.1 rfl (lv_room (Nat.le_of_ble_eq_true rfl)) dX4_create_64 ⟨Nat.zero_le _, Nat.zero_le _⟩) hS (fun q _ h => hFc q h) hFc (fun _ t H11 locs11 ht hvm hw hB hz1 hk1 hS => ?_)
            refine W.widen (k := 0) (n := 0) (Nat.le_refl 0) (Nat.le_refl 0) ?_
            obtain ⟨hP1, hD1⟩ := hB
            rw [ht] at hP1
            obtain ⟨hP, hD⟩ := va_join (wr := [(A_x, .inr (2, [.ref A_d, .ref A_mh, .ref A_jh, .ref A_ha, .int c_up, .int c_fu])), (A_d, .inr (0, [.ref A_da])), (A_jh, .inr (1, [.ref A_ja])), (A_ha, .inl (K_ha, 4, .inl c_ha)), (A_da, .inl (K_da, 332, .inl c_da)), (A_ja, .inl (K_ja, 110, .inl c_ja))]) (w1 := (wH A_mh A_ma K_ma f10)) hP hD [2, 6] [0, 1, 3, 4, 5, 7] rfl rfl (by decide) (by decide) hk1 hFc hP1 hD1
            have hP : va_P (dC, dI) vwCl (wB A_x A_d A_mh A_jh A_ha A_da A_ma A_ja K_ha K_da K_ma K_ja c_ha c_da f10 c_ja c_up c_fu) H11 := hP.sub [0, 1, 6, 2, 3, 4, 7, 5] rfl
            have hD : va_D A (wB A_x A_d A_mh A_jh A_ha A_da A_ma A_ja K_ha K_da K_ma K_ja c_ha c_da f10 c_ja c_up c_fu) := hD.sub [0, 1, 6, 2, 3, 4, 7, 5] (by decide) rfl
            refine lv_iload_n hx hb dX4_create_67 rfl (lv_at hl 0 rfl) ?_
            cases hm
            subst hQ
            exact W.iret hx hb hr (fun t ht hW => ⟨⟨_, (), rfl, rfl, by rw [ht]; exact hP, hD⟩, hS.F ht⟩) hS.2.2 dX4_create_68
          · have hm := g_t c9 hm
            refine lv_bipush (v := -2) hx hb dX4_create_54 (by decide) ?_
            cases hm
            subst hQ
            exact W.iret hx hb hr (fun t ht hW => ⟨⟨_, (), rfl, rfl, by rw [ht]; exact hP, hD⟩, hS.F ht⟩) hS.2.2 dX4_create_56
        · have hm := g_f c7 hm
          refine lv_iconst (v := -1) hx hb dX4_create_39 (by decide) ?_
          cases hm
          subst hQ
          exact W.iret hx hb hr (fun t ht hW => ⟨⟨_, (), rfl, rfl, by rw [ht]; exact hP, hD⟩, hS.F ht⟩) hS.2.2 dX4_create_40
      · have hm := g_t c5 hm
        refine lv_bipush (v := -12) hx hb dX4_create_24 (by decide) ?_
        cases hm
        subst hQ
        exact W.iret hx hb hr (fun t ht hW => ⟨⟨_, (), rfl, rfl, by rw [ht]; exact hP, hD⟩, hS.F ht⟩) hS.2.2 dX4_create_26
  · have hm := g_t c1 hm
    refine lv_bipush (v := -11) hx hb dX4_create_7 (by decide) ?_
    cases hm
    subst hQ
    exact W.iret hx hb hr (fun t ht hW => ⟨⟨_, (), rfl, rfl, by rw [ht]; exact hP, hD⟩, hS.F ht⟩) hS.2.2 dX4_create_9
theorem hi_X4_isInUse_X4 : ∀ w ∈ wsX40, w ∈ wsX4_isInUse := by decide +kernel
theorem hk_X4_isInUse_26 : Cond.fieldLink RX4 26 "BuddyFiles" "slotOfHandle" "[I" ∈ wsX4_isInUse := by decide +kernel
abbrev rm_X4_isInUse : Room := { frames := 0, cells := 0, slots := 0, locals := 0 }
set_option maxHeartbeats 4000000 in
set_option maxRecDepth 100000 in
theorem k_X4_isInUse (l : Launch) (dC : Nat → ClassId) (dI : Nat → Nat → Nat) (A_x A_d A_mh A_jh A_ha A_da A_ma A_ja : Nat) (K_ha K_da K_ma K_ja : ClassId) (c_ha c_da c_ma c_ja : Nat → Int32) (c_up c_fu : Int32) (p1 : Int32) (r0 : Int32) (hm : m_X4_isInUse c_ha p1 = some r0) : Met l yX4_isInUse wsX4_isInUse rm_X4_isInUse (va_Pc [.ref A_x, .int p1] (fun U => va_P (dC, dI) vwCl (wB A_x A_d A_mh A_jh A_ha A_da A_ma A_ja K_ha K_da K_ma K_ja c_ha c_da c_ma c_ja c_up c_fu) U.heap ∧ va_K (dC, dI) vwCl (tB K_ha K_da K_ma K_ja) U)) (vp_Si (fun r => r0 = r)) 0 0 (fun _ => False) := by
  refine Met.ofW (cc := cX4_isInUse) (maxL := 3) (ret := (some .boolean)) (by decide) rfl ?_
  intro p e s m args below meth c s₁ B hml hv
  obtain ⟨rfl, hP, hK⟩ := hv
  have hx := B.exec
  have hb := B.bytes
  have hr := B.returns
  have hts := atoms_spec (ws := wsX4_isInUse) B.pre
  have hown : s.vm.findClass RX4 = some m.cls := findClass_of_methodNamed B.named
  have hlocks := B.notSynchronized
  have hl := lv_entry ([.ref A_x, .int p1]) (n := 3) (Nat.le_of_ble_eq_true rfl)
  rw [lg_entry_eq]
  generalize (lg_sl ([.ref A_x, .int p1]) ++ List.replicate (3 - (lg_sl ([.ref A_x, .int p1])).length) Slot.unset).toArray = ls at hl ⊢
  have hl : lv_has ls 3 [(0, .ref A_x), (1, .int p1)] := hl
  refine w_name (fun Q hQ => ?_)
  unfold m_X4_isInUse at hm
  refine lv_iconst (v := 0) hx hb dX4_isInUse_0 (by decide) ?_
  refine lv_istore_n (lv' := [(2, .int (0 : Int32)), (0, .ref A_x), (1, .int p1)]) hx hb dX4_isInUse_1 rfl hl (by decide) rfl (fun ls hl => ?_)
  obtain ⟨rl2, hlp, hm⟩ := g_bind hm
  have hE2 : Sum.inr () = rl2 → ∀ (ls : Array Slot), lv_has ls 3 [] → W p l e (headSpec wsX4_isInUse rm_X4_isInUse).room s m (([.ref A_x, .int p1] : List Value).toArray) below meth c s.heap [] 0 0 Q (F0 m 25 ls []) := by
    intro  hq ls hl
    subst hq
    have hm := g_sk_r hm
    have hm := g_k0_s hm
    refine lv_iconst (v := 0) hx hb dX4_isInUse_25 (by decide) ?_
    cases hm
    subst hQ
    exact W.zret hx hb hr rfl (fun t ht hW => ⟨_, rfl, rfl, ht⟩) (fun _ h => nomatch h) dX4_isInUse_26
  have hV2 : ∀ v, Sum.inl v = rl2 → v = r0 := by
    intro v hq
    subst hq
    have hm := g_sk_l hm
    exact Option.some.inj hm
  have hL2 : ∀ (n : Nat) (y1 : Int32), g_loop (fun q => m_X4_isInUse_L2 p1 c_ha q) n y1 = some rl2 → ∀ (ls : Array Slot), lv_has ls 3 [(0, .ref A_x), (1, .int p1), (2, .int y1)] → W p l e (headSpec wsX4_isInUse rm_X4_isInUse).room s m (([.ref A_x, .int p1] : List Value).toArray) below meth c s.heap [] 0 0 Q (F0 m 2 ls []) := by
    intro n
    induction n with
    | zero =>
      intro y1 hm
      exact g_loop_z hm
    | succ n ih =>
      intro y1 hm ls hl
      obtain ⟨q, hm, hy⟩ := g_loop_s hm
      have hm : m_X4_isInUse_L2 p1 c_ha y1 = some q := hm
      unfold m_X4_isInUse_L2 at hm
      refine lv_iload_n hx hb dX4_isInUse_2 rfl (lv_at hl 2 rfl) ?_
      refine lv_iconst (v := 4) hx hb dX4_isInUse_3 (by decide) ?_
      refine lv_icmp_ge (tgt := 25) hx hb dX4_isInUse_4 (by decide) (fun c3 => ?_) (fun c3 => ?_)
      · have hm := g_t c3 hm
        cases hm
        exact hE2 hy _ (lv_sub hl [] rfl)
      · have hm := g_f c3 hm
        refine lv_aload_n hx hb dX4_isInUse_7 rfl (lv_at hl 0 rfl) ?_
        refine va_get (D := (dC, dI)) (ci := 2) (v := .ref A_ha) (C := RX4) (T := TX4) (N := 6) hx hb hts hi_X4_isInUse_X4 hown hK hP 0 rfl rfl 3 (by decide) (hts (Cond.fieldLink RX4 26 "BuddyFiles" "slotOfHandle" "[I") hk_X4_isInUse_26) (fun _ h9 => h9) rfl dX4_isInUse_8 ?_
        refine lv_iload_n hx hb dX4_isInUse_11 rfl (lv_at hl 2 rfl) ?_
        obtain ⟨x4, ex, hm⟩ := g_bind hm
        refine w_ald hx hb hK hP 4 0 rfl rfl ex dX4_isInUse_12 ?_
        refine lv_iload_n hx hb dX4_isInUse_13 rfl (lv_at hl 1 rfl) ?_
        refine lv_icmp_ne (tgt := 19) hx hb dX4_isInUse_14 (by decide) (fun c5 => ?_) (fun c5 => ?_)
        · have hm := g_f c5 hm
          refine lv_iinc (v := (y1 + (1 : Int32))) (lv' := [(2, .int (y1 + (1 : Int32))), (0, .ref A_x), (1, .int p1)]) hx hb dX4_isInUse_19 hl (k := 2) rfl rfl (by decide) rfl (fun ls hl => ?_)
          refine lv_goto (tgt := 2) hx hb dX4_isInUse_22 (by decide) ?_
          cases hm
          exact ih _ hy _ (lv_sub hl [1, 2, 0] rfl)
        · have hm := g_t c5 hm
          refine lv_iconst (v := 1) hx hb dX4_isInUse_17 (by decide) ?_
          cases hm
          have hq := hV2 _ hy
          cases hq
          subst hQ
          exact W.zret hx hb hr rfl (fun t ht hW => ⟨_, rfl, rfl, ht⟩) (fun _ h => nomatch h) dX4_isInUse_18
  exact hL2 _ _ hlp _ (lv_sub hl [1, 2, 0] rfl)
theorem hi_X4_unlink_X4 : ∀ w ∈ wsX40, w ∈ wsX4_unlink := by decide +kernel
theorem hk_X4_unlink_33 : Cond.fieldLink RX4 33 "BuddyFiles" "up" "Z" ∈ wsX4_unlink := by decide +kernel
theorem hk_X4_unlink_19 : Cond.fieldLink RX4 19 "BuddyFiles" "memory" "LBuddyFiles$Home;" ∈ wsX4_unlink := by decide +kernel
abbrev rm_X4_unlink : Room := { frames := 6, cells := 0, slots := 0, locals := 135 }
set_option maxHeartbeats 4000000 in
set_option maxRecDepth 100000 in
theorem k_X4_unlink (l : Launch) (dC : Nat → ClassId) (dI : Nat → Nat → Nat) (A_x A_d A_mh A_jh A_ha A_da A_ma A_ja : Nat) (K_ha K_da K_ma K_ja : ClassId) (c_ha c_da c_ma c_ja : Nat → Int32) (c_up c_fu : Int32) (sz : Nat) (p1 : Int32) (r0 : Int32) (o_ma : (Nat → Int32)) (hm : m_X4_unlink c_ha c_ma c_up p1 = some (r0, o_ma)) : Met l yX4_unlink wsX4_unlink rm_X4_unlink (va_Pc [.ref A_x, .int p1] (fun U => U.heap.size = sz ∧ va_P (dC, dI) vwCl (wB A_x A_d A_mh A_jh A_ha A_da A_ma A_ja K_ha K_da K_ma K_ja c_ha c_da c_ma c_ja c_up c_fu) U.heap ∧ va_K (dC, dI) vwCl (tB K_ha K_da K_ma K_ja) U ∧ va_D (fun _ => True) (wB A_x A_d A_mh A_jh A_ha A_da A_ma A_ja K_ha K_da K_ma K_ja c_ha c_da c_ma c_ja c_up c_fu))) (va_Qi (fun (r : Int32) (_ : Unit) => r0 = r) (fun _ t => va_P (dC, dI) vwCl (wB A_x A_d A_mh A_jh A_ha A_da A_ma A_ja K_ha K_da K_ma K_ja c_ha c_da o_ma c_ja c_up c_fu) t.heap ∧ va_D (va_A (wB A_x A_d A_mh A_jh A_ha A_da A_ma A_ja K_ha K_da K_ma K_ja c_ha c_da c_ma c_ja c_up c_fu) sz) (wB A_x A_d A_mh A_jh A_ha A_da A_ma A_ja K_ha K_da K_ma K_ja c_ha c_da o_ma c_ja c_up c_fu)) (va_A (wB A_x A_d A_mh A_jh A_ha A_da A_ma A_ja K_ha K_da K_ma K_ja c_ha c_da c_ma c_ja c_up c_fu) sz)) 0 0 (va_A (wB A_x A_d A_mh A_jh A_ha A_da A_ma A_ja K_ha K_da K_ma K_ja c_ha c_da c_ma c_ja c_up c_fu) sz) := by
  refine Met.ofW (cc := cX4_unlink) (maxL := 3) (ret := (some .int)) (by decide) rfl ?_
  intro p e s m args below meth c s₁ B hml hv
  obtain ⟨rfl, hsz, hP, hK, hD0⟩ := hv
  have hx := B.exec
  have hb := B.bytes
  have hr := B.returns
  have hts := atoms_spec (ws := wsX4_unlink) B.pre
  have hown : s.vm.findClass RX4 = some m.cls := findClass_of_methodNamed B.named
  have hlocks := B.notSynchronized
  subst hsz
  have hD := hD0.self (sz := s.heap.size)
  generalize hAe : va_A (wB A_x A_d A_mh A_jh A_ha A_da A_ma A_ja K_ha K_da K_ma K_ja c_ha c_da c_ma c_ja c_up c_fu) s.heap.size = A at hD ⊢
  have hA : ∀ q : Nat, s.heap.size ≤ q → A q := fun q h => by rw [← hAe]; exact Or.inr h
  have hS : va_S A s.heap s.heap [] := va_S.rf
  have hP : va_P (dC, dI) vwCl (wB A_x A_d A_mh A_jh A_ha A_da A_ma A_ja K_ha K_da K_ma K_ja c_ha c_da c_ma c_ja c_up c_fu) s.heap := hP
  have hl := lv_entry ([.ref A_x, .int p1]) (n := 3) (Nat.le_of_ble_eq_true rfl)
  rw [lg_entry_eq]
  generalize (lg_sl ([.ref A_x, .int p1]) ++ List.replicate (3 - (lg_sl ([.ref A_x, .int p1])).length) Slot.unset).toArray = ls at hl ⊢
  have hl : lv_has ls 3 [(0, .ref A_x), (1, .int p1)] := hl
  refine w_name (fun Q hQ => ?_)
  unfold m_X4_unlink at hm
  refine lv_aload_n hx hb dX4_unlink_0 rfl (lv_at hl 0 rfl) ?_
  refine va_get (D := (dC, dI)) (ci := 2) (v := .int c_up) (C := RX4) (T := TX4) (N := 6) hx hb hts hi_X4_unlink_X4 hown hK hP 0 rfl rfl 4 (by decide) (hts (Cond.fieldLink RX4 33 "BuddyFiles" "up" "Z") hk_X4_unlink_33) (fun _ h9 => h9) rfl dX4_unlink_1 ?_
  refine lv_if_ne (tgt := 10) hx hb dX4_unlink_4 (by decide) (fun c1 => ?_) (fun c1 => ?_)
  · have hm := g_f c1 hm
    refine lv_aload_n hx hb dX4_unlink_10 rfl (lv_at hl 0 rfl) ?_
    refine va_get (D := (dC, dI)) (ci := 2) (v := .ref A_mh) (C := RX4) (T := TX4) (N := 6) hx hb hts hi_X4_unlink_X4 hown hK hP 0 rfl rfl 1 (by decide) (hts (Cond.fieldLink RX4 19 "BuddyFiles" "memory" "LBuddyFiles$Home;") hk_X4_unlink_19) (fun _ h9 => h9) rfl dX4_unlink_11 ?_
    refine lv_iload_n hx hb dX4_unlink_14 rfl (lv_at hl 1 rfl) ?_
    obtain ⟨x2, ex, hm⟩ := g_bind hm
    refine vp_callSi (W.runV (As := [.int p1]) (rest := []) ⟨hx, hb, hml, hown, hts⟩ (k_X2_slotOf l dC dI A_mh A_ma K_ma c_ma p1 _ ex) (cwV 1 hts gX4_unlink_X2_slotOf rfl rfl rfl (by decide +kernel) ⟨Nat.le_of_ble_eq_true rfl, Nat.le_of_ble_eq_true rfl⟩) ⟨w_blR, va_recv hK hP (ci := 1) (q0 := 2) rfl rfl, fun U hU hW => ⟨rfl, by rw [hU]; exact hP.sub [2, 6] rfl, va_K.moved hW.alike (hK.sub [2] rfl)⟩⟩ rfl rfl hl.1 rfl (lv_room (Nat.le_of_ble_eq_true rfl)) dX4_unlink_15 ⟨Nat.zero_le _, Nat.zero_le _⟩) (fun _ ey => ?_)
    subst ey
    refine lv_istore_n (lv' := [(2, .int x2), (0, .ref A_x), (1, .int p1)]) hx hb dX4_unlink_18 rfl hl (by decide) rfl (fun ls hl => ?_)
    refine lv_iload_n hx hb dX4_unlink_19 rfl (lv_at hl 0 rfl) ?_
    refine lv_iconst (v := -1) hx hb dX4_unlink_20 (by decide) ?_
    refine lv_icmp_ne (tgt := 27) hx hb dX4_unlink_21 (by decide) (fun c3 => ?_) (fun c3 => ?_)
    · have hm := g_f c3 hm
      refine lv_aload_n hx hb dX4_unlink_27 rfl (lv_at hl 1 rfl) ?_
      refine lv_iload_n hx hb dX4_unlink_28 rfl (lv_at hl 0 rfl) ?_
      obtain ⟨x4, ex, hm⟩ := g_bind hm
      refine vp_callSi (W.runV (As := [.int x2]) (rest := []) ⟨hx, hb, hml, hown, hts⟩ (k_X4_isInUse l dC dI A_x A_d A_mh A_jh A_ha A_da A_ma A_ja K_ha K_da K_ma K_ja c_ha c_da c_ma c_ja c_up c_fu x2 _ ex) (cwV 1 hts gX4_unlink_X4_isInUse rfl rfl rfl (by decide +kernel) ⟨Nat.le_of_ble_eq_true rfl, Nat.le_of_ble_eq_true rfl⟩) ⟨w_blR, va_recv hK hP (ci := 2) (q0 := 0) rfl rfl, fun U hU hW => ⟨rfl, by rw [hU]; exact hP.sub [0, 1, 2, 3, 4, 5, 6, 7] rfl, va_K.moved hW.alike (hK.sub [0, 1, 2, 3] rfl)⟩⟩ rfl rfl hl.1 rfl (lv_room (Nat.le_of_ble_eq_true rfl)) dX4_unlink_29 ⟨Nat.zero_le _, Nat.zero_le _⟩) (fun _ ey => ?_)
      subst ey
      refine lv_if_eq (tgt := 38) hx hb dX4_unlink_32 (by decide) (fun c5 => ?_) (fun c5 => ?_)
      · have hm := g_t c5 hm
        refine lv_aload_n hx hb dX4_unlink_38 rfl (lv_at hl 1 rfl) ?_
        refine va_get (D := (dC, dI)) (ci := 2) (v := .ref A_mh) (C := RX4) (T := TX4) (N := 6) hx hb hts hi_X4_unlink_X4 hown hK hP 0 rfl rfl 1 (by decide) (hts (Cond.fieldLink RX4 19 "BuddyFiles" "memory" "LBuddyFiles$Home;") hk_X4_unlink_19) (fun _ h9 => h9) rfl dX4_unlink_39 ?_
        refine lv_iload_n hx hb dX4_unlink_42 rfl (lv_at hl 0 rfl) ?_
        obtain ⟨f6, ex, hm⟩ := g_bind hm
        have hPc := hP.sub (ws' := (wH A_mh A_ma K_ma c_ma)) [2, 6] rfl
        have hDc := hD.sub (ws' := (wH A_mh A_ma K_ma c_ma)) [2, 6] (by decide) rfl
        have hKc := hK.sub (tys' := (tH K_ma)) [2] rfl
        have hFc := va_free (wc := (wH A_mh A_ma K_ma c_ma)) hD hS hA [2, 6] rfl
        refine va_callv (va_runV (As := [.int x2]) (rest := []) ⟨hx, hb, hml, hown, hts⟩ (k_X2_dropFile l dC dI A_mh A_ma K_ma c_ma s.heap.size x2 _ ex) (cwV 1 hts gX4_unlink_X2_dropFile rfl rfl rfl (by decide +kernel) ⟨Nat.le_of_ble_eq_true rfl, Nat.le_of_ble_eq_true rfl⟩) ⟨w_blW, va_recv hKc hPc (ci := 1) (q0 := 0) rfl rfl, fun U hU hW => ⟨rfl, by rw [hU], by rw [hU]; exact hPc, va_K.moved hW.alike hKc, hDc.weaken (fun _ _ _ _ => trivial)⟩⟩ rfl rfl hl.1 rfl (lv_room (Nat.le_of_ble_eq_true rfl)) dX4_unlink_43 ⟨Nat.zero_le _, Nat.zero_le _⟩) hS (fun q _ h => hFc q h) hFc (fun _ t H7 locs7 ht hvm hw hB hz1 hk1 hS => ?_)
        refine W.widen (k := 0) (n := 0) (Nat.le_refl 0) (Nat.le_refl 0) ?_
        obtain ⟨hP1, hD1⟩ := hB
        rw [ht] at hP1
        obtain ⟨hP, hD⟩ := va_join (wr := [(A_x, .inr (2, [.ref A_d, .ref A_mh, .ref A_jh, .ref A_ha, .int c_up, .int c_fu])), (A_d, .inr (0, [.ref A_da])), (A_jh, .inr (1, [.ref A_ja])), (A_ha, .inl (K_ha, 4, .inl c_ha)), (A_da, .inl (K_da, 332, .inl c_da)), (A_ja, .inl (K_ja, 110, .inl c_ja))]) (w1 := (wH A_mh A_ma K_ma f6)) hP hD [2, 6] [0, 1, 3, 4, 5, 7] rfl rfl (by decide) (by decide) hk1 hFc hP1 hD1
        have hP : va_P (dC, dI) vwCl (wB A_x A_d A_mh A_jh A_ha A_da A_ma A_ja K_ha K_da K_ma K_ja c_ha c_da f6 c_ja c_up c_fu) H7 := hP.sub [0, 1, 6, 2, 3, 4, 7, 5] rfl
        have hD : va_D A (wB A_x A_d A_mh A_jh A_ha A_da A_ma A_ja K_ha K_da K_ma K_ja c_ha c_da f6 c_ja c_up c_fu) := hD.sub [0, 1, 6, 2, 3, 4, 7, 5] (by decide) rfl
        refine lv_iconst (v := 0) hx hb dX4_unlink_46 (by decide) ?_
        cases hm
        subst hQ
        exact W.iret hx hb hr (fun t ht hW => ⟨⟨_, (), rfl, rfl, by rw [ht]; exact hP, hD⟩, hS.F ht⟩) hS.2.2 dX4_unlink_47
      · have hm := g_f c5 hm
        refine lv_bipush (v := -4) hx hb dX4_unlink_35 (by decide) ?_
        cases hm
        subst hQ
        exact W.iret hx hb hr (fun t ht hW => ⟨⟨_, (), rfl, rfl, by rw [ht]; exact hP, hD⟩, hS.F ht⟩) hS.2.2 dX4_unlink_37
    · have hm := g_t c3 hm
      refine lv_bipush (v := -3) hx hb dX4_unlink_24 (by decide) ?_
      cases hm
      subst hQ
      exact W.iret hx hb hr (fun t ht hW => ⟨⟨_, (), rfl, rfl, by rw [ht]; exact hP, hD⟩, hS.F ht⟩) hS.2.2 dX4_unlink_26
  · have hm := g_t c1 hm
    refine lv_bipush (v := -11) hx hb dX4_unlink_7 (by decide) ?_
    cases hm
    subst hQ
    exact W.iret hx hb hr (fun t ht hW => ⟨⟨_, (), rfl, rfl, by rw [ht]; exact hP, hD⟩, hS.F ht⟩) hS.2.2 dX4_unlink_9
theorem hi_X4_closedHandle_X4 : ∀ w ∈ wsX40, w ∈ wsX4_closedHandle := by decide +kernel
theorem hk_X4_closedHandle_26 : Cond.fieldLink RX4 26 "BuddyFiles" "slotOfHandle" "[I" ∈ wsX4_closedHandle := by decide +kernel
abbrev rm_X4_closedHandle : Room := { frames := 0, cells := 0, slots := 0, locals := 0 }
set_option maxHeartbeats 4000000 in
set_option maxRecDepth 100000 in
theorem k_X4_closedHandle (l : Launch) (dC : Nat → ClassId) (dI : Nat → Nat → Nat) (A_x A_d A_mh A_jh A_ha A_da A_ma A_ja : Nat) (K_ha K_da K_ma K_ja : ClassId) (c_ha c_da c_ma c_ja : Nat → Int32) (c_up c_fu : Int32)  (r0 : Int32) (hm : m_X4_closedHandle c_ha = some r0) : Met l yX4_closedHandle wsX4_closedHandle rm_X4_closedHandle (va_Pc [.ref A_x] (fun U => va_P (dC, dI) vwCl (wB A_x A_d A_mh A_jh A_ha A_da A_ma A_ja K_ha K_da K_ma K_ja c_ha c_da c_ma c_ja c_up c_fu) U.heap ∧ va_K (dC, dI) vwCl (tB K_ha K_da K_ma K_ja) U)) (vp_Si (fun r => r0 = r)) 0 0 (fun _ => False) := by
  refine Met.ofW (cc := cX4_closedHandle) (maxL := 2) (ret := (some .int)) (by decide) rfl ?_
  intro p e s m args below meth c s₁ B hml hv
  obtain ⟨rfl, hP, hK⟩ := hv
  have hx := B.exec
  have hb := B.bytes
  have hr := B.returns
  have hts := atoms_spec (ws := wsX4_closedHandle) B.pre
  have hown : s.vm.findClass RX4 = some m.cls := findClass_of_methodNamed B.named
  have hlocks := B.notSynchronized
  have hl := lv_entry ([.ref A_x]) (n := 2) (Nat.le_of_ble_eq_true rfl)
  rw [lg_entry_eq]
  generalize (lg_sl ([.ref A_x]) ++ List.replicate (2 - (lg_sl ([.ref A_x])).length) Slot.unset).toArray = ls at hl ⊢
  have hl : lv_has ls 2 [(0, .ref A_x)] := hl
  refine w_name (fun Q hQ => ?_)
  unfold m_X4_closedHandle at hm
  refine lv_iconst (v := 0) hx hb dX4_closedHandle_0 (by decide) ?_
  refine lv_istore_n (lv' := [(1, .int (0 : Int32)), (0, .ref A_x)]) hx hb dX4_closedHandle_1 rfl hl (by decide) rfl (fun ls hl => ?_)
  obtain ⟨rl2, hlp, hm⟩ := g_bind hm
  have hE2 : Sum.inr () = rl2 → ∀ (ls : Array Slot), lv_has ls 2 [] → W p l e (headSpec wsX4_closedHandle rm_X4_closedHandle).room s m (([.ref A_x] : List Value).toArray) below meth c s.heap [] 0 0 Q (F0 m 25 ls []) := by
    intro  hq ls hl
    subst hq
    have hm := g_sk_r hm
    have hm := g_k0_s hm
    refine lv_iconst (v := -1) hx hb dX4_closedHandle_25 (by decide) ?_
    cases hm
    subst hQ
    exact W.iret hx hb hr (fun t ht hW => ⟨_, rfl, rfl, ht⟩) (fun _ h => nomatch h) dX4_closedHandle_26
  have hV2 : ∀ v, Sum.inl v = rl2 → v = r0 := by
    intro v hq
    subst hq
    have hm := g_sk_l hm
    exact Option.some.inj hm
  have hL2 : ∀ (n : Nat) (y1 : Int32), g_loop (fun q => m_X4_closedHandle_L2 c_ha q) n y1 = some rl2 → ∀ (ls : Array Slot), lv_has ls 2 [(0, .ref A_x), (1, .int y1)] → W p l e (headSpec wsX4_closedHandle rm_X4_closedHandle).room s m (([.ref A_x] : List Value).toArray) below meth c s.heap [] 0 0 Q (F0 m 2 ls []) := by
    intro n
    induction n with
    | zero =>
      intro y1 hm
      exact g_loop_z hm
    | succ n ih =>
      intro y1 hm ls hl
      obtain ⟨q, hm, hy⟩ := g_loop_s hm
      have hm : m_X4_closedHandle_L2 c_ha y1 = some q := hm
      unfold m_X4_closedHandle_L2 at hm
      refine lv_iload_n hx hb dX4_closedHandle_2 rfl (lv_at hl 1 rfl) ?_
      refine lv_iconst (v := 4) hx hb dX4_closedHandle_3 (by decide) ?_
      refine lv_icmp_ge (tgt := 25) hx hb dX4_closedHandle_4 (by decide) (fun c3 => ?_) (fun c3 => ?_)
      · have hm := g_t c3 hm
        cases hm
        exact hE2 hy _ (lv_sub hl [] rfl)
      · have hm := g_f c3 hm
        refine lv_aload_n hx hb dX4_closedHandle_7 rfl (lv_at hl 0 rfl) ?_
        refine va_get (D := (dC, dI)) (ci := 2) (v := .ref A_ha) (C := RX4) (T := TX4) (N := 6) hx hb hts hi_X4_closedHandle_X4 hown hK hP 0 rfl rfl 3 (by decide) (hts (Cond.fieldLink RX4 26 "BuddyFiles" "slotOfHandle" "[I") hk_X4_closedHandle_26) (fun _ h9 => h9) rfl dX4_closedHandle_8 ?_
        refine lv_iload_n hx hb dX4_closedHandle_11 rfl (lv_at hl 1 rfl) ?_
        obtain ⟨x4, ex, hm⟩ := g_bind hm
        refine w_ald hx hb hK hP 4 0 rfl rfl ex dX4_closedHandle_12 ?_
        refine lv_iconst (v := -1) hx hb dX4_closedHandle_13 (by decide) ?_
        refine lv_icmp_ne (tgt := 19) hx hb dX4_closedHandle_14 (by decide) (fun c5 => ?_) (fun c5 => ?_)
        · have hm := g_f c5 hm
          refine lv_iinc (v := (y1 + (1 : Int32))) (lv' := [(1, .int (y1 + (1 : Int32))), (0, .ref A_x)]) hx hb dX4_closedHandle_19 hl (k := 1) rfl rfl (by decide) rfl (fun ls hl => ?_)
          refine lv_goto (tgt := 2) hx hb dX4_closedHandle_22 (by decide) ?_
          cases hm
          exact ih _ hy _ (lv_sub hl [1, 0] rfl)
        · have hm := g_t c5 hm
          refine lv_iload_n hx hb dX4_closedHandle_17 rfl (lv_at hl 1 rfl) ?_
          cases hm
          have hq := hV2 _ hy
          cases hq
          subst hQ
          exact W.iret hx hb hr (fun t ht hW => ⟨_, rfl, rfl, ht⟩) (fun _ h => nomatch h) dX4_closedHandle_18
  exact hL2 _ _ hlp _ (lv_sub hl [1, 0] rfl)
theorem hi_X4_open_X4 : ∀ w ∈ wsX40, w ∈ wsX4_open := by decide +kernel
theorem hk_X4_open_33 : Cond.fieldLink RX4 33 "BuddyFiles" "up" "Z" ∈ wsX4_open := by decide +kernel
theorem hk_X4_open_19 : Cond.fieldLink RX4 19 "BuddyFiles" "memory" "LBuddyFiles$Home;" ∈ wsX4_open := by decide +kernel
theorem hk_X4_open_26 : Cond.fieldLink RX4 26 "BuddyFiles" "slotOfHandle" "[I" ∈ wsX4_open := by decide +kernel
abbrev rm_X4_open : Room := { frames := 2, cells := 0, slots := 0, locals := 43 }
set_option maxHeartbeats 4000000 in
set_option maxRecDepth 100000 in
theorem k_X4_open (l : Launch) (dC : Nat → ClassId) (dI : Nat → Nat → Nat) (A_x A_d A_mh A_jh A_ha A_da A_ma A_ja : Nat) (K_ha K_da K_ma K_ja : ClassId) (c_ha c_da c_ma c_ja : Nat → Int32) (c_up c_fu : Int32) (sz : Nat) (p1 : Int32) (r0 : Int32) (o_ha : (Nat → Int32)) (hm : m_X4_open c_ha c_ma c_up p1 = some (r0, o_ha)) : Met l yX4_open wsX4_open rm_X4_open (va_Pc [.ref A_x, .int p1] (fun U => U.heap.size = sz ∧ va_P (dC, dI) vwCl (wB A_x A_d A_mh A_jh A_ha A_da A_ma A_ja K_ha K_da K_ma K_ja c_ha c_da c_ma c_ja c_up c_fu) U.heap ∧ va_K (dC, dI) vwCl (tB K_ha K_da K_ma K_ja) U ∧ va_D (fun _ => True) (wB A_x A_d A_mh A_jh A_ha A_da A_ma A_ja K_ha K_da K_ma K_ja c_ha c_da c_ma c_ja c_up c_fu))) (va_Qi (fun (r : Int32) (_ : Unit) => r0 = r) (fun _ t => va_P (dC, dI) vwCl (wB A_x A_d A_mh A_jh A_ha A_da A_ma A_ja K_ha K_da K_ma K_ja o_ha c_da c_ma c_ja c_up c_fu) t.heap ∧ va_D (va_A (wB A_x A_d A_mh A_jh A_ha A_da A_ma A_ja K_ha K_da K_ma K_ja c_ha c_da c_ma c_ja c_up c_fu) sz) (wB A_x A_d A_mh A_jh A_ha A_da A_ma A_ja K_ha K_da K_ma K_ja o_ha c_da c_ma c_ja c_up c_fu)) (va_A (wB A_x A_d A_mh A_jh A_ha A_da A_ma A_ja K_ha K_da K_ma K_ja c_ha c_da c_ma c_ja c_up c_fu) sz)) 0 0 (va_A (wB A_x A_d A_mh A_jh A_ha A_da A_ma A_ja K_ha K_da K_ma K_ja c_ha c_da c_ma c_ja c_up c_fu) sz) := by
  refine Met.ofW (cc := cX4_open) (maxL := 4) (ret := (some .int)) (by decide) rfl ?_
  intro p e s m args below meth c s₁ B hml hv
  obtain ⟨rfl, hsz, hP, hK, hD0⟩ := hv
  have hx := B.exec
  have hb := B.bytes
  have hr := B.returns
  have hts := atoms_spec (ws := wsX4_open) B.pre
  have hown : s.vm.findClass RX4 = some m.cls := findClass_of_methodNamed B.named
  have hlocks := B.notSynchronized
  subst hsz
  have hD := hD0.self (sz := s.heap.size)
  generalize hAe : va_A (wB A_x A_d A_mh A_jh A_ha A_da A_ma A_ja K_ha K_da K_ma K_ja c_ha c_da c_ma c_ja c_up c_fu) s.heap.size = A at hD ⊢
  have hA : ∀ q : Nat, s.heap.size ≤ q → A q := fun q h => by rw [← hAe]; exact Or.inr h
  have hS : va_S A s.heap s.heap [] := va_S.rf
  have hP : va_P (dC, dI) vwCl (wB A_x A_d A_mh A_jh A_ha A_da A_ma A_ja K_ha K_da K_ma K_ja c_ha c_da c_ma c_ja c_up c_fu) s.heap := hP
  have hl := lv_entry ([.ref A_x, .int p1]) (n := 4) (Nat.le_of_ble_eq_true rfl)
  rw [lg_entry_eq]
  generalize (lg_sl ([.ref A_x, .int p1]) ++ List.replicate (4 - (lg_sl ([.ref A_x, .int p1])).length) Slot.unset).toArray = ls at hl ⊢
  have hl : lv_has ls 4 [(0, .ref A_x), (1, .int p1)] := hl
  refine w_name (fun Q hQ => ?_)
  unfold m_X4_open at hm
  refine lv_aload_n hx hb dX4_open_0 rfl (lv_at hl 0 rfl) ?_
  refine va_get (D := (dC, dI)) (ci := 2) (v := .int c_up) (C := RX4) (T := TX4) (N := 6) hx hb hts hi_X4_open_X4 hown hK hP 0 rfl rfl 4 (by decide) (hts (Cond.fieldLink RX4 33 "BuddyFiles" "up" "Z") hk_X4_open_33) (fun _ h9 => h9) rfl dX4_open_1 ?_
  refine lv_if_ne (tgt := 10) hx hb dX4_open_4 (by decide) (fun c1 => ?_) (fun c1 => ?_)
  · have hm := g_f c1 hm
    refine lv_aload_n hx hb dX4_open_10 rfl (lv_at hl 0 rfl) ?_
    refine va_get (D := (dC, dI)) (ci := 2) (v := .ref A_mh) (C := RX4) (T := TX4) (N := 6) hx hb hts hi_X4_open_X4 hown hK hP 0 rfl rfl 1 (by decide) (hts (Cond.fieldLink RX4 19 "BuddyFiles" "memory" "LBuddyFiles$Home;") hk_X4_open_19) (fun _ h9 => h9) rfl dX4_open_11 ?_
    refine lv_iload_n hx hb dX4_open_14 rfl (lv_at hl 1 rfl) ?_
    obtain ⟨x2, ex, hm⟩ := g_bind hm
    refine vp_callSi (W.runV (As := [.int p1]) (rest := []) ⟨hx, hb, hml, hown, hts⟩ (k_X2_slotOf l dC dI A_mh A_ma K_ma c_ma p1 _ ex) (cwV 1 hts gX4_open_X2_slotOf rfl rfl rfl (by decide +kernel) ⟨Nat.le_of_ble_eq_true rfl, Nat.le_of_ble_eq_true rfl⟩) ⟨w_blR, va_recv hK hP (ci := 1) (q0 := 2) rfl rfl, fun U hU hW => ⟨rfl, by rw [hU]; exact hP.sub [2, 6] rfl, va_K.moved hW.alike (hK.sub [2] rfl)⟩⟩ rfl rfl hl.1 rfl (lv_room (Nat.le_of_ble_eq_true rfl)) dX4_open_15 ⟨Nat.zero_le _, Nat.zero_le _⟩) (fun _ ey => ?_)
    subst ey
    refine lv_istore_n (lv' := [(2, .int x2), (0, .ref A_x), (1, .int p1)]) hx hb dX4_open_18 rfl hl (by decide) rfl (fun ls hl => ?_)
    refine lv_iload_n hx hb dX4_open_19 rfl (lv_at hl 0 rfl) ?_
    refine lv_iconst (v := -1) hx hb dX4_open_20 (by decide) ?_
    refine lv_icmp_ne (tgt := 27) hx hb dX4_open_21 (by decide) (fun c3 => ?_) (fun c3 => ?_)
    · have hm := g_f c3 hm
      refine lv_aload_n hx hb dX4_open_27 rfl (lv_at hl 1 rfl) ?_
      obtain ⟨x4, ex, hm⟩ := g_bind hm
      refine vp_callSi (W.runV (As := []) (rest := []) ⟨hx, hb, hml, hown, hts⟩ (k_X4_closedHandle l dC dI A_x A_d A_mh A_jh A_ha A_da A_ma A_ja K_ha K_da K_ma K_ja c_ha c_da c_ma c_ja c_up c_fu  _ ex) (cwV 0 hts gX4_open_X4_closedHandle rfl rfl rfl (by decide +kernel) ⟨Nat.le_of_ble_eq_true rfl, Nat.le_of_ble_eq_true rfl⟩) ⟨w_blR, va_recv hK hP (ci := 2) (q0 := 0) rfl rfl, fun U hU hW => ⟨rfl, by rw [hU]; exact hP.sub [0, 1, 2, 3, 4, 5, 6, 7] rfl, va_K.moved hW.alike (hK.sub [0, 1, 2, 3] rfl)⟩⟩ rfl rfl hl.1 rfl (lv_room (Nat.le_of_ble_eq_true rfl)) dX4_open_28 ⟨Nat.zero_le _, Nat.zero_le _⟩) (fun _ ey => ?_)
      subst ey
      refine lv_istore_n (lv' := [(3, .int x4), (2, .int x2), (0, .ref A_x), (1, .int p1)]) hx hb dX4_open_31 rfl hl (by decide) rfl (fun ls hl => ?_)
      refine lv_iload_n hx hb dX4_open_32 rfl (lv_at hl 0 rfl) ?_
      refine lv_iconst (v := -1) hx hb dX4_open_33 (by decide) ?_
      refine lv_icmp_ne (tgt := 40) hx hb dX4_open_34 (by decide) (fun c5 => ?_) (fun c5 => ?_)
      · have hm := g_f c5 hm
        refine lv_aload_n hx hb dX4_open_40 rfl (lv_at hl 2 rfl) ?_
        refine va_get (D := (dC, dI)) (ci := 2) (v := .ref A_ha) (C := RX4) (T := TX4) (N := 6) hx hb hts hi_X4_open_X4 hown hK hP 0 rfl rfl 3 (by decide) (hts (Cond.fieldLink RX4 26 "BuddyFiles" "slotOfHandle" "[I") hk_X4_open_26) (fun _ h9 => h9) rfl dX4_open_41 ?_
        refine lv_iload_n hx hb dX4_open_44 rfl (lv_at hl 0 rfl) ?_
        refine lv_iload_n hx hb dX4_open_45 rfl (lv_at hl 1 rfl) ?_
        obtain ⟨f6, ex, hm⟩ := g_bind hm
        refine w_ast hx hb hK hP hD hS 4 0 rfl rfl ex dX4_open_46 (fun H7 locs7 hP hD hS => ?_)
        have hP : va_P (dC, dI) vwCl (wB A_x A_d A_mh A_jh A_ha A_da A_ma A_ja K_ha K_da K_ma K_ja f6 c_da c_ma c_ja c_up c_fu) H7 := hP
        have hD : va_D A (wB A_x A_d A_mh A_jh A_ha A_da A_ma A_ja K_ha K_da K_ma K_ja f6 c_da c_ma c_ja c_up c_fu) := hD
        refine lv_iload_n hx hb dX4_open_47 rfl (lv_at hl 0 rfl) ?_
        cases hm
        subst hQ
        exact W.iret hx hb hr (fun t ht hW => ⟨⟨_, (), rfl, rfl, by rw [ht]; exact hP, hD⟩, hS.F ht⟩) hS.2.2 dX4_open_48
      · have hm := g_t c5 hm
        refine lv_bipush (v := -5) hx hb dX4_open_37 (by decide) ?_
        cases hm
        subst hQ
        exact W.iret hx hb hr (fun t ht hW => ⟨⟨_, (), rfl, rfl, by rw [ht]; exact hP, hD⟩, hS.F ht⟩) hS.2.2 dX4_open_39
    · have hm := g_t c3 hm
      refine lv_bipush (v := -3) hx hb dX4_open_24 (by decide) ?_
      cases hm
      subst hQ
      exact W.iret hx hb hr (fun t ht hW => ⟨⟨_, (), rfl, rfl, by rw [ht]; exact hP, hD⟩, hS.F ht⟩) hS.2.2 dX4_open_26
  · have hm := g_t c1 hm
    refine lv_bipush (v := -11) hx hb dX4_open_7 (by decide) ?_
    cases hm
    subst hQ
    exact W.iret hx hb hr (fun t ht hW => ⟨⟨_, (), rfl, rfl, by rw [ht]; exact hP, hD⟩, hS.F ht⟩) hS.2.2 dX4_open_9
theorem hi_X4_isOpen_X4 : ∀ w ∈ wsX40, w ∈ wsX4_isOpen := by decide +kernel
theorem hk_X4_isOpen_26 : Cond.fieldLink RX4 26 "BuddyFiles" "slotOfHandle" "[I" ∈ wsX4_isOpen := by decide +kernel
abbrev rm_X4_isOpen : Room := { frames := 0, cells := 0, slots := 0, locals := 0 }
set_option maxHeartbeats 4000000 in
set_option maxRecDepth 100000 in
theorem k_X4_isOpen (l : Launch) (dC : Nat → ClassId) (dI : Nat → Nat → Nat) (A_x A_d A_mh A_jh A_ha A_da A_ma A_ja : Nat) (K_ha K_da K_ma K_ja : ClassId) (c_ha c_da c_ma c_ja : Nat → Int32) (c_up c_fu : Int32) (p1 : Int32) (r0 : Int32) (hm : m_X4_isOpen c_ha p1 = some r0) : Met l yX4_isOpen wsX4_isOpen rm_X4_isOpen (va_Pc [.ref A_x, .int p1] (fun U => va_P (dC, dI) vwCl (wB A_x A_d A_mh A_jh A_ha A_da A_ma A_ja K_ha K_da K_ma K_ja c_ha c_da c_ma c_ja c_up c_fu) U.heap ∧ va_K (dC, dI) vwCl (tB K_ha K_da K_ma K_ja) U)) (vp_Si (fun r => r0 = r)) 0 0 (fun _ => False) := by
  refine Met.ofW (cc := cX4_isOpen) (maxL := 2) (ret := (some .boolean)) (by decide) rfl ?_
  intro p e s m args below meth c s₁ B hml hv
  obtain ⟨rfl, hP, hK⟩ := hv
  have hx := B.exec
  have hb := B.bytes
  have hr := B.returns
  have hts := atoms_spec (ws := wsX4_isOpen) B.pre
  have hown : s.vm.findClass RX4 = some m.cls := findClass_of_methodNamed B.named
  have hlocks := B.notSynchronized
  have hl := lv_entry ([.ref A_x, .int p1]) (n := 2) (Nat.le_of_ble_eq_true rfl)
  rw [lg_entry_eq]
  generalize (lg_sl ([.ref A_x, .int p1]) ++ List.replicate (2 - (lg_sl ([.ref A_x, .int p1])).length) Slot.unset).toArray = ls at hl ⊢
  have hl : lv_has ls 2 [(0, .ref A_x), (1, .int p1)] := hl
  refine w_name (fun Q hQ => ?_)
  unfold m_X4_isOpen at hm
  refine lv_iload_n hx hb dX4_isOpen_0 rfl (lv_at hl 1 rfl) ?_
  refine lv_if_lt (tgt := 23) hx hb dX4_isOpen_1 (by decide) (fun c1 => ?_) (fun c1 => ?_)
  · have hm := g_t c1 hm
    refine lv_iconst (v := 0) hx hb dX4_isOpen_23 (by decide) ?_
    cases hm
    subst hQ
    exact W.zret hx hb hr rfl (fun t ht hW => ⟨_, rfl, rfl, ht⟩) (fun _ h => nomatch h) dX4_isOpen_24
  · have hm := g_f c1 hm
    refine lv_iload_n hx hb dX4_isOpen_4 rfl (lv_at hl 1 rfl) ?_
    refine lv_iconst (v := 4) hx hb dX4_isOpen_5 (by decide) ?_
    refine lv_icmp_ge (tgt := 23) hx hb dX4_isOpen_6 (by decide) (fun c2 => ?_) (fun c2 => ?_)
    · have hm := g_t c2 hm
      refine lv_iconst (v := 0) hx hb dX4_isOpen_23 (by decide) ?_
      cases hm
      subst hQ
      exact W.zret hx hb hr rfl (fun t ht hW => ⟨_, rfl, rfl, ht⟩) (fun _ h => nomatch h) dX4_isOpen_24
    · have hm := g_f c2 hm
      refine lv_aload_n hx hb dX4_isOpen_9 rfl (lv_at hl 0 rfl) ?_
      refine va_get (D := (dC, dI)) (ci := 2) (v := .ref A_ha) (C := RX4) (T := TX4) (N := 6) hx hb hts hi_X4_isOpen_X4 hown hK hP 0 rfl rfl 3 (by decide) (hts (Cond.fieldLink RX4 26 "BuddyFiles" "slotOfHandle" "[I") hk_X4_isOpen_26) (fun _ h9 => h9) rfl dX4_isOpen_10 ?_
      refine lv_iload_n hx hb dX4_isOpen_13 rfl (lv_at hl 1 rfl) ?_
      obtain ⟨x3, ex, hm⟩ := g_bind hm
      refine w_ald hx hb hK hP 4 0 rfl rfl ex dX4_isOpen_14 ?_
      refine lv_iconst (v := -1) hx hb dX4_isOpen_15 (by decide) ?_
      refine lv_icmp_eq (tgt := 23) hx hb dX4_isOpen_16 (by decide) (fun c4 => ?_) (fun c4 => ?_)
      · have hm := g_t c4 hm
        refine lv_iconst (v := 0) hx hb dX4_isOpen_23 (by decide) ?_
        cases hm
        subst hQ
        exact W.zret hx hb hr rfl (fun t ht hW => ⟨_, rfl, rfl, ht⟩) (fun _ h => nomatch h) dX4_isOpen_24
      · have hm := g_f c4 hm
        refine lv_iconst (v := 1) hx hb dX4_isOpen_19 (by decide) ?_
        refine lv_goto (tgt := 24) hx hb dX4_isOpen_20 (by decide) ?_
        cases hm
        subst hQ
        exact W.zret hx hb hr rfl (fun t ht hW => ⟨_, rfl, rfl, ht⟩) (fun _ h => nomatch h) dX4_isOpen_24
theorem hi_X4_close_X4 : ∀ w ∈ wsX40, w ∈ wsX4_close := by decide +kernel
theorem hk_X4_close_33 : Cond.fieldLink RX4 33 "BuddyFiles" "up" "Z" ∈ wsX4_close := by decide +kernel
theorem hk_X4_close_26 : Cond.fieldLink RX4 26 "BuddyFiles" "slotOfHandle" "[I" ∈ wsX4_close := by decide +kernel
abbrev rm_X4_close : Room := { frames := 1, cells := 0, slots := 0, locals := 21 }
set_option maxHeartbeats 4000000 in
set_option maxRecDepth 100000 in
theorem k_X4_close (l : Launch) (dC : Nat → ClassId) (dI : Nat → Nat → Nat) (A_x A_d A_mh A_jh A_ha A_da A_ma A_ja : Nat) (K_ha K_da K_ma K_ja : ClassId) (c_ha c_da c_ma c_ja : Nat → Int32) (c_up c_fu : Int32) (sz : Nat) (p1 : Int32) (r0 : Int32) (o_ha : (Nat → Int32)) (hm : m_X4_close c_ha c_up p1 = some (r0, o_ha)) : Met l yX4_close wsX4_close rm_X4_close (va_Pc [.ref A_x, .int p1] (fun U => U.heap.size = sz ∧ va_P (dC, dI) vwCl (wB A_x A_d A_mh A_jh A_ha A_da A_ma A_ja K_ha K_da K_ma K_ja c_ha c_da c_ma c_ja c_up c_fu) U.heap ∧ va_K (dC, dI) vwCl (tB K_ha K_da K_ma K_ja) U ∧ va_D (fun _ => True) (wB A_x A_d A_mh A_jh A_ha A_da A_ma A_ja K_ha K_da K_ma K_ja c_ha c_da c_ma c_ja c_up c_fu))) (va_Qi (fun (r : Int32) (_ : Unit) => r0 = r) (fun _ t => va_P (dC, dI) vwCl (wB A_x A_d A_mh A_jh A_ha A_da A_ma A_ja K_ha K_da K_ma K_ja o_ha c_da c_ma c_ja c_up c_fu) t.heap ∧ va_D (va_A (wB A_x A_d A_mh A_jh A_ha A_da A_ma A_ja K_ha K_da K_ma K_ja c_ha c_da c_ma c_ja c_up c_fu) sz) (wB A_x A_d A_mh A_jh A_ha A_da A_ma A_ja K_ha K_da K_ma K_ja o_ha c_da c_ma c_ja c_up c_fu)) (va_A (wB A_x A_d A_mh A_jh A_ha A_da A_ma A_ja K_ha K_da K_ma K_ja c_ha c_da c_ma c_ja c_up c_fu) sz)) 0 0 (va_A (wB A_x A_d A_mh A_jh A_ha A_da A_ma A_ja K_ha K_da K_ma K_ja c_ha c_da c_ma c_ja c_up c_fu) sz) := by
  refine Met.ofW (cc := cX4_close) (maxL := 2) (ret := (some .int)) (by decide) rfl ?_
  intro p e s m args below meth c s₁ B hml hv
  obtain ⟨rfl, hsz, hP, hK, hD0⟩ := hv
  have hx := B.exec
  have hb := B.bytes
  have hr := B.returns
  have hts := atoms_spec (ws := wsX4_close) B.pre
  have hown : s.vm.findClass RX4 = some m.cls := findClass_of_methodNamed B.named
  have hlocks := B.notSynchronized
  subst hsz
  have hD := hD0.self (sz := s.heap.size)
  generalize hAe : va_A (wB A_x A_d A_mh A_jh A_ha A_da A_ma A_ja K_ha K_da K_ma K_ja c_ha c_da c_ma c_ja c_up c_fu) s.heap.size = A at hD ⊢
  have hA : ∀ q : Nat, s.heap.size ≤ q → A q := fun q h => by rw [← hAe]; exact Or.inr h
  have hS : va_S A s.heap s.heap [] := va_S.rf
  have hP : va_P (dC, dI) vwCl (wB A_x A_d A_mh A_jh A_ha A_da A_ma A_ja K_ha K_da K_ma K_ja c_ha c_da c_ma c_ja c_up c_fu) s.heap := hP
  have hl := lv_entry ([.ref A_x, .int p1]) (n := 2) (Nat.le_of_ble_eq_true rfl)
  rw [lg_entry_eq]
  generalize (lg_sl ([.ref A_x, .int p1]) ++ List.replicate (2 - (lg_sl ([.ref A_x, .int p1])).length) Slot.unset).toArray = ls at hl ⊢
  have hl : lv_has ls 2 [(0, .ref A_x), (1, .int p1)] := hl
  refine w_name (fun Q hQ => ?_)
  unfold m_X4_close at hm
  refine lv_aload_n hx hb dX4_close_0 rfl (lv_at hl 0 rfl) ?_
  refine va_get (D := (dC, dI)) (ci := 2) (v := .int c_up) (C := RX4) (T := TX4) (N := 6) hx hb hts hi_X4_close_X4 hown hK hP 0 rfl rfl 4 (by decide) (hts (Cond.fieldLink RX4 33 "BuddyFiles" "up" "Z") hk_X4_close_33) (fun _ h9 => h9) rfl dX4_close_1 ?_
  refine lv_if_ne (tgt := 10) hx hb dX4_close_4 (by decide) (fun c1 => ?_) (fun c1 => ?_)
  · have hm := g_f c1 hm
    refine lv_aload_n hx hb dX4_close_10 rfl (lv_at hl 0 rfl) ?_
    refine lv_iload_n hx hb dX4_close_11 rfl (lv_at hl 1 rfl) ?_
    obtain ⟨x2, ex, hm⟩ := g_bind hm
    refine vp_callSi (W.runV (As := [.int p1]) (rest := []) ⟨hx, hb, hml, hown, hts⟩ (k_X4_isOpen l dC dI A_x A_d A_mh A_jh A_ha A_da A_ma A_ja K_ha K_da K_ma K_ja c_ha c_da c_ma c_ja c_up c_fu p1 _ ex) (cwV 1 hts gX4_close_X4_isOpen rfl rfl rfl (by decide +kernel) ⟨Nat.le_of_ble_eq_true rfl, Nat.le_of_ble_eq_true rfl⟩) ⟨w_blR, va_recv hK hP (ci := 2) (q0 := 0) rfl rfl, fun U hU hW => ⟨rfl, by rw [hU]; exact hP.sub [0, 1, 2, 3, 4, 5, 6, 7] rfl, va_K.moved hW.alike (hK.sub [0, 1, 2, 3] rfl)⟩⟩ rfl rfl hl.1 rfl (lv_room (Nat.le_of_ble_eq_true rfl)) dX4_close_12 ⟨Nat.zero_le _, Nat.zero_le _⟩) (fun _ ey => ?_)
    subst ey
    refine lv_if_ne (tgt := 21) hx hb dX4_close_15 (by decide) (fun c3 => ?_) (fun c3 => ?_)
    · have hm := g_f c3 hm
      refine lv_aload_n hx hb dX4_close_21 rfl (lv_at hl 0 rfl) ?_
      refine va_get (D := (dC, dI)) (ci := 2) (v := .ref A_ha) (C := RX4) (T := TX4) (N := 6) hx hb hts hi_X4_close_X4 hown hK hP 0 rfl rfl 3 (by decide) (hts (Cond.fieldLink RX4 26 "BuddyFiles" "slotOfHandle" "[I") hk_X4_close_26) (fun _ h9 => h9) rfl dX4_close_22 ?_
      refine lv_iload_n hx hb dX4_close_25 rfl (lv_at hl 1 rfl) ?_
      refine lv_iconst (v := -1) hx hb dX4_close_26 (by decide) ?_
      obtain ⟨f4, ex, hm⟩ := g_bind hm
      refine w_ast hx hb hK hP hD hS 4 0 rfl rfl ex dX4_close_27 (fun H5 locs5 hP hD hS => ?_)
      have hP : va_P (dC, dI) vwCl (wB A_x A_d A_mh A_jh A_ha A_da A_ma A_ja K_ha K_da K_ma K_ja f4 c_da c_ma c_ja c_up c_fu) H5 := hP
      have hD : va_D A (wB A_x A_d A_mh A_jh A_ha A_da A_ma A_ja K_ha K_da K_ma K_ja f4 c_da c_ma c_ja c_up c_fu) := hD
      refine lv_iconst (v := 0) hx hb dX4_close_28 (by decide) ?_
      cases hm
      subst hQ
      exact W.iret hx hb hr (fun t ht hW => ⟨⟨_, (), rfl, rfl, by rw [ht]; exact hP, hD⟩, hS.F ht⟩) hS.2.2 dX4_close_29
    · have hm := g_t c3 hm
      refine lv_bipush (v := -6) hx hb dX4_close_18 (by decide) ?_
      cases hm
      subst hQ
      exact W.iret hx hb hr (fun t ht hW => ⟨⟨_, (), rfl, rfl, by rw [ht]; exact hP, hD⟩, hS.F ht⟩) hS.2.2 dX4_close_20
  · have hm := g_t c1 hm
    refine lv_bipush (v := -11) hx hb dX4_close_7 (by decide) ?_
    cases hm
    subst hQ
    exact W.iret hx hb hr (fun t ht hW => ⟨⟨_, (), rfl, rfl, by rw [ht]; exact hP, hD⟩, hS.F ht⟩) hS.2.2 dX4_close_9
theorem hi_X4_write_X4 : ∀ w ∈ wsX40, w ∈ wsX4_write := by decide +kernel
theorem hk_X4_write_33 : Cond.fieldLink RX4 33 "BuddyFiles" "up" "Z" ∈ wsX4_write := by decide +kernel
theorem hk_X4_write_26 : Cond.fieldLink RX4 26 "BuddyFiles" "slotOfHandle" "[I" ∈ wsX4_write := by decide +kernel
theorem hk_X4_write_19 : Cond.fieldLink RX4 19 "BuddyFiles" "memory" "LBuddyFiles$Home;" ∈ wsX4_write := by decide +kernel
abbrev rm_X4_write : Room := { frames := 6, cells := 0, slots := 0, locals := 144 }
set_option maxHeartbeats 4000000 in
set_option maxRecDepth 100000 in
theorem k_X4_write (l : Launch) (dC : Nat → ClassId) (dI : Nat → Nat → Nat) (A_x A_d A_mh A_jh A_ha A_da A_ma A_ja : Nat) (K_ha K_da K_ma K_ja : ClassId) (c_ha c_da c_ma c_ja : Nat → Int32) (c_up c_fu : Int32) (sz : Nat) (p1 : Int32) (p2 : Int32) (p3 : Int32) (r0 : Int32) (o_ma : (Nat → Int32)) (hm : m_X4_write c_ha c_ma c_up p1 p2 p3 = some (r0, o_ma)) : Met l yX4_write wsX4_write rm_X4_write (va_Pc [.ref A_x, .int p1, .int p2, .int p3] (fun U => U.heap.size = sz ∧ va_P (dC, dI) vwCl (wB A_x A_d A_mh A_jh A_ha A_da A_ma A_ja K_ha K_da K_ma K_ja c_ha c_da c_ma c_ja c_up c_fu) U.heap ∧ va_K (dC, dI) vwCl (tB K_ha K_da K_ma K_ja) U ∧ va_D (fun _ => True) (wB A_x A_d A_mh A_jh A_ha A_da A_ma A_ja K_ha K_da K_ma K_ja c_ha c_da c_ma c_ja c_up c_fu))) (va_Qi (fun (r : Int32) (_ : Unit) => r0 = r) (fun _ t => va_P (dC, dI) vwCl (wB A_x A_d A_mh A_jh A_ha A_da A_ma A_ja K_ha K_da K_ma K_ja c_ha c_da o_ma c_ja c_up c_fu) t.heap ∧ va_D (va_A (wB A_x A_d A_mh A_jh A_ha A_da A_ma A_ja K_ha K_da K_ma K_ja c_ha c_da c_ma c_ja c_up c_fu) sz) (wB A_x A_d A_mh A_jh A_ha A_da A_ma A_ja K_ha K_da K_ma K_ja c_ha c_da o_ma c_ja c_up c_fu)) (va_A (wB A_x A_d A_mh A_jh A_ha A_da A_ma A_ja K_ha K_da K_ma K_ja c_ha c_da c_ma c_ja c_up c_fu) sz)) 0 0 (va_A (wB A_x A_d A_mh A_jh A_ha A_da A_ma A_ja K_ha K_da K_ma K_ja c_ha c_da c_ma c_ja c_up c_fu) sz) := by
  refine Met.ofW (cc := cX4_write) (maxL := 6) (ret := (some .int)) (by decide) rfl ?_
  intro p e s m args below meth c s₁ B hml hv
  obtain ⟨rfl, hsz, hP, hK, hD0⟩ := hv
  have hx := B.exec
  have hb := B.bytes
  have hr := B.returns
  have hts := atoms_spec (ws := wsX4_write) B.pre
  have hown : s.vm.findClass RX4 = some m.cls := findClass_of_methodNamed B.named
  have hlocks := B.notSynchronized
  subst hsz
  have hD := hD0.self (sz := s.heap.size)
  generalize hAe : va_A (wB A_x A_d A_mh A_jh A_ha A_da A_ma A_ja K_ha K_da K_ma K_ja c_ha c_da c_ma c_ja c_up c_fu) s.heap.size = A at hD ⊢
  have hA : ∀ q : Nat, s.heap.size ≤ q → A q := fun q h => by rw [← hAe]; exact Or.inr h
  have hS : va_S A s.heap s.heap [] := va_S.rf
  have hP : va_P (dC, dI) vwCl (wB A_x A_d A_mh A_jh A_ha A_da A_ma A_ja K_ha K_da K_ma K_ja c_ha c_da c_ma c_ja c_up c_fu) s.heap := hP
  have hl := lv_entry ([.ref A_x, .int p1, .int p2, .int p3]) (n := 6) (Nat.le_of_ble_eq_true rfl)
  rw [lg_entry_eq]
  generalize (lg_sl ([.ref A_x, .int p1, .int p2, .int p3]) ++ List.replicate (6 - (lg_sl ([.ref A_x, .int p1, .int p2, .int p3])).length) Slot.unset).toArray = ls at hl ⊢
  have hl : lv_has ls 6 [(0, .ref A_x), (1, .int p1), (2, .int p2), (3, .int p3)] := hl
  refine w_name (fun Q hQ => ?_)
  unfold m_X4_write at hm
  refine lv_aload_n hx hb dX4_write_0 rfl (lv_at hl 0 rfl) ?_
  refine va_get (D := (dC, dI)) (ci := 2) (v := .int c_up) (C := RX4) (T := TX4) (N := 6) hx hb hts hi_X4_write_X4 hown hK hP 0 rfl rfl 4 (by decide) (hts (Cond.fieldLink RX4 33 "BuddyFiles" "up" "Z") hk_X4_write_33) (fun _ h9 => h9) rfl dX4_write_1 ?_
  refine lv_if_ne (tgt := 10) hx hb dX4_write_4 (by decide) (fun c1 => ?_) (fun c1 => ?_)
  · have hm := g_f c1 hm
    refine lv_aload_n hx hb dX4_write_10 rfl (lv_at hl 0 rfl) ?_
    refine lv_iload_n hx hb dX4_write_11 rfl (lv_at hl 1 rfl) ?_
    obtain ⟨x2, ex, hm⟩ := g_bind hm
    refine vp_callSi (W.runV (As := [.int p1]) (rest := []) ⟨hx, hb, hml, hown, hts⟩ (k_X4_isOpen l dC dI A_x A_d A_mh A_jh A_ha A_da A_ma A_ja K_ha K_da K_ma K_ja c_ha c_da c_ma c_ja c_up c_fu p1 _ ex) (cwV 1 hts gX4_write_X4_isOpen rfl rfl rfl (by decide +kernel) ⟨Nat.le_of_ble_eq_true rfl, Nat.le_of_ble_eq_true rfl⟩) ⟨w_blR, va_recv hK hP (ci := 2) (q0 := 0) rfl rfl, fun U hU hW => ⟨rfl, by rw [hU]; exact hP.sub [0, 1, 2, 3, 4, 5, 6, 7] rfl, va_K.moved hW.alike (hK.sub [0, 1, 2, 3] rfl)⟩⟩ rfl rfl hl.1 rfl (lv_room (Nat.le_of_ble_eq_true rfl)) dX4_write_12 ⟨Nat.zero_le _, Nat.zero_le _⟩) (fun _ ey => ?_)
    subst ey
    refine lv_if_ne (tgt := 21) hx hb dX4_write_15 (by decide) (fun c3 => ?_) (fun c3 => ?_)
    · have hm := g_f c3 hm
      refine lv_iload_n hx hb dX4_write_21 rfl (lv_at hl 2 rfl) ?_
      refine lv_if_lt (tgt := 31) hx hb dX4_write_22 (by decide) (fun c4 => ?_) (fun c4 => ?_)
      · have hm := g_t c4 hm
        refine lv_bipush (v := -7) hx hb dX4_write_31 (by decide) ?_
        cases hm
        subst hQ
        exact W.iret hx hb hr (fun t ht hW => ⟨⟨_, (), rfl, rfl, by rw [ht]; exact hP, hD⟩, hS.F ht⟩) hS.2.2 dX4_write_33
      · have hm := g_f c4 hm
        refine lv_iload_n hx hb dX4_write_25 rfl (lv_at hl 2 rfl) ?_
        refine lv_bipush (v := 64) hx hb dX4_write_26 (by decide) ?_
        refine lv_icmp_lt (tgt := 34) hx hb dX4_write_28 (by decide) (fun c5 => ?_) (fun c5 => ?_)
        · have hm := g_t c5 hm
          refine lv_aload_n hx hb dX4_write_34 rfl (lv_at hl 0 rfl) ?_
          refine va_get (D := (dC, dI)) (ci := 2) (v := .ref A_ha) (C := RX4) (T := TX4) (N := 6) hx hb hts hi_X4_write_X4 hown hK hP 0 rfl rfl 3 (by decide) (hts (Cond.fieldLink RX4 26 "BuddyFiles" "slotOfHandle" "[I") hk_X4_write_26) (fun _ h9 => h9) rfl dX4_write_35 ?_
          refine lv_iload_n hx hb dX4_write_38 rfl (lv_at hl 1 rfl) ?_
          obtain ⟨x6, ex, hm⟩ := g_bind hm
          refine w_ald hx hb hK hP 4 0 rfl rfl ex dX4_write_39 ?_
          refine lv_istore (lv' := [(4, .int x6), (0, .ref A_x), (1, .int p1), (2, .int p2), (3, .int p3)]) hx hb dX4_write_40 hl (by decide) rfl (fun ls hl => ?_)
          refine lv_iload_n hx hb dX4_write_42 rfl (lv_at hl 3 rfl) ?_
          refine lv_aload_n hx hb dX4_write_43 rfl (lv_at hl 1 rfl) ?_
          refine va_get (D := (dC, dI)) (ci := 2) (v := .ref A_mh) (C := RX4) (T := TX4) (N := 6) hx hb hts hi_X4_write_X4 hown hK hP 0 rfl rfl 1 (by decide) (hts (Cond.fieldLink RX4 19 "BuddyFiles" "memory" "LBuddyFiles$Home;") hk_X4_write_19) (fun _ h9 => h9) rfl dX4_write_44 ?_
          refine lv_iload hx hb dX4_write_47 (lv_at hl 0 rfl) ?_
          obtain ⟨x7, ex, hm⟩ := g_bind hm
          refine vp_callSi (W.runV (As := [.int x6]) (rest := [.int p2]) ⟨hx, hb, hml, hown, hts⟩ (k_X2_lengthOf l dC dI A_mh A_ma K_ma c_ma x6 _ ex) (cwV 1 hts gX4_write_X2_lengthOf rfl rfl rfl (by decide +kernel) ⟨Nat.le_of_ble_eq_true rfl, Nat.le_of_ble_eq_true rfl⟩) ⟨w_blR, va_recv hK hP (ci := 1) (q0 := 2) rfl rfl, fun U hU hW => ⟨rfl, by rw [hU]; exact hP.sub [2, 6] rfl, va_K.moved hW.alike (hK.sub [2] rfl)⟩⟩ rfl rfl hl.1 rfl (lv_room (Nat.le_of_ble_eq_true rfl)) dX4_write_49 ⟨Nat.zero_le _, Nat.zero_le _⟩) (fun _ ey => ?_)
          subst ey
          refine lv_icmp_lt (tgt := 77) hx hb dX4_write_52 (by decide) (fun c8 => ?_) (fun c8 => ?_)
          · have hm := g_t c8 hm
            refine lv_aload_n hx hb dX4_write_77 rfl (lv_at hl 1 rfl) ?_
            refine va_get (D := (dC, dI)) (ci := 2) (v := .ref A_mh) (C := RX4) (T := TX4) (N := 6) hx hb hts hi_X4_write_X4 hown hK hP 0 rfl rfl 1 (by decide) (hts (Cond.fieldLink RX4 19 "BuddyFiles" "memory" "LBuddyFiles$Home;") hk_X4_write_19) (fun _ h9 => h9) rfl dX4_write_78 ?_
            refine lv_iload hx hb dX4_write_81 (lv_at hl 0 rfl) ?_
            refine lv_iload_n hx hb dX4_write_83 rfl (lv_at hl 3 rfl) ?_
            refine lv_iload_n hx hb dX4_write_84 rfl (lv_at hl 4 rfl) ?_
            obtain ⟨f9, ex, hm⟩ := g_bind hm
            have hPc := hP.sub (ws' := (wH A_mh A_ma K_ma c_ma)) [2, 6] rfl
            have hDc := hD.sub (ws' := (wH A_mh A_ma K_ma c_ma)) [2, 6] (by decide) rfl
            have hKc := hK.sub (tys' := (tH K_ma)) [2] rfl
            have hFc := va_free (wc := (wH A_mh A_ma K_ma c_ma)) hD hS hA [2, 6] rfl
            refine va_callv (va_runV (As := [.int x6, .int p2, .int p3]) (rest := []) ⟨hx, hb, hml, hown, hts⟩ (k_X2_putWord l dC dI A_mh A_ma K_ma c_ma s.heap.size x6 p2 p3 _ ex) (cwV 3 hts gX4_write_X2_putWord rfl rfl rfl (by decide +kernel) ⟨Nat.le_of_ble_eq_true rfl, Nat.le_of_ble_eq_true rfl⟩) ⟨w_blW, va_recv hKc hPc (ci := 1) (q0 := 0) rfl rfl, fun U hU hW => ⟨rfl, by rw [hU], by rw [hU]; exact hPc, va_K.moved hW.alike hKc, hDc.weaken (fun _ _ _ _ => trivial)⟩⟩ rfl rfl hl.1 rfl (lv_room (Nat.le_of_ble_eq_true rfl)) dX4_write_85 ⟨Nat.zero_le _, Nat.zero_le _⟩) hS (fun q _ h => hFc q h) hFc (fun _ t H10 locs10 ht hvm hw hB hz1 hk1 hS => ?_)
            refine W.widen (k := 0) (n := 0) (Nat.le_refl 0) (Nat.le_refl 0) ?_
            obtain ⟨hP1, hD1⟩ := hB
            rw [ht] at hP1
            obtain ⟨hP, hD⟩ := va_join (wr := [(A_x, .inr (2, [.ref A_d, .ref A_mh, .ref A_jh, .ref A_ha, .int c_up, .int c_fu])), (A_d, .inr (0, [.ref A_da])), (A_jh, .inr (1, [.ref A_ja])), (A_ha, .inl (K_ha, 4, .inl c_ha)), (A_da, .inl (K_da, 332, .inl c_da)), (A_ja, .inl (K_ja, 110, .inl c_ja))]) (w1 := (wH A_mh A_ma K_ma f9)) hP hD [2, 6] [0, 1, 3, 4, 5, 7] rfl rfl (by decide) (by decide) hk1 hFc hP1 hD1
            have hP : va_P (dC, dI) vwCl (wB A_x A_d A_mh A_jh A_ha A_da A_ma A_ja K_ha K_da K_ma K_ja c_ha c_da f9 c_ja c_up c_fu) H10 := hP.sub [0, 1, 6, 2, 3, 4, 7, 5] rfl
            have hD : va_D A (wB A_x A_d A_mh A_jh A_ha A_da A_ma A_ja K_ha K_da K_ma K_ja c_ha c_da f9 c_ja c_up c_fu) := hD.sub [0, 1, 6, 2, 3, 4, 7, 5] (by decide) rfl
            refine lv_iconst (v := 0) hx hb dX4_write_88 (by decide) ?_
            cases hm
            subst hQ
            exact W.iret hx hb hr (fun t ht hW => ⟨⟨_, (), rfl, rfl, by rw [ht]; exact hP, hD⟩, hS.F ht⟩) hS.2.2 dX4_write_89
          · have hm := g_f c8 hm
            refine lv_aload_n hx hb dX4_write_55 rfl (lv_at hl 1 rfl) ?_
            refine va_get (D := (dC, dI)) (ci := 2) (v := .ref A_mh) (C := RX4) (T := TX4) (N := 6) hx hb hts hi_X4_write_X4 hown hK hP 0 rfl rfl 1 (by decide) (hts (Cond.fieldLink RX4 19 "BuddyFiles" "memory" "LBuddyFiles$Home;") hk_X4_write_19) (fun _ h9 => h9) rfl dX4_write_56 ?_
            refine lv_iload hx hb dX4_write_59 (lv_at hl 0 rfl) ?_
            refine lv_iload_n hx hb dX4_write_61 rfl (lv_at hl 3 rfl) ?_
            refine lv_iconst (v := 1) hx hb dX4_write_62 (by decide) ?_
            refine lv_iadd hx hb dX4_write_63 ?_
            obtain ⟨⟨x11, f12⟩, ex, hm⟩ := g_bind hm
            have hm := g_k2_s hm
            have hPc := hP.sub (ws' := (wH A_mh A_ma K_ma c_ma)) [2, 6] rfl
            have hDc := hD.sub (ws' := (wH A_mh A_ma K_ma c_ma)) [2, 6] (by decide) rfl
            have hKc := hK.sub (tys' := (tH K_ma)) [2] rfl
            have hFc := va_free (wc := (wH A_mh A_ma K_ma c_ma)) hD hS hA [2, 6] rfl
            refine va_calli (va_runV (As := [.int x6, .int (p2 + (1 : Int32))]) (rest := []) ⟨hx, hb, hml, hown, hts⟩ (k_X2_grow l dC dI A_mh A_ma K_ma c_ma s.heap.size x6 (p2 + (1 : Int32)) _ _ ex) (cwV 2 hts gX4_write_X2_grow rfl rfl rfl (by decide +kernel) ⟨Nat.le_of_ble_eq_true rfl, Nat.le_of_ble_eq_true rfl⟩) ⟨w_blW, va_recv hKc hPc (ci := 1) (q0 := 0) rfl rfl, fun U hU hW => ⟨rfl, by rw [hU], by rw [hU]; exact hPc, va_K.moved hW.alike hKc, hDc.weaken (fun _ _ _ _ => trivial)⟩⟩ rfl rfl hl.1 rfl (lv_room (Nat.le_of_ble_eq_true rfl)) dX4_write_64 ⟨Nat.zero_le _, Nat.zero_le _⟩) hS (fun q _ h => hFc q h) hFc (fun _ _ t H13 locs13 ht hvm hw hB hz1 hk1 hS => ?_)
            subst hw
            refine W.widen (k := 0) (n := 0) (Nat.le_refl 0) (Nat.le_refl 0) ?_
            obtain ⟨hP1, hD1⟩ := hB
            rw [ht] at hP1
            obtain ⟨hP, hD⟩ := va_join (wr := [(A_x, .inr (2, [.ref A_d, .ref A_mh, .ref A_jh, .ref A_ha, .int c_up, .int c_fu])), (A_d, .inr (0, [.ref A_da])), (A_jh, .inr (1, [.ref A_ja])), (A_ha, .inl (K_ha, 4, .inl c_ha)), (A_da, .inl (K_da, 332, .inl c_da)), (A_ja, .inl (K_ja, 110, .inl c_ja))]) (w1 := (wH A_mh A_ma K_ma f12)) hP hD [2, 6] [0, 1, 3, 4, 5, 7] rfl rfl (by decide) (by decide) hk1 hFc hP1 hD1
            have hP : va_P (dC, dI) vwCl (wB A_x A_d A_mh A_jh A_ha A_da A_ma A_ja K_ha K_da K_ma K_ja c_ha c_da f12 c_ja c_up c_fu) H13 := hP.sub [0, 1, 6, 2, 3, 4, 7, 5] rfl
            have hD : va_D A (wB A_x A_d A_mh A_jh A_ha A_da A_ma A_ja K_ha K_da K_ma K_ja c_ha c_da f12 c_ja c_up c_fu) := hD.sub [0, 1, 6, 2, 3, 4, 7, 5] (by decide) rfl
            refine lv_istore (lv' := [(5, .int x11), (4, .int x6), (0, .ref A_x), (1, .int p1), (2, .int p2), (3, .int p3)]) hx hb dX4_write_67 hl (by decide) rfl (fun ls hl => ?_)
            refine lv_iload hx hb dX4_write_69 (lv_at hl 0 rfl) ?_
            refine lv_if_eq (tgt := 77) hx hb dX4_write_71 (by decide) (fun c14 => ?_) (fun c14 => ?_)
            · have hm := g_t c14 hm
              refine lv_aload_n hx hb dX4_write_77 rfl (lv_at hl 2 rfl) ?_
              refine va_get (D := (dC, dI)) (ci := 2) (v := .ref A_mh) (C := RX4) (T := TX4) (N := 6) hx hb hts hi_X4_write_X4 hown hK hP 0 rfl rfl 1 (by decide) (hts (Cond.fieldLink RX4 19 "BuddyFiles" "memory" "LBuddyFiles$Home;") hk_X4_write_19) (fun _ h9 => h9) rfl dX4_write_78 ?_
              refine lv_iload hx hb dX4_write_81 (lv_at hl 1 rfl) ?_
              refine lv_iload_n hx hb dX4_write_83 rfl (lv_at hl 4 rfl) ?_
              refine lv_iload_n hx hb dX4_write_84 rfl (lv_at hl 5 rfl) ?_
              obtain ⟨f15, ex, hm⟩ := g_bind hm
              have hPc := hP.sub (ws' := (wH A_mh A_ma K_ma f12)) [2, 6] rfl
              have hDc := hD.sub (ws' := (wH A_mh A_ma K_ma f12)) [2, 6] (by decide) rfl
              have hKc := hK.sub (tys' := (tH K_ma)) [2] rfl
              have hFc := va_free (wc := (wH A_mh A_ma K_ma f12)) hD hS hA [2, 6] rfl
              refine va_callv (va_runV (As := [.int x6, .int p2, .int p3]) (rest := []) ⟨hx, hb, hml, hown, hts⟩ (k_X2_putWord l dC dI A_mh A_ma K_ma f12 H13.size x6 p2 p3 _ ex) (cwV 3 hts gX4_write_X2_putWord rfl rfl rfl (by decide +kernel) ⟨Nat.le_of_ble_eq_true rfl, Nat.le_of_ble_eq_true rfl⟩) ⟨w_blW, va_recv hKc hPc (ci := 1) (q0 := 0) rfl rfl, fun U hU hW => ⟨rfl, by rw [hU], by rw [hU]; exact hPc, va_K.moved hW.alike hKc, hDc.weaken (fun _ _ _ _ => trivial)⟩⟩ rfl rfl hl.1 rfl (lv_room (Nat.le_of_ble_eq_true rfl)) dX4_write_85 ⟨Nat.zero_le _, Nat.zero_le _⟩) hS (fun q _ h => hFc q h) hFc (fun _ t H16 locs16 ht hvm hw hB hz1 hk1 hS => ?_)
              refine W.widen (k := 0) (n := 0) (Nat.le_refl 0) (Nat.le_refl 0) ?_
              obtain ⟨hP1, hD1⟩ := hB
              rw [ht] at hP1
              obtain ⟨hP, hD⟩ := va_join (wr := [(A_x, .inr (2, [.ref A_d, .ref A_mh, .ref A_jh, .ref A_ha, .int c_up, .int c_fu])), (A_d, .inr (0, [.ref A_da])), (A_jh, .inr (1, [.ref A_ja])), (A_ha, .inl (K_ha, 4, .inl c_ha)), (A_da, .inl (K_da, 332, .inl c_da)), (A_ja, .inl (K_ja, 110, .inl c_ja))]) (w1 := (wH A_mh A_ma K_ma f15)) hP hD [2, 6] [0, 1, 3, 4, 5, 7] rfl rfl (by decide) (by decide) hk1 hFc hP1 hD1
              have hP : va_P (dC, dI) vwCl (wB A_x A_d A_mh A_jh A_ha A_da A_ma A_ja K_ha K_da K_ma K_ja c_ha c_da f15 c_ja c_up c_fu) H16 := hP.sub [0, 1, 6, 2, 3, 4, 7, 5] rfl
              have hD : va_D A (wB A_x A_d A_mh A_jh A_ha A_da A_ma A_ja K_ha K_da K_ma K_ja c_ha c_da f15 c_ja c_up c_fu) := hD.sub [0, 1, 6, 2, 3, 4, 7, 5] (by decide) rfl
              refine lv_iconst (v := 0) hx hb dX4_write_88 (by decide) ?_
              cases hm
              subst hQ
              exact W.iret hx hb hr (fun t ht hW => ⟨⟨_, (), rfl, rfl, by rw [ht]; exact hP, hD⟩, hS.F ht⟩) hS.2.2 dX4_write_89
            · have hm := g_f c14 hm
              refine lv_iload hx hb dX4_write_74 (lv_at hl 0 rfl) ?_
              cases hm
              subst hQ
              exact W.iret hx hb hr (fun t ht hW => ⟨⟨_, (), rfl, rfl, by rw [ht]; exact hP, hD⟩, hS.F ht⟩) hS.2.2 dX4_write_76
        · have hm := g_f c5 hm
          refine lv_bipush (v := -7) hx hb dX4_write_31 (by decide) ?_
          cases hm
          subst hQ
          exact W.iret hx hb hr (fun t ht hW => ⟨⟨_, (), rfl, rfl, by rw [ht]; exact hP, hD⟩, hS.F ht⟩) hS.2.2 dX4_write_33
    · have hm := g_t c3 hm
      refine lv_bipush (v := -6) hx hb dX4_write_18 (by decide) ?_
      cases hm
      subst hQ
      exact W.iret hx hb hr (fun t ht hW => ⟨⟨_, (), rfl, rfl, by rw [ht]; exact hP, hD⟩, hS.F ht⟩) hS.2.2 dX4_write_20
  · have hm := g_t c1 hm
    refine lv_bipush (v := -11) hx hb dX4_write_7 (by decide) ?_
    cases hm
    subst hQ
    exact W.iret hx hb hr (fun t ht hW => ⟨⟨_, (), rfl, rfl, by rw [ht]; exact hP, hD⟩, hS.F ht⟩) hS.2.2 dX4_write_9
theorem hi_X4_read_X4 : ∀ w ∈ wsX40, w ∈ wsX4_read := by decide +kernel
theorem hk_X4_read_33 : Cond.fieldLink RX4 33 "BuddyFiles" "up" "Z" ∈ wsX4_read := by decide +kernel
theorem hk_X4_read_26 : Cond.fieldLink RX4 26 "BuddyFiles" "slotOfHandle" "[I" ∈ wsX4_read := by decide +kernel
theorem hk_X4_read_19 : Cond.fieldLink RX4 19 "BuddyFiles" "memory" "LBuddyFiles$Home;" ∈ wsX4_read := by decide +kernel
abbrev rm_X4_read : Room := { frames := 4, cells := 0, slots := 0, locals := 89 }
set_option maxHeartbeats 4000000 in
set_option maxRecDepth 100000 in
theorem k_X4_read (l : Launch) (dC : Nat → ClassId) (dI : Nat → Nat → Nat) (A_x A_d A_mh A_jh A_ha A_da A_ma A_ja : Nat) (K_ha K_da K_ma K_ja : ClassId) (c_ha c_da c_ma c_ja : Nat → Int32) (c_up c_fu : Int32) (p1 : Int32) (p2 : Int32) (r0 : Int32) (hm : m_X4_read c_ha c_ma c_up p1 p2 = some r0) : Met l yX4_read wsX4_read rm_X4_read (va_Pc [.ref A_x, .int p1, .int p2] (fun U => va_P (dC, dI) vwCl (wB A_x A_d A_mh A_jh A_ha A_da A_ma A_ja K_ha K_da K_ma K_ja c_ha c_da c_ma c_ja c_up c_fu) U.heap ∧ va_K (dC, dI) vwCl (tB K_ha K_da K_ma K_ja) U)) (vp_Si (fun r => r0 = r)) 0 0 (fun _ => False) := by
  refine Met.ofW (cc := cX4_read) (maxL := 4) (ret := (some .int)) (by decide) rfl ?_
  intro p e s m args below meth c s₁ B hml hv
  obtain ⟨rfl, hP, hK⟩ := hv
  have hx := B.exec
  have hb := B.bytes
  have hr := B.returns
  have hts := atoms_spec (ws := wsX4_read) B.pre
  have hown : s.vm.findClass RX4 = some m.cls := findClass_of_methodNamed B.named
  have hlocks := B.notSynchronized
  have hl := lv_entry ([.ref A_x, .int p1, .int p2]) (n := 4) (Nat.le_of_ble_eq_true rfl)
  rw [lg_entry_eq]
  generalize (lg_sl ([.ref A_x, .int p1, .int p2]) ++ List.replicate (4 - (lg_sl ([.ref A_x, .int p1, .int p2])).length) Slot.unset).toArray = ls at hl ⊢
  have hl : lv_has ls 4 [(0, .ref A_x), (1, .int p1), (2, .int p2)] := hl
  refine w_name (fun Q hQ => ?_)
  unfold m_X4_read at hm
  refine lv_aload_n hx hb dX4_read_0 rfl (lv_at hl 0 rfl) ?_
  refine va_get (D := (dC, dI)) (ci := 2) (v := .int c_up) (C := RX4) (T := TX4) (N := 6) hx hb hts hi_X4_read_X4 hown hK hP 0 rfl rfl 4 (by decide) (hts (Cond.fieldLink RX4 33 "BuddyFiles" "up" "Z") hk_X4_read_33) (fun _ h9 => h9) rfl dX4_read_1 ?_
  refine lv_if_eq (tgt := 15) hx hb dX4_read_4 (by decide) (fun c1 => ?_) (fun c1 => ?_)
  · have hm := g_t c1 hm
    refine lv_iconst (v := 0) hx hb dX4_read_15 (by decide) ?_
    cases hm
    subst hQ
    exact W.iret hx hb hr (fun t ht hW => ⟨_, rfl, rfl, ht⟩) (fun _ h => nomatch h) dX4_read_16
  · have hm := g_f c1 hm
    refine lv_aload_n hx hb dX4_read_7 rfl (lv_at hl 0 rfl) ?_
    refine lv_iload_n hx hb dX4_read_8 rfl (lv_at hl 1 rfl) ?_
    obtain ⟨x2, ex, hm⟩ := g_bind hm
    refine vp_callSi (W.runV (As := [.int p1]) (rest := []) ⟨hx, hb, hml, hown, hts⟩ (k_X4_isOpen l dC dI A_x A_d A_mh A_jh A_ha A_da A_ma A_ja K_ha K_da K_ma K_ja c_ha c_da c_ma c_ja c_up c_fu p1 _ ex) (cwV 1 hts gX4_read_X4_isOpen rfl rfl rfl (by decide +kernel) ⟨Nat.le_of_ble_eq_true rfl, Nat.le_of_ble_eq_true rfl⟩) ⟨w_blR, va_recv hK hP (ci := 2) (q0 := 0) rfl rfl, fun U hU hW => ⟨rfl, by rw [hU]; exact hP.sub [0, 1, 2, 3, 4, 5, 6, 7] rfl, va_K.moved hW.alike (hK.sub [0, 1, 2, 3] rfl)⟩⟩ rfl rfl hl.1 rfl (lv_room (Nat.le_of_ble_eq_true rfl)) dX4_read_9 ⟨Nat.zero_le _, Nat.zero_le _⟩) (fun _ ey => ?_)
    subst ey
    refine lv_if_ne (tgt := 17) hx hb dX4_read_12 (by decide) (fun c3 => ?_) (fun c3 => ?_)
    · have hm := g_f c3 hm
      refine lv_aload_n hx hb dX4_read_17 rfl (lv_at hl 0 rfl) ?_
      refine va_get (D := (dC, dI)) (ci := 2) (v := .ref A_ha) (C := RX4) (T := TX4) (N := 6) hx hb hts hi_X4_read_X4 hown hK hP 0 rfl rfl 3 (by decide) (hts (Cond.fieldLink RX4 26 "BuddyFiles" "slotOfHandle" "[I") hk_X4_read_26) (fun _ h9 => h9) rfl dX4_read_18 ?_
      refine lv_iload_n hx hb dX4_read_21 rfl (lv_at hl 1 rfl) ?_
      obtain ⟨x4, ex, hm⟩ := g_bind hm
      refine w_ald hx hb hK hP 4 0 rfl rfl ex dX4_read_22 ?_
      refine lv_istore_n (lv' := [(3, .int x4), (0, .ref A_x), (1, .int p1), (2, .int p2)]) hx hb dX4_read_23 rfl hl (by decide) rfl (fun ls hl => ?_)
      refine lv_iload_n hx hb dX4_read_24 rfl (lv_at hl 3 rfl) ?_
      refine lv_if_lt (tgt := 40) hx hb dX4_read_25 (by decide) (fun c5 => ?_) (fun c5 => ?_)
      · have hm := g_t c5 hm
        refine lv_iconst (v := 0) hx hb dX4_read_40 (by decide) ?_
        cases hm
        subst hQ
        exact W.iret hx hb hr (fun t ht hW => ⟨_, rfl, rfl, ht⟩) (fun _ h => nomatch h) dX4_read_41
      · have hm := g_f c5 hm
        refine lv_iload_n hx hb dX4_read_28 rfl (lv_at hl 3 rfl) ?_
        refine lv_aload_n hx hb dX4_read_29 rfl (lv_at hl 1 rfl) ?_
        refine va_get (D := (dC, dI)) (ci := 2) (v := .ref A_mh) (C := RX4) (T := TX4) (N := 6) hx hb hts hi_X4_read_X4 hown hK hP 0 rfl rfl 1 (by decide) (hts (Cond.fieldLink RX4 19 "BuddyFiles" "memory" "LBuddyFiles$Home;") hk_X4_read_19) (fun _ h9 => h9) rfl dX4_read_30 ?_
        refine lv_iload_n hx hb dX4_read_33 rfl (lv_at hl 0 rfl) ?_
        obtain ⟨x6, ex, hm⟩ := g_bind hm
        refine vp_callSi (W.runV (As := [.int x4]) (rest := [.int p2]) ⟨hx, hb, hml, hown, hts⟩ (k_X2_lengthOf l dC dI A_mh A_ma K_ma c_ma x4 _ ex) (cwV 1 hts gX4_read_X2_lengthOf rfl rfl rfl (by decide +kernel) ⟨Nat.le_of_ble_eq_true rfl, Nat.le_of_ble_eq_true rfl⟩) ⟨w_blR, va_recv hK hP (ci := 1) (q0 := 2) rfl rfl, fun U hU hW => ⟨rfl, by rw [hU]; exact hP.sub [2, 6] rfl, va_K.moved hW.alike (hK.sub [2] rfl)⟩⟩ rfl rfl hl.1 rfl (lv_room (Nat.le_of_ble_eq_true rfl)) dX4_read_34 ⟨Nat.zero_le _, Nat.zero_le _⟩) (fun _ ey => ?_)
        subst ey
        refine lv_icmp_lt (tgt := 42) hx hb dX4_read_37 (by decide) (fun c7 => ?_) (fun c7 => ?_)
        · have hm := g_t c7 hm
          refine lv_aload_n hx hb dX4_read_42 rfl (lv_at hl 1 rfl) ?_
          refine va_get (D := (dC, dI)) (ci := 2) (v := .ref A_mh) (C := RX4) (T := TX4) (N := 6) hx hb hts hi_X4_read_X4 hown hK hP 0 rfl rfl 1 (by decide) (hts (Cond.fieldLink RX4 19 "BuddyFiles" "memory" "LBuddyFiles$Home;") hk_X4_read_19) (fun _ h9 => h9) rfl dX4_read_43 ?_
          refine lv_iload_n hx hb dX4_read_46 rfl (lv_at hl 0 rfl) ?_
          refine lv_iload_n hx hb dX4_read_47 rfl (lv_at hl 3 rfl) ?_
          obtain ⟨x8, ex, hm⟩ := g_bind hm
          refine vp_callSi (W.runV (As := [.int x4, .int p2]) (rest := []) ⟨hx, hb, hml, hown, hts⟩ (k_X2_wordAt l dC dI A_mh A_ma K_ma c_ma x4 p2 _ ex) (cwV 2 hts gX4_read_X2_wordAt rfl rfl rfl (by decide +kernel) ⟨Nat.le_of_ble_eq_true rfl, Nat.le_of_ble_eq_true rfl⟩) ⟨w_blR, va_recv hK hP (ci := 1) (q0 := 2) rfl rfl, fun U hU hW => ⟨rfl, by rw [hU]; exact hP.sub [2, 6] rfl, va_K.moved hW.alike (hK.sub [2] rfl)⟩⟩ rfl rfl hl.1 rfl (lv_room (Nat.le_of_ble_eq_true rfl)) dX4_read_48 ⟨Nat.zero_le _, Nat.zero_le _⟩) (fun _ ey => ?_)
          subst ey
          cases hm
          subst hQ
          exact W.iret hx hb hr (fun t ht hW => ⟨_, rfl, rfl, ht⟩) (fun _ h => nomatch h) dX4_read_51
        · have hm := g_f c7 hm
          refine lv_iconst (v := 0) hx hb dX4_read_40 (by decide) ?_
          cases hm
          subst hQ
          exact W.iret hx hb hr (fun t ht hW => ⟨_, rfl, rfl, ht⟩) (fun _ h => nomatch h) dX4_read_41
    · have hm := g_t c3 hm
      refine lv_iconst (v := 0) hx hb dX4_read_15 (by decide) ?_
      cases hm
      subst hQ
      exact W.iret hx hb hr (fun t ht hW => ⟨_, rfl, rfl, ht⟩) (fun _ h => nomatch h) dX4_read_16
theorem hi_X4_truncate_X4 : ∀ w ∈ wsX40, w ∈ wsX4_truncate := by decide +kernel
theorem hk_X4_truncate_33 : Cond.fieldLink RX4 33 "BuddyFiles" "up" "Z" ∈ wsX4_truncate := by decide +kernel
theorem hk_X4_truncate_26 : Cond.fieldLink RX4 26 "BuddyFiles" "slotOfHandle" "[I" ∈ wsX4_truncate := by decide +kernel
theorem hk_X4_truncate_19 : Cond.fieldLink RX4 19 "BuddyFiles" "memory" "LBuddyFiles$Home;" ∈ wsX4_truncate := by decide +kernel
abbrev rm_X4_truncate : Room := { frames := 6, cells := 0, slots := 0, locals := 144 }
set_option maxHeartbeats 4000000 in
set_option maxRecDepth 100000 in
theorem k_X4_truncate (l : Launch) (dC : Nat → ClassId) (dI : Nat → Nat → Nat) (A_x A_d A_mh A_jh A_ha A_da A_ma A_ja : Nat) (K_ha K_da K_ma K_ja : ClassId) (c_ha c_da c_ma c_ja : Nat → Int32) (c_up c_fu : Int32) (sz : Nat) (p1 : Int32) (p2 : Int32) (r0 : Int32) (o_ma : (Nat → Int32)) (hm : m_X4_truncate c_ha c_ma c_up p1 p2 = some (r0, o_ma)) : Met l yX4_truncate wsX4_truncate rm_X4_truncate (va_Pc [.ref A_x, .int p1, .int p2] (fun U => U.heap.size = sz ∧ va_P (dC, dI) vwCl (wB A_x A_d A_mh A_jh A_ha A_da A_ma A_ja K_ha K_da K_ma K_ja c_ha c_da c_ma c_ja c_up c_fu) U.heap ∧ va_K (dC, dI) vwCl (tB K_ha K_da K_ma K_ja) U ∧ va_D (fun _ => True) (wB A_x A_d A_mh A_jh A_ha A_da A_ma A_ja K_ha K_da K_ma K_ja c_ha c_da c_ma c_ja c_up c_fu))) (va_Qi (fun (r : Int32) (_ : Unit) => r0 = r) (fun _ t => va_P (dC, dI) vwCl (wB A_x A_d A_mh A_jh A_ha A_da A_ma A_ja K_ha K_da K_ma K_ja c_ha c_da o_ma c_ja c_up c_fu) t.heap ∧ va_D (va_A (wB A_x A_d A_mh A_jh A_ha A_da A_ma A_ja K_ha K_da K_ma K_ja c_ha c_da c_ma c_ja c_up c_fu) sz) (wB A_x A_d A_mh A_jh A_ha A_da A_ma A_ja K_ha K_da K_ma K_ja c_ha c_da o_ma c_ja c_up c_fu)) (va_A (wB A_x A_d A_mh A_jh A_ha A_da A_ma A_ja K_ha K_da K_ma K_ja c_ha c_da c_ma c_ja c_up c_fu) sz)) 0 0 (va_A (wB A_x A_d A_mh A_jh A_ha A_da A_ma A_ja K_ha K_da K_ma K_ja c_ha c_da c_ma c_ja c_up c_fu) sz) := by
  refine Met.ofW (cc := cX4_truncate) (maxL := 4) (ret := (some .int)) (by decide) rfl ?_
  intro p e s m args below meth c s₁ B hml hv
  obtain ⟨rfl, hsz, hP, hK, hD0⟩ := hv
  have hx := B.exec
  have hb := B.bytes
  have hr := B.returns
  have hts := atoms_spec (ws := wsX4_truncate) B.pre
  have hown : s.vm.findClass RX4 = some m.cls := findClass_of_methodNamed B.named
  have hlocks := B.notSynchronized
  subst hsz
  have hD := hD0.self (sz := s.heap.size)
  generalize hAe : va_A (wB A_x A_d A_mh A_jh A_ha A_da A_ma A_ja K_ha K_da K_ma K_ja c_ha c_da c_ma c_ja c_up c_fu) s.heap.size = A at hD ⊢
  have hA : ∀ q : Nat, s.heap.size ≤ q → A q := fun q h => by rw [← hAe]; exact Or.inr h
  have hS : va_S A s.heap s.heap [] := va_S.rf
  have hP : va_P (dC, dI) vwCl (wB A_x A_d A_mh A_jh A_ha A_da A_ma A_ja K_ha K_da K_ma K_ja c_ha c_da c_ma c_ja c_up c_fu) s.heap := hP
  have hl := lv_entry ([.ref A_x, .int p1, .int p2]) (n := 4) (Nat.le_of_ble_eq_true rfl)
  rw [lg_entry_eq]
  generalize (lg_sl ([.ref A_x, .int p1, .int p2]) ++ List.replicate (4 - (lg_sl ([.ref A_x, .int p1, .int p2])).length) Slot.unset).toArray = ls at hl ⊢
  have hl : lv_has ls 4 [(0, .ref A_x), (1, .int p1), (2, .int p2)] := hl
  refine w_name (fun Q hQ => ?_)
  unfold m_X4_truncate at hm
  refine lv_aload_n hx hb dX4_truncate_0 rfl (lv_at hl 0 rfl) ?_
  refine va_get (D := (dC, dI)) (ci := 2) (v := .int c_up) (C := RX4) (T := TX4) (N := 6) hx hb hts hi_X4_truncate_X4 hown hK hP 0 rfl rfl 4 (by decide) (hts (Cond.fieldLink RX4 33 "BuddyFiles" "up" "Z") hk_X4_truncate_33) (fun _ h9 => h9) rfl dX4_truncate_1 ?_
  refine lv_if_ne (tgt := 10) hx hb dX4_truncate_4 (by decide) (fun c1 => ?_) (fun c1 => ?_)
  · have hm := g_f c1 hm
    refine lv_aload_n hx hb dX4_truncate_10 rfl (lv_at hl 0 rfl) ?_
    refine lv_iload_n hx hb dX4_truncate_11 rfl (lv_at hl 1 rfl) ?_
    obtain ⟨x2, ex, hm⟩ := g_bind hm
    refine vp_callSi (W.runV (As := [.int p1]) (rest := []) ⟨hx, hb, hml, hown, hts⟩ (k_X4_isOpen l dC dI A_x A_d A_mh A_jh A_ha A_da A_ma A_ja K_ha K_da K_ma K_ja c_ha c_da c_ma c_ja c_up c_fu p1 _ ex) (cwV 1 hts gX4_truncate_X4_isOpen rfl rfl rfl (by decide +kernel) ⟨Nat.le_of_ble_eq_true rfl, Nat.le_of_ble_eq_true rfl⟩) ⟨w_blR, va_recv hK hP (ci := 2) (q0 := 0) rfl rfl, fun U hU hW => ⟨rfl, by rw [hU]; exact hP.sub [0, 1, 2, 3, 4, 5, 6, 7] rfl, va_K.moved hW.alike (hK.sub [0, 1, 2, 3] rfl)⟩⟩ rfl rfl hl.1 rfl (lv_room (Nat.le_of_ble_eq_true rfl)) dX4_truncate_12 ⟨Nat.zero_le _, Nat.zero_le _⟩) (fun _ ey => ?_)
    subst ey
    refine lv_if_ne (tgt := 21) hx hb dX4_truncate_15 (by decide) (fun c3 => ?_) (fun c3 => ?_)
    · have hm := g_f c3 hm
      refine lv_iload_n hx hb dX4_truncate_21 rfl (lv_at hl 2 rfl) ?_
      refine lv_if_lt (tgt := 31) hx hb dX4_truncate_22 (by decide) (fun c4 => ?_) (fun c4 => ?_)
      · have hm := g_t c4 hm
        refine lv_bipush (v := -7) hx hb dX4_truncate_31 (by decide) ?_
        cases hm
        subst hQ
        exact W.iret hx hb hr (fun t ht hW => ⟨⟨_, (), rfl, rfl, by rw [ht]; exact hP, hD⟩, hS.F ht⟩) hS.2.2 dX4_truncate_33
      · have hm := g_f c4 hm
        refine lv_iload_n hx hb dX4_truncate_25 rfl (lv_at hl 2 rfl) ?_
        refine lv_bipush (v := 64) hx hb dX4_truncate_26 (by decide) ?_
        refine lv_icmp_le (tgt := 34) hx hb dX4_truncate_28 (by decide) (fun c5 => ?_) (fun c5 => ?_)
        · have hm := g_t c5 hm
          refine lv_aload_n hx hb dX4_truncate_34 rfl (lv_at hl 0 rfl) ?_
          refine va_get (D := (dC, dI)) (ci := 2) (v := .ref A_ha) (C := RX4) (T := TX4) (N := 6) hx hb hts hi_X4_truncate_X4 hown hK hP 0 rfl rfl 3 (by decide) (hts (Cond.fieldLink RX4 26 "BuddyFiles" "slotOfHandle" "[I") hk_X4_truncate_26) (fun _ h9 => h9) rfl dX4_truncate_35 ?_
          refine lv_iload_n hx hb dX4_truncate_38 rfl (lv_at hl 1 rfl) ?_
          obtain ⟨x6, ex, hm⟩ := g_bind hm
          refine w_ald hx hb hK hP 4 0 rfl rfl ex dX4_truncate_39 ?_
          refine lv_istore_n (lv' := [(3, .int x6), (0, .ref A_x), (1, .int p1), (2, .int p2)]) hx hb dX4_truncate_40 rfl hl (by decide) rfl (fun ls hl => ?_)
          refine lv_iload_n hx hb dX4_truncate_41 rfl (lv_at hl 3 rfl) ?_
          refine lv_aload_n hx hb dX4_truncate_42 rfl (lv_at hl 1 rfl) ?_
          refine va_get (D := (dC, dI)) (ci := 2) (v := .ref A_mh) (C := RX4) (T := TX4) (N := 6) hx hb hts hi_X4_truncate_X4 hown hK hP 0 rfl rfl 1 (by decide) (hts (Cond.fieldLink RX4 19 "BuddyFiles" "memory" "LBuddyFiles$Home;") hk_X4_truncate_19) (fun _ h9 => h9) rfl dX4_truncate_43 ?_
          refine lv_iload_n hx hb dX4_truncate_46 rfl (lv_at hl 0 rfl) ?_
          obtain ⟨x7, ex, hm⟩ := g_bind hm
          refine vp_callSi (W.runV (As := [.int x6]) (rest := [.int p2]) ⟨hx, hb, hml, hown, hts⟩ (k_X2_lengthOf l dC dI A_mh A_ma K_ma c_ma x6 _ ex) (cwV 1 hts gX4_truncate_X2_lengthOf rfl rfl rfl (by decide +kernel) ⟨Nat.le_of_ble_eq_true rfl, Nat.le_of_ble_eq_true rfl⟩) ⟨w_blR, va_recv hK hP (ci := 1) (q0 := 2) rfl rfl, fun U hU hW => ⟨rfl, by rw [hU]; exact hP.sub [2, 6] rfl, va_K.moved hW.alike (hK.sub [2] rfl)⟩⟩ rfl rfl hl.1 rfl (lv_room (Nat.le_of_ble_eq_true rfl)) dX4_truncate_47 ⟨Nat.zero_le _, Nat.zero_le _⟩) (fun _ ey => ?_)
          subst ey
          refine lv_icmp_le (tgt := 63) hx hb dX4_truncate_50 (by decide) (fun c8 => ?_) (fun c8 => ?_)
          · have hm := g_t c8 hm
            refine lv_aload_n hx hb dX4_truncate_63 rfl (lv_at hl 1 rfl) ?_
            refine va_get (D := (dC, dI)) (ci := 2) (v := .ref A_mh) (C := RX4) (T := TX4) (N := 6) hx hb hts hi_X4_truncate_X4 hown hK hP 0 rfl rfl 1 (by decide) (hts (Cond.fieldLink RX4 19 "BuddyFiles" "memory" "LBuddyFiles$Home;") hk_X4_truncate_19) (fun _ h9 => h9) rfl dX4_truncate_64 ?_
            refine lv_iload_n hx hb dX4_truncate_67 rfl (lv_at hl 0 rfl) ?_
            refine lv_iload_n hx hb dX4_truncate_68 rfl (lv_at hl 3 rfl) ?_
            obtain ⟨f9, ex, hm⟩ := g_bind hm
            have hPc := hP.sub (ws' := (wH A_mh A_ma K_ma c_ma)) [2, 6] rfl
            have hDc := hD.sub (ws' := (wH A_mh A_ma K_ma c_ma)) [2, 6] (by decide) rfl
            have hKc := hK.sub (tys' := (tH K_ma)) [2] rfl
            have hFc := va_free (wc := (wH A_mh A_ma K_ma c_ma)) hD hS hA [2, 6] rfl
            refine va_callv (va_runV (As := [.int x6, .int p2]) (rest := []) ⟨hx, hb, hml, hown, hts⟩ (k_X2_shrink l dC dI A_mh A_ma K_ma c_ma s.heap.size x6 p2 _ ex) (cwV 2 hts gX4_truncate_X2_shrink rfl rfl rfl (by decide +kernel) ⟨Nat.le_of_ble_eq_true rfl, Nat.le_of_ble_eq_true rfl⟩) ⟨w_blW, va_recv hKc hPc (ci := 1) (q0 := 0) rfl rfl, fun U hU hW => ⟨rfl, by rw [hU], by rw [hU]; exact hPc, va_K.moved hW.alike hKc, hDc.weaken (fun _ _ _ _ => trivial)⟩⟩ rfl rfl hl.1 rfl (lv_room (Nat.le_of_ble_eq_true rfl)) dX4_truncate_69 ⟨Nat.zero_le _, Nat.zero_le _⟩) hS (fun q _ h => hFc q h) hFc (fun _ t H10 locs10 ht hvm hw hB hz1 hk1 hS => ?_)
            refine W.widen (k := 0) (n := 0) (Nat.le_refl 0) (Nat.le_refl 0) ?_
            obtain ⟨hP1, hD1⟩ := hB
            rw [ht] at hP1
            obtain ⟨hP, hD⟩ := va_join (wr := [(A_x, .inr (2, [.ref A_d, .ref A_mh, .ref A_jh, .ref A_ha, .int c_up, .int c_fu])), (A_d, .inr (0, [.ref A_da])), (A_jh, .inr (1, [.ref A_ja])), (A_ha, .inl (K_ha, 4, .inl c_ha)), (A_da, .inl (K_da, 332, .inl c_da)), (A_ja, .inl (K_ja, 110, .inl c_ja))]) (w1 := (wH A_mh A_ma K_ma f9)) hP hD [2, 6] [0, 1, 3, 4, 5, 7] rfl rfl (by decide) (by decide) hk1 hFc hP1 hD1
            have hP : va_P (dC, dI) vwCl (wB A_x A_d A_mh A_jh A_ha A_da A_ma A_ja K_ha K_da K_ma K_ja c_ha c_da f9 c_ja c_up c_fu) H10 := hP.sub [0, 1, 6, 2, 3, 4, 7, 5] rfl
            have hD : va_D A (wB A_x A_d A_mh A_jh A_ha A_da A_ma A_ja K_ha K_da K_ma K_ja c_ha c_da f9 c_ja c_up c_fu) := hD.sub [0, 1, 6, 2, 3, 4, 7, 5] (by decide) rfl
            refine lv_iconst (v := 0) hx hb dX4_truncate_72 (by decide) ?_
            cases hm
            subst hQ
            exact W.iret hx hb hr (fun t ht hW => ⟨⟨_, (), rfl, rfl, by rw [ht]; exact hP, hD⟩, hS.F ht⟩) hS.2.2 dX4_truncate_73
          · have hm := g_f c8 hm
            refine lv_aload_n hx hb dX4_truncate_53 rfl (lv_at hl 1 rfl) ?_
            refine va_get (D := (dC, dI)) (ci := 2) (v := .ref A_mh) (C := RX4) (T := TX4) (N := 6) hx hb hts hi_X4_truncate_X4 hown hK hP 0 rfl rfl 1 (by decide) (hts (Cond.fieldLink RX4 19 "BuddyFiles" "memory" "LBuddyFiles$Home;") hk_X4_truncate_19) (fun _ h9 => h9) rfl dX4_truncate_54 ?_
            refine lv_iload_n hx hb dX4_truncate_57 rfl (lv_at hl 0 rfl) ?_
            refine lv_iload_n hx hb dX4_truncate_58 rfl (lv_at hl 3 rfl) ?_
            obtain ⟨⟨x11, f12⟩, ex, hm⟩ := g_bind hm
            have hm := g_k2_s hm
            have hPc := hP.sub (ws' := (wH A_mh A_ma K_ma c_ma)) [2, 6] rfl
            have hDc := hD.sub (ws' := (wH A_mh A_ma K_ma c_ma)) [2, 6] (by decide) rfl
            have hKc := hK.sub (tys' := (tH K_ma)) [2] rfl
            have hFc := va_free (wc := (wH A_mh A_ma K_ma c_ma)) hD hS hA [2, 6] rfl
            refine va_calli (va_runV (As := [.int x6, .int p2]) (rest := []) ⟨hx, hb, hml, hown, hts⟩ (k_X2_grow l dC dI A_mh A_ma K_ma c_ma s.heap.size x6 p2 _ _ ex) (cwV 2 hts gX4_truncate_X2_grow rfl rfl rfl (by decide +kernel) ⟨Nat.le_of_ble_eq_true rfl, Nat.le_of_ble_eq_true rfl⟩) ⟨w_blW, va_recv hKc hPc (ci := 1) (q0 := 0) rfl rfl, fun U hU hW => ⟨rfl, by rw [hU], by rw [hU]; exact hPc, va_K.moved hW.alike hKc, hDc.weaken (fun _ _ _ _ => trivial)⟩⟩ rfl rfl hl.1 rfl (lv_room (Nat.le_of_ble_eq_true rfl)) dX4_truncate_59 ⟨Nat.zero_le _, Nat.zero_le _⟩) hS (fun q _ h => hFc q h) hFc (fun _ _ t H13 locs13 ht hvm hw hB hz1 hk1 hS => ?_)
            subst hw
            refine W.widen (k := 0) (n := 0) (Nat.le_refl 0) (Nat.le_refl 0) ?_
            obtain ⟨hP1, hD1⟩ := hB
            rw [ht] at hP1
            obtain ⟨hP, hD⟩ := va_join (wr := [(A_x, .inr (2, [.ref A_d, .ref A_mh, .ref A_jh, .ref A_ha, .int c_up, .int c_fu])), (A_d, .inr (0, [.ref A_da])), (A_jh, .inr (1, [.ref A_ja])), (A_ha, .inl (K_ha, 4, .inl c_ha)), (A_da, .inl (K_da, 332, .inl c_da)), (A_ja, .inl (K_ja, 110, .inl c_ja))]) (w1 := (wH A_mh A_ma K_ma f12)) hP hD [2, 6] [0, 1, 3, 4, 5, 7] rfl rfl (by decide) (by decide) hk1 hFc hP1 hD1
            have hP : va_P (dC, dI) vwCl (wB A_x A_d A_mh A_jh A_ha A_da A_ma A_ja K_ha K_da K_ma K_ja c_ha c_da f12 c_ja c_up c_fu) H13 := hP.sub [0, 1, 6, 2, 3, 4, 7, 5] rfl
            have hD : va_D A (wB A_x A_d A_mh A_jh A_ha A_da A_ma A_ja K_ha K_da K_ma K_ja c_ha c_da f12 c_ja c_up c_fu) := hD.sub [0, 1, 6, 2, 3, 4, 7, 5] (by decide) rfl
            cases hm
            subst hQ
            exact W.iret hx hb hr (fun t ht hW => ⟨⟨_, (), rfl, rfl, by rw [ht]; exact hP, hD⟩, hS.F ht⟩) hS.2.2 dX4_truncate_62
        · have hm := g_f c5 hm
          refine lv_bipush (v := -7) hx hb dX4_truncate_31 (by decide) ?_
          cases hm
          subst hQ
          exact W.iret hx hb hr (fun t ht hW => ⟨⟨_, (), rfl, rfl, by rw [ht]; exact hP, hD⟩, hS.F ht⟩) hS.2.2 dX4_truncate_33
    · have hm := g_t c3 hm
      refine lv_bipush (v := -6) hx hb dX4_truncate_18 (by decide) ?_
      cases hm
      subst hQ
      exact W.iret hx hb hr (fun t ht hW => ⟨⟨_, (), rfl, rfl, by rw [ht]; exact hP, hD⟩, hS.F ht⟩) hS.2.2 dX4_truncate_20
  · have hm := g_t c1 hm
    refine lv_bipush (v := -11) hx hb dX4_truncate_7 (by decide) ?_
    cases hm
    subst hQ
    exact W.iret hx hb hr (fun t ht hW => ⟨⟨_, (), rfl, rfl, by rw [ht]; exact hP, hD⟩, hS.F ht⟩) hS.2.2 dX4_truncate_9
theorem hi_X4_length_X4 : ∀ w ∈ wsX40, w ∈ wsX4_length := by decide +kernel
theorem hk_X4_length_33 : Cond.fieldLink RX4 33 "BuddyFiles" "up" "Z" ∈ wsX4_length := by decide +kernel
theorem hk_X4_length_19 : Cond.fieldLink RX4 19 "BuddyFiles" "memory" "LBuddyFiles$Home;" ∈ wsX4_length := by decide +kernel
theorem hk_X4_length_26 : Cond.fieldLink RX4 26 "BuddyFiles" "slotOfHandle" "[I" ∈ wsX4_length := by decide +kernel
abbrev rm_X4_length : Room := { frames := 1, cells := 0, slots := 0, locals := 21 }
set_option maxHeartbeats 4000000 in
set_option maxRecDepth 100000 in
theorem k_X4_length (l : Launch) (dC : Nat → ClassId) (dI : Nat → Nat → Nat) (A_x A_d A_mh A_jh A_ha A_da A_ma A_ja : Nat) (K_ha K_da K_ma K_ja : ClassId) (c_ha c_da c_ma c_ja : Nat → Int32) (c_up c_fu : Int32) (p1 : Int32) (r0 : Int32) (hm : m_X4_length c_ha c_ma c_up p1 = some r0) : Met l yX4_length wsX4_length rm_X4_length (va_Pc [.ref A_x, .int p1] (fun U => va_P (dC, dI) vwCl (wB A_x A_d A_mh A_jh A_ha A_da A_ma A_ja K_ha K_da K_ma K_ja c_ha c_da c_ma c_ja c_up c_fu) U.heap ∧ va_K (dC, dI) vwCl (tB K_ha K_da K_ma K_ja) U)) (vp_Si (fun r => r0 = r)) 0 0 (fun _ => False) := by
  refine Met.ofW (cc := cX4_length) (maxL := 2) (ret := (some .int)) (by decide) rfl ?_
  intro p e s m args below meth c s₁ B hml hv
  obtain ⟨rfl, hP, hK⟩ := hv
  have hx := B.exec
  have hb := B.bytes
  have hr := B.returns
  have hts := atoms_spec (ws := wsX4_length) B.pre
  have hown : s.vm.findClass RX4 = some m.cls := findClass_of_methodNamed B.named
  have hlocks := B.notSynchronized
  have hl := lv_entry ([.ref A_x, .int p1]) (n := 2) (Nat.le_of_ble_eq_true rfl)
  rw [lg_entry_eq]
  generalize (lg_sl ([.ref A_x, .int p1]) ++ List.replicate (2 - (lg_sl ([.ref A_x, .int p1])).length) Slot.unset).toArray = ls at hl ⊢
  have hl : lv_has ls 2 [(0, .ref A_x), (1, .int p1)] := hl
  refine w_name (fun Q hQ => ?_)
  unfold m_X4_length at hm
  refine lv_aload_n hx hb dX4_length_0 rfl (lv_at hl 0 rfl) ?_
  refine va_get (D := (dC, dI)) (ci := 2) (v := .int c_up) (C := RX4) (T := TX4) (N := 6) hx hb hts hi_X4_length_X4 hown hK hP 0 rfl rfl 4 (by decide) (hts (Cond.fieldLink RX4 33 "BuddyFiles" "up" "Z") hk_X4_length_33) (fun _ h9 => h9) rfl dX4_length_1 ?_
  refine lv_if_ne (tgt := 10) hx hb dX4_length_4 (by decide) (fun c1 => ?_) (fun c1 => ?_)
  · have hm := g_f c1 hm
    refine lv_aload_n hx hb dX4_length_10 rfl (lv_at hl 0 rfl) ?_
    refine lv_iload_n hx hb dX4_length_11 rfl (lv_at hl 1 rfl) ?_
    obtain ⟨x2, ex, hm⟩ := g_bind hm
    refine vp_callSi (W.runV (As := [.int p1]) (rest := []) ⟨hx, hb, hml, hown, hts⟩ (k_X4_isOpen l dC dI A_x A_d A_mh A_jh A_ha A_da A_ma A_ja K_ha K_da K_ma K_ja c_ha c_da c_ma c_ja c_up c_fu p1 _ ex) (cwV 1 hts gX4_length_X4_isOpen rfl rfl rfl (by decide +kernel) ⟨Nat.le_of_ble_eq_true rfl, Nat.le_of_ble_eq_true rfl⟩) ⟨w_blR, va_recv hK hP (ci := 2) (q0 := 0) rfl rfl, fun U hU hW => ⟨rfl, by rw [hU]; exact hP.sub [0, 1, 2, 3, 4, 5, 6, 7] rfl, va_K.moved hW.alike (hK.sub [0, 1, 2, 3] rfl)⟩⟩ rfl rfl hl.1 rfl (lv_room (Nat.le_of_ble_eq_true rfl)) dX4_length_12 ⟨Nat.zero_le _, Nat.zero_le _⟩) (fun _ ey => ?_)
    subst ey
    refine lv_if_ne (tgt := 21) hx hb dX4_length_15 (by decide) (fun c3 => ?_) (fun c3 => ?_)
    · have hm := g_f c3 hm
      refine lv_aload_n hx hb dX4_length_21 rfl (lv_at hl 0 rfl) ?_
      refine va_get (D := (dC, dI)) (ci := 2) (v := .ref A_mh) (C := RX4) (T := TX4) (N := 6) hx hb hts hi_X4_length_X4 hown hK hP 0 rfl rfl 1 (by decide) (hts (Cond.fieldLink RX4 19 "BuddyFiles" "memory" "LBuddyFiles$Home;") hk_X4_length_19) (fun _ h9 => h9) rfl dX4_length_22 ?_
      refine lv_aload_n hx hb dX4_length_25 rfl (lv_at hl 0 rfl) ?_
      refine va_get (D := (dC, dI)) (ci := 2) (v := .ref A_ha) (C := RX4) (T := TX4) (N := 6) hx hb hts hi_X4_length_X4 hown hK hP 0 rfl rfl 3 (by decide) (hts (Cond.fieldLink RX4 26 "BuddyFiles" "slotOfHandle" "[I") hk_X4_length_26) (fun _ h9 => h9) rfl dX4_length_26 ?_
      refine lv_iload_n hx hb dX4_length_29 rfl (lv_at hl 1 rfl) ?_
      obtain ⟨x4, ex, hm⟩ := g_bind hm
      refine w_ald hx hb hK hP 4 0 rfl rfl ex dX4_length_30 ?_
      obtain ⟨x5, ex, hm⟩ := g_bind hm
      refine vp_callSi (W.runV (As := [.int x4]) (rest := []) ⟨hx, hb, hml, hown, hts⟩ (k_X2_lengthOf l dC dI A_mh A_ma K_ma c_ma x4 _ ex) (cwV 1 hts gX4_length_X2_lengthOf rfl rfl rfl (by decide +kernel) ⟨Nat.le_of_ble_eq_true rfl, Nat.le_of_ble_eq_true rfl⟩) ⟨w_blR, va_recv hK hP (ci := 1) (q0 := 2) rfl rfl, fun U hU hW => ⟨rfl, by rw [hU]; exact hP.sub [2, 6] rfl, va_K.moved hW.alike (hK.sub [2] rfl)⟩⟩ rfl rfl hl.1 rfl (lv_room (Nat.le_of_ble_eq_true rfl)) dX4_length_31 ⟨Nat.zero_le _, Nat.zero_le _⟩) (fun _ ey => ?_)
      subst ey
      cases hm
      subst hQ
      exact W.iret hx hb hr (fun t ht hW => ⟨_, rfl, rfl, ht⟩) (fun _ h => nomatch h) dX4_length_34
    · have hm := g_t c3 hm
      refine lv_bipush (v := -6) hx hb dX4_length_18 (by decide) ?_
      cases hm
      subst hQ
      exact W.iret hx hb hr (fun t ht hW => ⟨_, rfl, rfl, ht⟩) (fun _ h => nomatch h) dX4_length_20
  · have hm := g_t c1 hm
    refine lv_bipush (v := -11) hx hb dX4_length_7 (by decide) ?_
    cases hm
    subst hQ
    exact W.iret hx hb hr (fun t ht hW => ⟨_, rfl, rfl, ht⟩) (fun _ h => nomatch h) dX4_length_9
