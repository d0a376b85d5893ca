theorem hi_X1_clear_X1 : ∀ w ∈ wsX10, w ∈ wsX1_clear := by decide +kernel
theorem hk_X1_clear_9 : Cond.fieldLink RX1 9 "BuddyFiles$Disk" "cells" "[I" ∈ wsX1_clear := by decide +kernel
abbrev rm_X1_clear : Room := { frames := 0, cells := 0, slots := 0, locals := 0 }
set_option maxHeartbeats 4000000 in
set_option maxRecDepth 100000 in
theorem k_X1_clear (l : Launch) (dC : Nat → ClassId) (dI : Nat → Nat → Nat) (A_d A_da : Nat) (K_da : ClassId) (c_da : Nat → Int32) (sz : Nat)  (o_da : (Nat → Int32)) (hm : m_X1_clear c_da = some o_da) : Met l yX1_clear wsX1_clear rm_X1_clear (va_Pc [.ref A_d] (fun U => U.heap.size = sz ∧ va_P (dC, dI) vwCl (wD A_d A_da K_da c_da) U.heap ∧ va_K (dC, dI) vwCl (tD K_da) U ∧ va_D (fun _ => True) (wD A_d A_da K_da c_da))) (va_Qv (fun (_ : Unit) => True) (fun _ t => va_P (dC, dI) vwCl (wD A_d A_da K_da o_da) t.heap ∧ va_D (va_A (wD A_d A_da K_da c_da) sz) (wD A_d A_da K_da o_da)) (va_A (wD A_d A_da K_da c_da) sz)) 0 0 (va_A (wD A_d A_da K_da c_da) sz) := by
  refine Met.ofW (cc := cX1_clear) (maxL := 2) (ret := (none)) (by decide) rfl ?_
  intro p e s m args below meth c s₁ B hml hv
  obtain ⟨rfl, hsz, hP, hK, hD0⟩ := hv
  have hx := B.exec
  have hb := B.bytes
  have hr := B.returns
  have hts := atoms_spec (ws := wsX1_clear) B.pre
  have hown : s.vm.findClass RX1 = some m.cls := findClass_of_methodNamed B.named
  have hlocks := B.notSynchronized
  subst hsz
  have hD := hD0.self (sz := s.heap.size)
  generalize hAe : va_A (wD A_d A_da K_da c_da) s.heap.size = A at hD ⊢
  have hA : ∀ q : Nat, s.heap.size ≤ q → A q := fun q h => by rw [← hAe]; exact Or.inr h
  have hS : va_S A s.heap s.heap [] := va_S.rf
  have hP : va_P (dC, dI) vwCl (wD A_d A_da K_da c_da) s.heap := hP
  have hl := lv_entry ([.ref A_d]) (n := 2) (Nat.le_of_ble_eq_true rfl)
  rw [lg_entry_eq]
  generalize (lg_sl ([.ref A_d]) ++ List.replicate (2 - (lg_sl ([.ref A_d])).length) Slot.unset).toArray = ls at hl ⊢
  have hl : lv_has ls 2 [(0, .ref A_d)] := hl
  refine w_name (fun Q hQ => ?_)
  unfold m_X1_clear at hm
  refine lv_iconst (v := 0) hx hb dX1_clear_0 (by decide) ?_
  refine lv_istore_n (lv' := [(1, .int (0 : Int32)), (0, .ref A_d)]) hx hb dX1_clear_1 rfl hl (by decide) rfl (fun ls hl => ?_)
  obtain ⟨rl4, hlp, hm⟩ := g_bind hm
  have hE4 : ∀ (f3 : (Nat → Int32)), f3 = rl4 → ∀ (H4e : Heap) (locs4e : List Loc), va_P (dC, dI) vwCl (wD A_d A_da K_da f3) H4e → va_D A (wD A_d A_da K_da f3) → va_S A s.heap H4e locs4e → ∀ (ls : Array Slot), lv_has ls 2 [(0, .ref A_d)] → W p l e (headSpec wsX1_clear rm_X1_clear).room s m (([.ref A_d] : List Value).toArray) below meth c H4e locs4e 0 0 Q (F0 m 22 ls []) := by
    intro f3 hq H4e locs4e hP hD hS ls hl
    subst hq
    have hm := g_k1_s hm
    refine lv_iconst (v := 0) hx hb dX1_clear_22 (by decide) ?_
    refine lv_istore_n (lv' := [(1, .int (0 : Int32)), (0, .ref A_d)]) hx hb dX1_clear_23 rfl hl (by decide) rfl (fun ls hl => ?_)
    obtain ⟨rl11, hlp, hm⟩ := g_bind hm
    have hE11 : ∀ (f10 : (Nat → Int32)), f10 = rl11 → ∀ (H11e : Heap) (locs11e : List Loc), va_P (dC, dI) vwCl (wD A_d A_da K_da f10) H11e → va_D A (wD A_d A_da K_da f10) → va_S A s.heap H11e locs11e → ∀ (ls : Array Slot), lv_has ls 2 [] → W p l e (headSpec wsX1_clear rm_X1_clear).room s m (([.ref A_d] : List Value).toArray) below meth c H11e locs11e 0 0 Q (F0 m 46 ls []) := by
      intro f10 hq H11e locs11e hP hD hS ls hl
      subst hq
      have hm := g_k1_s hm
      cases hm
      subst hQ
      exact W.vret hx hb hr (fun t ht hW => ⟨⟨(), rfl, trivial, by rw [ht]; exact hP, hD⟩, hS.F ht⟩) hS.2.2 dX1_clear_46
    have hL11 : ∀ (n : Nat) (y8 : Int32) (f9 : (Nat → Int32)), g_loop (fun q => m_X1_clear_L24 q.1 q.2) n (y8, f9) = some rl11 → ∀ (H11b : Heap) (locs11b : List Loc), va_P (dC, dI) vwCl (wD A_d A_da K_da f9) H11b → va_D A (wD A_d A_da K_da f9) → va_S A s.heap H11b locs11b → ∀ (ls : Array Slot), lv_has ls 2 [(0, .ref A_d), (1, .int y8)] → W p l e (headSpec wsX1_clear rm_X1_clear).room s m (([.ref A_d] : List Value).toArray) below meth c H11b locs11b 0 0 Q (F0 m 24 ls []) := by
      intro n
      induction n with
      | zero =>
        intro y8 f9 hm
        exact g_loop_z hm
      | succ n ih =>
        intro y8 f9 hm H11b locs11b hP hD hS ls hl
        obtain ⟨q, hm, hy⟩ := g_loop_s hm
        have hm : m_X1_clear_L24 y8 f9 = some q := hm
        unfold m_X1_clear_L24 at hm
        refine lv_iload_n hx hb dX1_clear_24 rfl (lv_at hl 1 rfl) ?_
        refine lv_iconst (v := 3) hx hb dX1_clear_25 (by decide) ?_
        refine lv_icmp_ge (tgt := 46) hx hb dX1_clear_26 (by decide) (fun c12 => ?_) (fun c12 => ?_)
        · have hm := g_t c12 hm
          cases hm
          exact hE11 _ hy _ _ hP hD hS _ (lv_sub hl [] rfl)
        · have hm := g_f c12 hm
          refine lv_aload_n hx hb dX1_clear_29 rfl (lv_at hl 0 rfl) ?_
          refine va_get (D := (dC, dI)) (ci := 0) (v := .ref A_da) (C := RX1) (T := TX1) (N := 1) hx hb hts hi_X1_clear_X1 hown hK hP 0 rfl rfl 0 (by decide) (hts (Cond.fieldLink RX1 9 "BuddyFiles$Disk" "cells" "[I") hk_X1_clear_9) (fun _ h9 => h9) rfl dX1_clear_30 ?_
          refine lv_bipush (v := 42) hx hb dX1_clear_33 (by decide) ?_
          refine lv_iload_n hx hb dX1_clear_35 rfl (lv_at hl 1 rfl) ?_
          refine lv_iadd hx hb dX1_clear_36 ?_
          refine lv_bipush (v := 32) hx hb dX1_clear_37 (by decide) ?_
          obtain ⟨f13, ex, hm⟩ := g_bind hm
          refine w_ast hx hb hK hP hD hS 1 0 rfl rfl ex dX1_clear_39 (fun H14 locs14 hP hD hS => ?_)
          have hP : va_P (dC, dI) vwCl (wD A_d A_da K_da f13) H14 := hP
          have hD : va_D A (wD A_d A_da K_da f13) := hD
          refine lv_iinc (v := (y8 + (1 : Int32))) (lv' := [(1, .int (y8 + (1 : Int32))), (0, .ref A_d)]) hx hb dX1_clear_40 hl (k := 1) rfl rfl (by decide) rfl (fun ls hl => ?_)
          refine lv_goto (tgt := 24) hx hb dX1_clear_43 (by decide) ?_
          cases hm
          exact ih _ _ hy _ _ hP hD hS _ (lv_sub hl [1, 0] rfl)
    exact hL11 _ _ _ hlp _ _ hP hD hS _ (lv_sub hl [1, 0] rfl)
  have hL4 : ∀ (n : Nat) (y1 : Int32) (f2 : (Nat → Int32)), g_loop (fun q => m_X1_clear_L2 q.1 q.2) n (y1, f2) = some rl4 → ∀ (H4b : Heap) (locs4b : List Loc), va_P (dC, dI) vwCl (wD A_d A_da K_da f2) H4b → va_D A (wD A_d A_da K_da f2) → va_S A s.heap H4b locs4b → ∀ (ls : Array Slot), lv_has ls 2 [(0, .ref A_d), (1, .int y1)] → W p l e (headSpec wsX1_clear rm_X1_clear).room s m (([.ref A_d] : List Value).toArray) below meth c H4b locs4b 0 0 Q (F0 m 2 ls []) := by
    intro n
    induction n with
    | zero =>
      intro y1 f2 hm
      exact g_loop_z hm
    | succ n ih =>
      intro y1 f2 hm H4b locs4b hP hD hS ls hl
      obtain ⟨q, hm, hy⟩ := g_loop_s hm
      have hm : m_X1_clear_L2 y1 f2 = some q := hm
      unfold m_X1_clear_L2 at hm
      refine lv_iload_n hx hb dX1_clear_2 rfl (lv_at hl 1 rfl) ?_
      refine lv_sipush (v := 332) hx hb dX1_clear_3 (by decide) ?_
      refine lv_icmp_ge (tgt := 22) hx hb dX1_clear_6 (by decide) (fun c5 => ?_) (fun c5 => ?_)
      · have hm := g_t c5 hm
        cases hm
        exact hE4 _ hy _ _ hP hD hS _ (lv_sub hl [0] rfl)
      · have hm := g_f c5 hm
        refine lv_aload_n hx hb dX1_clear_9 rfl (lv_at hl 0 rfl) ?_
        refine va_get (D := (dC, dI)) (ci := 0) (v := .ref A_da) (C := RX1) (T := TX1) (N := 1) hx hb hts hi_X1_clear_X1 hown hK hP 0 rfl rfl 0 (by decide) (hts (Cond.fieldLink RX1 9 "BuddyFiles$Disk" "cells" "[I") hk_X1_clear_9) (fun _ h9 => h9) rfl dX1_clear_10 ?_
        refine lv_iload_n hx hb dX1_clear_13 rfl (lv_at hl 1 rfl) ?_
        refine lv_iconst (v := 0) hx hb dX1_clear_14 (by decide) ?_
        obtain ⟨f6, ex, hm⟩ := g_bind hm
        refine w_ast hx hb hK hP hD hS 1 0 rfl rfl ex dX1_clear_15 (fun H7 locs7 hP hD hS => ?_)
        have hP : va_P (dC, dI) vwCl (wD A_d A_da K_da f6) H7 := hP
        have hD : va_D A (wD A_d A_da K_da f6) := hD
        refine lv_iinc (v := (y1 + (1 : Int32))) (lv' := [(1, .int (y1 + (1 : Int32))), (0, .ref A_d)]) hx hb dX1_clear_16 hl (k := 1) rfl rfl (by decide) rfl (fun ls hl => ?_)
        refine lv_goto (tgt := 2) hx hb dX1_clear_19 (by decide) ?_
        cases hm
        exact ih _ _ hy _ _ hP hD hS _ (lv_sub hl [1, 0] rfl)
  exact hL4 _ _ _ hlp _ _ hP hD hS _ (lv_sub hl [1, 0] rfl)
abbrev rm_X1_nextCheck : Room := { frames := 0, cells := 0, slots := 0, locals := 0 }
set_option maxHeartbeats 4000000 in
set_option maxRecDepth 100000 in
theorem k_X1_nextCheck (l : Launch)  (p0 : Int32) (p1 : Int32) (p2 : Int32) (r0 : Int32) (hm : m_X1_nextCheck p0 p1 p2 = some r0) : Met l yX1_nextCheck wsX1_nextCheck rm_X1_nextCheck (va_Pc [.int p0, .int p1, .int p2] (fun _ => True)) (vp_Si (fun r => r0 = r)) 0 0 (fun _ => False) := by
  refine Met.ofW (cc := cX1_nextCheck) (maxL := 3) (ret := (some .int)) (by decide) rfl ?_
  intro p e s m args below meth c s₁ B hml hv
  obtain ⟨rfl, -⟩ := hv
  have hx := B.exec
  have hb := B.bytes
  have hr := B.returns
  have hts := atoms_spec (ws := wsX1_nextCheck) B.pre
  have hown : s.vm.findClass RX1 = some m.cls := findClass_of_methodNamed B.named
  have hlocks := B.notSynchronized
  have hl := lv_entry ([.int p0, .int p1, .int p2]) (n := 3) (Nat.le_of_ble_eq_true rfl)
  rw [lg_entry_eq]
  generalize (lg_sl ([.int p0, .int p1, .int p2]) ++ List.replicate (3 - (lg_sl ([.int p0, .int p1, .int p2])).length) Slot.unset).toArray = ls at hl ⊢
  have hl : lv_has ls 3 [(0, .int p0), (1, .int p1), (2, .int p2)] := hl
  refine w_name (fun Q hQ => ?_)
  unfold m_X1_nextCheck at hm
  refine lv_iload_n hx hb dX1_nextCheck_0 rfl (lv_at hl 0 rfl) ?_
  refine lv_bipush (v := 31) hx hb dX1_nextCheck_1 (by decide) ?_
  refine lv_imul hx hb dX1_nextCheck_3 ?_
  refine lv_iload_n hx hb dX1_nextCheck_4 rfl (lv_at hl 1 rfl) ?_
  refine lv_iadd hx hb dX1_nextCheck_5 ?_
  refine lv_bipush (v := 31) hx hb dX1_nextCheck_6 (by decide) ?_
  refine lv_imul hx hb dX1_nextCheck_8 ?_
  refine lv_iload_n hx hb dX1_nextCheck_9 rfl (lv_at hl 2 rfl) ?_
  refine lv_iadd hx hb dX1_nextCheck_10 ?_
  cases hm
  subst hQ
  exact W.iret hx hb hr (fun t ht hW => ⟨_, rfl, rfl, ht⟩) (fun _ h => nomatch h) dX1_nextCheck_11
theorem hi_X1_journalHolds_X1 : ∀ w ∈ wsX10, w ∈ wsX1_journalHolds := by decide +kernel
theorem hk_X1_journalHolds_9 : Cond.fieldLink RX1 9 "BuddyFiles$Disk" "cells" "[I" ∈ wsX1_journalHolds := by decide +kernel
abbrev rm_X1_journalHolds : Room := { frames := 1, cells := 0, slots := 0, locals := 22 }
set_option maxHeartbeats 4000000 in
set_option maxRecDepth 100000 in
theorem k_X1_journalHolds (l : Launch) (dC : Nat → ClassId) (dI : Nat → Nat → Nat) (A_d A_da : Nat) (K_da : ClassId) (c_da : Nat → Int32)  (r0 : Int32) (hm : m_X1_journalHolds c_da = some r0) : Met l yX1_journalHolds wsX1_journalHolds rm_X1_journalHolds (va_Pc [.ref A_d] (fun U => va_P (dC, dI) vwCl (wD A_d A_da K_da c_da) U.heap ∧ va_K (dC, dI) vwCl (tD K_da) U)) (vp_Si (fun r => r0 = r)) 0 0 (fun _ => False) := by
  refine Met.ofW (cc := cX1_journalHolds) (maxL := 6) (ret := (some .boolean)) (by decide) rfl ?_
  intro p e s m args below meth c s₁ B hml hv
  obtain ⟨rfl, hP, hK⟩ := hv
  have hx := B.exec
  have hb := B.bytes
  have hr := B.returns
  have hts := atoms_spec (ws := wsX1_journalHolds) B.pre
  have hown : s.vm.findClass RX1 = some m.cls := findClass_of_methodNamed B.named
  have hlocks := B.notSynchronized
  have hl := lv_entry ([.ref A_d]) (n := 6) (Nat.le_of_ble_eq_true rfl)
  rw [lg_entry_eq]
  generalize (lg_sl ([.ref A_d]) ++ List.replicate (6 - (lg_sl ([.ref A_d])).length) Slot.unset).toArray = ls at hl ⊢
  have hl : lv_has ls 6 [(0, .ref A_d)] := hl
  refine w_name (fun Q hQ => ?_)
  unfold m_X1_journalHolds at hm
  refine lv_aload_n hx hb dX1_journalHolds_0 rfl (lv_at hl 0 rfl) ?_
  refine va_get (D := (dC, dI)) (ci := 0) (v := .ref A_da) (C := RX1) (T := TX1) (N := 1) hx hb hts hi_X1_journalHolds_X1 hown hK hP 0 rfl rfl 0 (by decide) (hts (Cond.fieldLink RX1 9 "BuddyFiles$Disk" "cells" "[I") hk_X1_journalHolds_9) (fun _ h9 => h9) rfl dX1_journalHolds_1 ?_
  refine lv_bipush (v := 110) hx hb dX1_journalHolds_4 (by decide) ?_
  obtain ⟨x1, ex, hm⟩ := g_bind hm
  refine w_ald hx hb hK hP 1 0 rfl rfl ex dX1_journalHolds_6 ?_
  refine lv_istore_n (lv' := [(1, .int x1), (0, .ref A_d)]) hx hb dX1_journalHolds_7 rfl hl (by decide) rfl (fun ls hl => ?_)
  refine lv_iload_n hx hb dX1_journalHolds_8 rfl (lv_at hl 0 rfl) ?_
  refine lv_iconst (v := 1) hx hb dX1_journalHolds_9 (by decide) ?_
  refine lv_icmp_lt (tgt := 19) hx hb dX1_journalHolds_10 (by decide) (fun c2 => ?_) (fun c2 => ?_)
  · have hm := g_t c2 hm
    refine lv_iconst (v := 0) hx hb dX1_journalHolds_19 (by decide) ?_
    cases hm
    subst hQ
    exact W.zret hx hb hr rfl (fun t ht hW => ⟨_, rfl, rfl, ht⟩) (fun _ h => nomatch h) dX1_journalHolds_20
  · have hm := g_f c2 hm
    refine lv_iload_n hx hb dX1_journalHolds_13 rfl (lv_at hl 0 rfl) ?_
    refine lv_bipush (v := 110) hx hb dX1_journalHolds_14 (by decide) ?_
    refine lv_icmp_le (tgt := 21) hx hb dX1_journalHolds_16 (by decide) (fun c3 => ?_) (fun c3 => ?_)
    · have hm := g_t c3 hm
      refine lv_iload_n hx hb dX1_journalHolds_21 rfl (lv_at hl 0 rfl) ?_
      refine lv_istore_n (lv' := [(2, .int x1), (1, .int x1), (0, .ref A_d)]) hx hb dX1_journalHolds_22 rfl hl (by decide) rfl (fun ls hl => ?_)
      refine lv_iconst (v := -1) hx hb dX1_journalHolds_23 (by decide) ?_
      refine lv_istore_n (lv' := [(3, .int (-1 : Int32)), (2, .int x1), (1, .int x1), (0, .ref A_d)]) hx hb dX1_journalHolds_24 rfl hl (by decide) rfl (fun ls hl => ?_)
      refine lv_iconst (v := 0) hx hb dX1_journalHolds_25 (by decide) ?_
      refine lv_istore (lv' := [(4, .int (0 : Int32)), (3, .int (-1 : Int32)), (2, .int x1), (1, .int x1), (0, .ref A_d)]) hx hb dX1_journalHolds_26 hl (by decide) rfl (fun ls hl => ?_)
      obtain ⟨rl8, hlp, hm⟩ := g_bind hm
      have hE8 : ∀ (z7 : Int32), Sum.inr z7 = rl8 → ∀ (ls : Array Slot), lv_has ls 6 [(0, .ref A_d), (2, .int z7)] → W p l e (headSpec wsX1_journalHolds rm_X1_journalHolds).room s m (([.ref A_d] : List Value).toArray) below meth c s.heap [] 0 0 Q (F0 m 93 ls []) := by
        intro z7 hq ls hl
        subst hq
        have hm := g_sk_r hm
        have hm := g_k1_s hm
        refine lv_iload_n hx hb dX1_journalHolds_93 rfl (lv_at hl 1 rfl) ?_
        refine lv_aload_n hx hb dX1_journalHolds_94 rfl (lv_at hl 0 rfl) ?_
        refine va_get (D := (dC, dI)) (ci := 0) (v := .ref A_da) (C := RX1) (T := TX1) (N := 1) hx hb hts hi_X1_journalHolds_X1 hown hK hP 0 rfl rfl 0 (by decide) (hts (Cond.fieldLink RX1 9 "BuddyFiles$Disk" "cells" "[I") hk_X1_journalHolds_9) (fun _ h9 => h9) rfl dX1_journalHolds_95 ?_
        refine lv_bipush (v := 111) hx hb dX1_journalHolds_98 (by decide) ?_
        obtain ⟨x15, ex, hm⟩ := g_bind hm
        refine w_ald hx hb hK hP 1 0 rfl rfl ex dX1_journalHolds_100 ?_
        refine lv_icmp_ne (tgt := 108) hx hb dX1_journalHolds_101 (by decide) (fun c16 => ?_) (fun c16 => ?_)
        · have hm := g_f c16 hm
          refine lv_iconst (v := 0) hx hb dX1_journalHolds_108 (by decide) ?_
          cases hm
          subst hQ
          exact W.zret hx hb hr rfl (fun t ht hW => ⟨_, rfl, rfl, ht⟩) (fun _ h => nomatch h) dX1_journalHolds_109
        · have hm := g_t c16 hm
          refine lv_iconst (v := 1) hx hb dX1_journalHolds_104 (by decide) ?_
          refine lv_goto (tgt := 109) hx hb dX1_journalHolds_105 (by decide) ?_
          cases hm
          subst hQ
          exact W.zret hx hb hr rfl (fun t ht hW => ⟨_, rfl, rfl, ht⟩) (fun _ h => nomatch h) dX1_journalHolds_109
      have hV8 : ∀ v, Sum.inl v = rl8 → v = r0 := by
        intro v hq
        subst hq
        have hm := g_sk_l hm
        exact Option.some.inj hm
      have hL8 : ∀ (n : Nat) (y4 : Int32) (y5 : Int32) (y6 : Int32), g_loop (fun q => m_X1_journalHolds_L28 c_da x1 q.1 q.2.1 q.2.2) n (y4, y5, y6) = some rl8 → ∀ (ls : Array Slot), lv_has ls 6 [(0, .ref A_d), (1, .int x1), (2, .int y4), (3, .int y5), (4, .int y6)] → W p l e (headSpec wsX1_journalHolds rm_X1_journalHolds).room s m (([.ref A_d] : List Value).toArray) below meth c s.heap [] 0 0 Q (F0 m 28 ls []) := by
        intro n
        induction n with
        | zero =>
          intro y4 y5 y6 hm
          exact g_loop_z hm
        | succ n ih =>
          intro y4 y5 y6 hm ls hl
          obtain ⟨q, hm, hy⟩ := g_loop_s hm
          have hm : m_X1_journalHolds_L28 c_da x1 y4 y5 y6 = some q := hm
          unfold m_X1_journalHolds_L28 at hm
          refine lv_iload hx hb dX1_journalHolds_28 (lv_at hl 4 rfl) ?_
          refine lv_iload_n hx hb dX1_journalHolds_30 rfl (lv_at hl 1 rfl) ?_
          refine lv_icmp_ge (tgt := 93) hx hb dX1_journalHolds_31 (by decide) (fun c9 => ?_) (fun c9 => ?_)
          · have hm := g_t c9 hm
            cases hm
            exact hE8 _ hy _ (lv_sub hl [0, 2] rfl)
          · have hm := g_f c9 hm
            refine lv_aload_n hx hb dX1_journalHolds_34 rfl (lv_at hl 0 rfl) ?_
            refine va_get (D := (dC, dI)) (ci := 0) (v := .ref A_da) (C := RX1) (T := TX1) (N := 1) hx hb hts hi_X1_journalHolds_X1 hown hK hP 0 rfl rfl 0 (by decide) (hts (Cond.fieldLink RX1 9 "BuddyFiles$Disk" "cells" "[I") hk_X1_journalHolds_9) (fun _ h9 => h9) rfl dX1_journalHolds_35 ?_
            refine lv_bipush (v := 112) hx hb dX1_journalHolds_38 (by decide) ?_
            refine lv_iconst (v := 2) hx hb dX1_journalHolds_40 (by decide) ?_
            refine lv_iload hx hb dX1_journalHolds_41 (lv_at hl 4 rfl) ?_
            refine lv_imul hx hb dX1_journalHolds_43 ?_
            refine lv_iadd hx hb dX1_journalHolds_44 ?_
            obtain ⟨x10, ex, hm⟩ := g_bind hm
            refine w_ald hx hb hK hP 1 0 rfl rfl ex dX1_journalHolds_45 ?_
            refine lv_istore (lv' := [(5, .int x10), (0, .ref A_d), (1, .int x1), (2, .int y4), (3, .int y5), (4, .int y6)]) hx hb dX1_journalHolds_46 hl (by decide) rfl (fun ls hl => ?_)
            refine lv_iload hx hb dX1_journalHolds_48 (lv_at hl 0 rfl) ?_
            refine lv_iload_n hx hb dX1_journalHolds_50 rfl (lv_at hl 4 rfl) ?_
            refine lv_icmp_le (tgt := 61) hx hb dX1_journalHolds_51 (by decide) (fun c11 => ?_) (fun c11 => ?_)
            · have hm := g_t c11 hm
              refine lv_iconst (v := 0) hx hb dX1_journalHolds_61 (by decide) ?_
              cases hm
              have hq := hV8 _ hy
              cases hq
              subst hQ
              exact W.zret hx hb hr rfl (fun t ht hW => ⟨_, rfl, rfl, ht⟩) (fun _ h => nomatch h) dX1_journalHolds_62
            · have hm := g_f c11 hm
              refine lv_iload hx hb dX1_journalHolds_54 (lv_at hl 0 rfl) ?_
              refine lv_bipush (v := 110) hx hb dX1_journalHolds_56 (by decide) ?_
              refine lv_icmp_lt (tgt := 63) hx hb dX1_journalHolds_58 (by decide) (fun c12 => ?_) (fun c12 => ?_)
              · have hm := g_t c12 hm
                refine lv_iload_n hx hb dX1_journalHolds_63 rfl (lv_at hl 3 rfl) ?_
                refine lv_iload hx hb dX1_journalHolds_64 (lv_at hl 0 rfl) ?_
                refine lv_aload_n hx hb dX1_journalHolds_66 rfl (lv_at hl 1 rfl) ?_
                refine va_get (D := (dC, dI)) (ci := 0) (v := .ref A_da) (C := RX1) (T := TX1) (N := 1) hx hb hts hi_X1_journalHolds_X1 hown hK hP 0 rfl rfl 0 (by decide) (hts (Cond.fieldLink RX1 9 "BuddyFiles$Disk" "cells" "[I") hk_X1_journalHolds_9) (fun _ h9 => h9) rfl dX1_journalHolds_67 ?_
                refine lv_bipush (v := 112) hx hb dX1_journalHolds_70 (by decide) ?_
                refine lv_iconst (v := 2) hx hb dX1_journalHolds_72 (by decide) ?_
                refine lv_iload hx hb dX1_journalHolds_73 (lv_at hl 5 rfl) ?_
                refine lv_imul hx hb dX1_journalHolds_75 ?_
                refine lv_iadd hx hb dX1_journalHolds_76 ?_
                refine lv_iconst (v := 1) hx hb dX1_journalHolds_77 (by decide) ?_
                refine lv_iadd hx hb dX1_journalHolds_78 ?_
                obtain ⟨x13, ex, hm⟩ := g_bind hm
                refine w_ald hx hb hK hP 1 0 rfl rfl ex dX1_journalHolds_79 ?_
                obtain ⟨x14, ex, hm⟩ := g_bind hm
                refine vp_callSi (W.runS (As := [.int y4, .int x10, .int x13]) (rest := []) ⟨hx, hb, hml, hown, hts⟩ (k_X1_nextCheck l  y4 x10 x13 _ ex) (va_cwS 3 hts gX1_journalHolds_X1_nextCheck rfl rfl rfl (by decide +kernel) ⟨Nat.le_of_ble_eq_true rfl, Nat.le_of_ble_eq_true rfl⟩) ⟨w_bl0, fun U hU hW => ⟨rfl, trivial⟩⟩ rfl rfl hl.1 rfl (lv_room (Nat.le_of_ble_eq_true rfl)) dX1_journalHolds_80 ⟨Nat.zero_le _, Nat.zero_le _⟩) (fun _ ey => ?_)
                subst ey
                refine lv_istore_n (lv' := [(2, .int x14), (5, .int x10), (0, .ref A_d), (1, .int x1), (3, .int y5), (4, .int y6)]) hx hb dX1_journalHolds_83 rfl hl (by decide) rfl (fun ls hl => ?_)
                refine lv_iload hx hb dX1_journalHolds_84 (lv_at hl 1 rfl) ?_
                refine lv_istore_n (lv' := [(3, .int x10), (2, .int x14), (5, .int x10), (0, .ref A_d), (1, .int x1), (4, .int y6)]) hx hb dX1_journalHolds_86 rfl hl (by decide) rfl (fun ls hl => ?_)
                refine lv_iinc (v := (y6 + (1 : Int32))) (lv' := [(4, .int (y6 + (1 : Int32))), (3, .int x10), (2, .int x14), (5, .int x10), (0, .ref A_d), (1, .int x1)]) hx hb dX1_journalHolds_87 hl (k := 5) rfl rfl (by decide) rfl (fun ls hl => ?_)
                refine lv_goto (tgt := 28) hx hb dX1_journalHolds_90 (by decide) ?_
                cases hm
                exact ih _ _ _ hy _ (lv_sub hl [4, 5, 2, 1, 0] rfl)
              · have hm := g_f c12 hm
                refine lv_iconst (v := 0) hx hb dX1_journalHolds_61 (by decide) ?_
                cases hm
                have hq := hV8 _ hy
                cases hq
                subst hQ
                exact W.zret hx hb hr rfl (fun t ht hW => ⟨_, rfl, rfl, ht⟩) (fun _ h => nomatch h) dX1_journalHolds_62
      exact hL8 _ _ _ _ hlp _ (lv_sub hl [4, 3, 2, 1, 0] rfl)
    · have hm := g_f c3 hm
      refine lv_iconst (v := 0) hx hb dX1_journalHolds_19 (by decide) ?_
      cases hm
      subst hQ
      exact W.zret hx hb hr rfl (fun t ht hW => ⟨_, rfl, rfl, ht⟩) (fun _ h => nomatch h) dX1_journalHolds_20
theorem hi_X1_replayIntoS_X1 : ∀ w ∈ wsX10, w ∈ wsX1_replayInto := by decide +kernel
theorem hk_X1_replayIntoS_9 : Cond.fieldLink RX1 9 "BuddyFiles$Disk" "cells" "[I" ∈ wsX1_replayInto := by decide +kernel
abbrev rm_X1_replayIntoS : Room := { frames := 0, cells := 0, slots := 0, locals := 0 }
set_option maxHeartbeats 4000000 in
set_option maxRecDepth 100000 in
theorem k_X1_replayIntoS (l : Launch) (dC : Nat → ClassId) (dI : Nat → Nat → Nat) (A_d A_da : Nat) (K_da : ClassId) (c_da : Nat → Int32) (sz : Nat)  (o_da : (Nat → Int32)) (hm : m_X1_replayIntoS c_da = some o_da) : Met l yX1_replayInto wsX1_replayInto rm_X1_replayIntoS (va_Pc [.ref A_d, .ref A_da] (fun U => U.heap.size = sz ∧ va_P (dC, dI) vwCl (wD A_d A_da K_da c_da) U.heap ∧ va_K (dC, dI) vwCl (tD K_da) U ∧ va_D (fun _ => True) (wD A_d A_da K_da c_da))) (va_Qv (fun (_ : Unit) => True) (fun _ t => va_P (dC, dI) vwCl (wD A_d A_da K_da o_da) t.heap ∧ va_D (va_A (wD A_d A_da K_da c_da) sz) (wD A_d A_da K_da o_da)) (va_A (wD A_d A_da K_da c_da) sz)) 0 0 (va_A (wD A_d A_da K_da c_da) sz) := by
  refine Met.ofW (cc := cX1_replayInto) (maxL := 4) (ret := (none)) (by decide) rfl ?_
  intro p e s m args below meth c s₁ B hml hv
  obtain ⟨rfl, hsz, hP, hK, hD0⟩ := hv
  have hx := B.exec
  have hb := B.bytes
  have hr := B.returns
  have hts := atoms_spec (ws := wsX1_replayInto) B.pre
  have hown : s.vm.findClass RX1 = some m.cls := findClass_of_methodNamed B.named
  have hlocks := B.notSynchronized
  subst hsz
  have hD := hD0.self (sz := s.heap.size)
  generalize hAe : va_A (wD A_d A_da K_da c_da) s.heap.size = A at hD ⊢
  have hA : ∀ q : Nat, s.heap.size ≤ q → A q := fun q h => by rw [← hAe]; exact Or.inr h
  have hS : va_S A s.heap s.heap [] := va_S.rf
  have hP : va_P (dC, dI) vwCl (wD A_d A_da K_da c_da) s.heap := hP
  have hl := lv_entry ([.ref A_d, .ref A_da]) (n := 4) (Nat.le_of_ble_eq_true rfl)
  rw [lg_entry_eq]
  generalize (lg_sl ([.ref A_d, .ref A_da]) ++ List.replicate (4 - (lg_sl ([.ref A_d, .ref A_da])).length) Slot.unset).toArray = ls at hl ⊢
  have hl : lv_has ls 4 [(0, .ref A_d), (1, .ref A_da)] := hl
  refine w_name (fun Q hQ => ?_)
  unfold m_X1_replayIntoS at hm
  refine lv_aload_n hx hb dX1_replayInto_0 rfl (lv_at hl 0 rfl) ?_
  refine va_get (D := (dC, dI)) (ci := 0) (v := .ref A_da) (C := RX1) (T := TX1) (N := 1) hx hb hts hi_X1_replayIntoS_X1 hown hK hP 0 rfl rfl 0 (by decide) (hts (Cond.fieldLink RX1 9 "BuddyFiles$Disk" "cells" "[I") hk_X1_replayIntoS_9) (fun _ h9 => h9) rfl dX1_replayInto_1 ?_
  refine lv_bipush (v := 110) hx hb dX1_replayInto_4 (by decide) ?_
  obtain ⟨x1, ex, hm⟩ := g_bind hm
  refine w_ald hx hb hK hP 1 0 rfl rfl ex dX1_replayInto_6 ?_
  refine lv_istore_n (lv' := [(2, .int x1), (0, .ref A_d), (1, .ref A_da)]) hx hb dX1_replayInto_7 rfl hl (by decide) rfl (fun ls hl => ?_)
  refine lv_iconst (v := 0) hx hb dX1_replayInto_8 (by decide) ?_
  refine lv_istore_n (lv' := [(3, .int (0 : Int32)), (2, .int x1), (0, .ref A_d), (1, .ref A_da)]) hx hb dX1_replayInto_9 rfl hl (by decide) rfl (fun ls hl => ?_)
  obtain ⟨rl5, hlp, hm⟩ := g_bind hm
  have hE5 : ∀ (f4 : (Nat → Int32)), f4 = rl5 → ∀ (H5e : Heap) (locs5e : List Loc), va_P (dC, dI) vwCl (wD A_d A_da K_da f4) H5e → va_D A (wD A_d A_da K_da f4) → va_S A s.heap H5e locs5e → ∀ (ls : Array Slot), lv_has ls 4 [] → W p l e (headSpec wsX1_replayInto rm_X1_replayIntoS).room s m (([.ref A_d, .ref A_da] : List Value).toArray) below meth c H5e locs5e 0 0 Q (F0 m 47 ls []) := by
    intro f4 hq H5e locs5e hP hD hS ls hl
    subst hq
    have hm := g_k1_s hm
    cases hm
    subst hQ
    exact W.vret hx hb hr (fun t ht hW => ⟨⟨(), rfl, trivial, by rw [ht]; exact hP, hD⟩, hS.F ht⟩) hS.2.2 dX1_replayInto_47
  have hL5 : ∀ (n : Nat) (y2 : Int32) (f3 : (Nat → Int32)), g_loop (fun q => m_X1_replayIntoS_L10 x1 q.1 q.2) n (y2, f3) = some rl5 → ∀ (H5b : Heap) (locs5b : List Loc), va_P (dC, dI) vwCl (wD A_d A_da K_da f3) H5b → va_D A (wD A_d A_da K_da f3) → va_S A s.heap H5b locs5b → ∀ (ls : Array Slot), lv_has ls 4 [(0, .ref A_d), (1, .ref A_da), (2, .int x1), (3, .int y2)] → W p l e (headSpec wsX1_replayInto rm_X1_replayIntoS).room s m (([.ref A_d, .ref A_da] : List Value).toArray) below meth c H5b locs5b 0 0 Q (F0 m 10 ls []) := by
    intro n
    induction n with
    | zero =>
      intro y2 f3 hm
      exact g_loop_z hm
    | succ n ih =>
      intro y2 f3 hm H5b locs5b hP hD hS ls hl
      obtain ⟨q, hm, hy⟩ := g_loop_s hm
      have hm : m_X1_replayIntoS_L10 x1 y2 f3 = some q := hm
      unfold m_X1_replayIntoS_L10 at hm
      refine lv_iload_n hx hb dX1_replayInto_10 rfl (lv_at hl 3 rfl) ?_
      refine lv_iload_n hx hb dX1_replayInto_11 rfl (lv_at hl 2 rfl) ?_
      refine lv_icmp_ge (tgt := 47) hx hb dX1_replayInto_12 (by decide) (fun c6 => ?_) (fun c6 => ?_)
      · have hm := g_t c6 hm
        cases hm
        exact hE5 _ hy _ _ hP hD hS _ (lv_sub hl [] rfl)
      · have hm := g_f c6 hm
        refine lv_aload_n hx hb dX1_replayInto_15 rfl (lv_at hl 1 rfl) ?_
        refine lv_aload_n hx hb dX1_replayInto_16 rfl (lv_at hl 0 rfl) ?_
        refine va_get (D := (dC, dI)) (ci := 0) (v := .ref A_da) (C := RX1) (T := TX1) (N := 1) hx hb hts hi_X1_replayIntoS_X1 hown hK hP 0 rfl rfl 0 (by decide) (hts (Cond.fieldLink RX1 9 "BuddyFiles$Disk" "cells" "[I") hk_X1_replayIntoS_9) (fun _ h9 => h9) rfl dX1_replayInto_17 ?_
        refine lv_bipush (v := 112) hx hb dX1_replayInto_20 (by decide) ?_
        refine lv_iconst (v := 2) hx hb dX1_replayInto_22 (by decide) ?_
        refine lv_iload_n hx hb dX1_replayInto_23 rfl (lv_at hl 3 rfl) ?_
        refine lv_imul hx hb dX1_replayInto_24 ?_
        refine lv_iadd hx hb dX1_replayInto_25 ?_
        obtain ⟨x7, ex, hm⟩ := g_bind hm
        refine w_ald hx hb hK hP 1 0 rfl rfl ex dX1_replayInto_26 ?_
        refine lv_aload_n hx hb dX1_replayInto_27 rfl (lv_at hl 0 rfl) ?_
        refine va_get (D := (dC, dI)) (ci := 0) (v := .ref A_da) (C := RX1) (T := TX1) (N := 1) hx hb hts hi_X1_replayIntoS_X1 hown hK hP 0 rfl rfl 0 (by decide) (hts (Cond.fieldLink RX1 9 "BuddyFiles$Disk" "cells" "[I") hk_X1_replayIntoS_9) (fun _ h9 => h9) rfl dX1_replayInto_28 ?_
        refine lv_bipush (v := 112) hx hb dX1_replayInto_31 (by decide) ?_
        refine lv_iconst (v := 2) hx hb dX1_replayInto_33 (by decide) ?_
        refine lv_iload_n hx hb dX1_replayInto_34 rfl (lv_at hl 3 rfl) ?_
        refine lv_imul hx hb dX1_replayInto_35 ?_
        refine lv_iadd hx hb dX1_replayInto_36 ?_
        refine lv_iconst (v := 1) hx hb dX1_replayInto_37 (by decide) ?_
        refine lv_iadd hx hb dX1_replayInto_38 ?_
        obtain ⟨x8, ex, hm⟩ := g_bind hm
        refine w_ald hx hb hK hP 1 0 rfl rfl ex dX1_replayInto_39 ?_
        obtain ⟨f9, ex, hm⟩ := g_bind hm
        refine w_ast hx hb hK hP hD hS 1 0 rfl rfl ex dX1_replayInto_40 (fun H10 locs10 hP hD hS => ?_)
        have hP : va_P (dC, dI) vwCl (wD A_d A_da K_da f9) H10 := hP
        have hD : va_D A (wD A_d A_da K_da f9) := hD
        refine lv_iinc (v := (y2 + (1 : Int32))) (lv' := [(3, .int (y2 + (1 : Int32))), (0, .ref A_d), (1, .ref A_da), (2, .int x1)]) hx hb dX1_replayInto_41 hl (k := 3) rfl rfl (by decide) rfl (fun ls hl => ?_)
        refine lv_goto (tgt := 10) hx hb dX1_replayInto_44 (by decide) ?_
        cases hm
        exact ih _ _ hy _ _ hP hD hS _ (lv_sub hl [1, 2, 3, 0] rfl)
  exact hL5 _ _ _ hlp _ _ hP hD hS _ (lv_sub hl [2, 3, 1, 0] rfl)
theorem hi_X1_replayJournal_X1 : ∀ w ∈ wsX10, w ∈ wsX1_replayJournal := by decide +kernel
theorem hk_X1_replayJournal_9 : Cond.fieldLink RX1 9 "BuddyFiles$Disk" "cells" "[I" ∈ wsX1_replayJournal := by decide +kernel
abbrev rm_X1_replayJournal : Room := { frames := 1, cells := 0, slots := 0, locals := 23 }
set_option maxHeartbeats 4000000 in
set_option maxRecDepth 100000 in
theorem k_X1_replayJournal (l : Launch) (dC : Nat → ClassId) (dI : Nat → Nat → Nat) (A_d A_da : Nat) (K_da : ClassId) (c_da : Nat → Int32) (sz : Nat)  (o_da : (Nat → Int32)) (hm : m_X1_replayJournal c_da = some o_da) : Met l yX1_replayJournal wsX1_replayJournal rm_X1_replayJournal (va_Pc [.ref A_d] (fun U => U.heap.size = sz ∧ va_P (dC, dI) vwCl (wD A_d A_da K_da c_da) U.heap ∧ va_K (dC, dI) vwCl (tD K_da) U ∧ va_D (fun _ => True) (wD A_d A_da K_da c_da))) (va_Qv (fun (_ : Unit) => True) (fun _ t => va_P (dC, dI) vwCl (wD A_d A_da K_da o_da) t.heap ∧ va_D (va_A (wD A_d A_da K_da c_da) sz) (wD A_d A_da K_da o_da)) (va_A (wD A_d A_da K_da c_da) sz)) 0 0 (va_A (wD A_d A_da K_da c_da) sz) := by
  refine Met.ofW (cc := cX1_replayJournal) (maxL := 1) (ret := (none)) (by decide) rfl ?_
  intro p e s m args below meth c s₁ B hml hv
  obtain ⟨rfl, hsz, hP, hK, hD0⟩ := hv
  have hx := B.exec
  have hb := B.bytes
  have hr := B.returns
  have hts := atoms_spec (ws := wsX1_replayJournal) B.pre
  have hown : s.vm.findClass RX1 = some m.cls := findClass_of_methodNamed B.named
  have hlocks := B.notSynchronized
  subst hsz
  have hD := hD0.self (sz := s.heap.size)
  generalize hAe : va_A (wD A_d A_da K_da c_da) s.heap.size = A at hD ⊢
  have hA : ∀ q : Nat, s.heap.size ≤ q → A q := fun q h => by rw [← hAe]; exact Or.inr h
  have hS : va_S A s.heap s.heap [] := va_S.rf
  have hP : va_P (dC, dI) vwCl (wD A_d A_da K_da c_da) s.heap := hP
  have hl := lv_entry ([.ref A_d]) (n := 1) (Nat.le_of_ble_eq_true rfl)
  rw [lg_entry_eq]
  generalize (lg_sl ([.ref A_d]) ++ List.replicate (1 - (lg_sl ([.ref A_d])).length) Slot.unset).toArray = ls at hl ⊢
  have hl : lv_has ls 1 [(0, .ref A_d)] := hl
  refine w_name (fun Q hQ => ?_)
  unfold m_X1_replayJournal at hm
  refine lv_aload_n hx hb dX1_replayJournal_0 rfl (lv_at hl 0 rfl) ?_
  refine lv_aload_n hx hb dX1_replayJournal_1 rfl (lv_at hl 0 rfl) ?_
  refine va_get (D := (dC, dI)) (ci := 0) (v := .ref A_da) (C := RX1) (T := TX1) (N := 1) hx hb hts hi_X1_replayJournal_X1 hown hK hP 0 rfl rfl 0 (by decide) (hts (Cond.fieldLink RX1 9 "BuddyFiles$Disk" "cells" "[I") hk_X1_replayJournal_9) (fun _ h9 => h9) rfl dX1_replayJournal_2 ?_
  obtain ⟨f1, ex, hm⟩ := g_bind hm
  have hPc := hP.sub (ws' := (wD A_d A_da K_da c_da)) [0, 1] rfl
  have hDc := hD.sub (ws' := (wD A_d A_da K_da c_da)) [0, 1] (by decide) rfl
  have hKc := hK.sub (tys' := (tD K_da)) [0] rfl
  have hFc := va_free (wc := (wD A_d A_da K_da c_da)) hD hS hA [0, 1] rfl
  refine va_callv (va_runV (As := [.ref A_da]) (rest := []) ⟨hx, hb, hml, hown, hts⟩ (k_X1_replayIntoS l dC dI A_d A_da K_da c_da s.heap.size  _ ex) (cwV 1 hts gX1_replayJournal_X1_replayInto rfl rfl rfl (by decide +kernel) ⟨Nat.le_of_ble_eq_true rfl, Nat.le_of_ble_eq_true rfl⟩) ⟨w_blW, va_recv hKc hPc (ci := 0) (q0 := 0) rfl rfl, fun U hU hW => ⟨rfl, by rw [hU], by rw [hU]; exact hPc, va_K.moved hW.alike hKc, hDc.weaken (fun _ _ _ _ => trivial)⟩⟩ rfl rfl hl.1 rfl (lv_room (Nat.le_of_ble_eq_true rfl)) dX1_replayJournal_5 ⟨Nat.zero_le _, Nat.zero_le _⟩) hS (fun q _ h => hFc q h) hFc (fun _ t H2 locs2 ht hvm hw hB hz1 hk1 hS => ?_)
  refine W.widen (k := 0) (n := 0) (Nat.le_refl 0) (Nat.le_refl 0) ?_
  obtain ⟨hP1, hD1⟩ := hB
  rw [ht] at hP1
  obtain ⟨hP, hD⟩ := va_join (wr := []) (w1 := (wD A_d A_da K_da f1)) hP hD [0, 1] [] rfl rfl (by decide) (by decide) hk1 hFc hP1 hD1
  have hP : va_P (dC, dI) vwCl (wD A_d A_da K_da f1) H2 := hP.sub [0, 1] rfl
  have hD : va_D A (wD A_d A_da K_da f1) := hD.sub [0, 1] (by decide) rfl
  refine lv_aload_n hx hb dX1_replayJournal_8 rfl (lv_at hl 0 rfl) ?_
  refine va_get (D := (dC, dI)) (ci := 0) (v := .ref A_da) (C := RX1) (T := TX1) (N := 1) hx hb hts hi_X1_replayJournal_X1 hown hK hP 0 rfl rfl 0 (by decide) (hts (Cond.fieldLink RX1 9 "BuddyFiles$Disk" "cells" "[I") hk_X1_replayJournal_9) (fun _ h9 => h9) rfl dX1_replayJournal_9 ?_
  refine lv_bipush (v := 110) hx hb dX1_replayJournal_12 (by decide) ?_
  refine lv_iconst (v := 0) hx hb dX1_replayJournal_14 (by decide) ?_
  obtain ⟨f3, ex, hm⟩ := g_bind hm
  refine w_ast hx hb hK hP hD hS 1 0 rfl rfl ex dX1_replayJournal_15 (fun H4 locs4 hP hD hS => ?_)
  have hP : va_P (dC, dI) vwCl (wD A_d A_da K_da f3) H4 := hP
  have hD : va_D A (wD A_d A_da K_da f3) := hD
  cases hm
  subst hQ
  exact W.vret hx hb hr (fun t ht hW => ⟨⟨(), rfl, trivial, by rw [ht]; exact hP, hD⟩, hS.F ht⟩) hS.2.2 dX1_replayJournal_16
theorem hi_X1_replayInto_X1 : ∀ w ∈ wsX10, w ∈ wsX1_replayInto := by decide +kernel
theorem hk_X1_replayInto_9 : Cond.fieldLink RX1 9 "BuddyFiles$Disk" "cells" "[I" ∈ wsX1_replayInto := by decide +kernel
abbrev rm_X1_replayInto : Room := { frames := 0, cells := 0, slots := 0, locals := 0 }
set_option maxHeartbeats 4000000 in
set_option maxRecDepth 100000 in
theorem k_X1_replayInto (l : Launch) (dC : Nat → ClassId) (dI : Nat → Nat → Nat) (A_d A_da A_ja : Nat) (K_da K_ja : ClassId) (c_da c_ja : Nat → Int32) (sz : Nat)  (o_ja : (Nat → Int32)) (hm : m_X1_replayInto c_da c_ja = some o_ja) : Met l yX1_replayInto wsX1_replayInto rm_X1_replayInto (va_Pc [.ref A_d, .ref A_ja] (fun U => U.heap.size = sz ∧ va_P (dC, dI) vwCl (wDH A_d A_da A_ja K_da K_ja c_da c_ja) U.heap ∧ va_K (dC, dI) vwCl (tDH K_da K_ja) U ∧ va_D (fun _ => True) (wDH A_d A_da A_ja K_da K_ja c_da c_ja))) (va_Qv (fun (_ : Unit) => True) (fun _ t => va_P (dC, dI) vwCl (wDH A_d A_da A_ja K_da K_ja c_da o_ja) t.heap ∧ va_D (va_A (wDH A_d A_da A_ja K_da K_ja c_da c_ja) sz) (wDH A_d A_da A_ja K_da K_ja c_da o_ja)) (va_A (wDH A_d A_da A_ja K_da K_ja c_da c_ja) sz)) 0 0 (va_A (wDH A_d A_da A_ja K_da K_ja c_da c_ja) sz) := by
  refine Met.ofW (cc := cX1_replayInto) (maxL := 4) (ret := (none)) (by decide) rfl ?_
  intro p e s m args below meth c s₁ B hml hv
  obtain ⟨rfl, hsz, hP, hK, hD0⟩ := hv
  have hx := B.exec
  have hb := B.bytes
  have hr := B.returns
  have hts := atoms_spec (ws := wsX1_replayInto) B.pre
  have hown : s.vm.findClass RX1 = some m.cls := findClass_of_methodNamed B.named
  have hlocks := B.notSynchronized
  subst hsz
  have hD := hD0.self (sz := s.heap.size)
  generalize hAe : va_A (wDH A_d A_da A_ja K_da K_ja c_da c_ja) s.heap.size = A at hD ⊢
  have hA : ∀ q : Nat, s.heap.size ≤ q → A q := fun q h => by rw [← hAe]; exact Or.inr h
  have hS : va_S A s.heap s.heap [] := va_S.rf
  have hP : va_P (dC, dI) vwCl (wDH A_d A_da A_ja K_da K_ja c_da c_ja) s.heap := hP
  have hl := lv_entry ([.ref A_d, .ref A_ja]) (n := 4) (Nat.le_of_ble_eq_true rfl)
  rw [lg_entry_eq]
  generalize (lg_sl ([.ref A_d, .ref A_ja]) ++ List.replicate (4 - (lg_sl ([.ref A_d, .ref A_ja])).length) Slot.unset).toArray = ls at hl ⊢
  have hl : lv_has ls 4 [(0, .ref A_d), (1, .ref A_ja)] := hl
  refine w_name (fun Q hQ => ?_)
  unfold m_X1_replayInto at hm
  refine lv_aload_n hx hb dX1_replayInto_0 rfl (lv_at hl 0 rfl) ?_
  refine va_get (D := (dC, dI)) (ci := 0) (v := .ref A_da) (C := RX1) (T := TX1) (N := 1) hx hb hts hi_X1_replayInto_X1 hown hK hP 0 rfl rfl 0 (by decide) (hts (Cond.fieldLink RX1 9 "BuddyFiles$Disk" "cells" "[I") hk_X1_replayInto_9) (fun _ h9 => h9) rfl dX1_replayInto_1 ?_
  refine lv_bipush (v := 110) hx hb dX1_replayInto_4 (by decide) ?_
  obtain ⟨x1, ex, hm⟩ := g_bind hm
  refine w_ald hx hb hK hP 1 0 rfl rfl ex dX1_replayInto_6 ?_
  refine lv_istore_n (lv' := [(2, .int x1), (0, .ref A_d), (1, .ref A_ja)]) hx hb dX1_replayInto_7 rfl hl (by decide) rfl (fun ls hl => ?_)
  refine lv_iconst (v := 0) hx hb dX1_replayInto_8 (by decide) ?_
  refine lv_istore_n (lv' := [(3, .int (0 : Int32)), (2, .int x1), (0, .ref A_d), (1, .ref A_ja)]) hx hb dX1_replayInto_9 rfl hl (by decide) rfl (fun ls hl => ?_)
  obtain ⟨rl5, hlp, hm⟩ := g_bind hm
  have hE5 : ∀ (f4 : (Nat → Int32)), f4 = rl5 → ∀ (H5e : Heap) (locs5e : List Loc), va_P (dC, dI) vwCl (wDH A_d A_da A_ja K_da K_ja c_da f4) H5e → va_D A (wDH A_d A_da A_ja K_da K_ja c_da f4) → va_S A s.heap H5e locs5e → ∀ (ls : Array Slot), lv_has ls 4 [] → W p l e (headSpec wsX1_replayInto rm_X1_replayInto).room s m (([.ref A_d, .ref A_ja] : List Value).toArray) below meth c H5e locs5e 0 0 Q (F0 m 47 ls []) := by
    intro f4 hq H5e locs5e hP hD hS ls hl
    subst hq
    have hm := g_k1_s hm
    cases hm
    subst hQ
    exact W.vret hx hb hr (fun t ht hW => ⟨⟨(), rfl, trivial, by rw [ht]; exact hP, hD⟩, hS.F ht⟩) hS.2.2 dX1_replayInto_47
  have hL5 : ∀ (n : Nat) (y2 : Int32) (f3 : (Nat → Int32)), g_loop (fun q => m_X1_replayInto_L10 c_da x1 q.1 q.2) n (y2, f3) = some rl5 → ∀ (H5b : Heap) (locs5b : List Loc), va_P (dC, dI) vwCl (wDH A_d A_da A_ja K_da K_ja c_da f3) H5b → va_D A (wDH A_d A_da A_ja K_da K_ja c_da f3) → va_S A s.heap H5b locs5b → ∀ (ls : Array Slot), lv_has ls 4 [(0, .ref A_d), (1, .ref A_ja), (2, .int x1), (3, .int y2)] → W p l e (headSpec wsX1_replayInto rm_X1_replayInto).room s m (([.ref A_d, .ref A_ja] : List Value).toArray) below meth c H5b locs5b 0 0 Q (F0 m 10 ls []) := by
    intro n
    induction n with
    | zero =>
      intro y2 f3 hm
      exact g_loop_z hm
    | succ n ih =>
      intro y2 f3 hm H5b locs5b hP hD hS ls hl
      obtain ⟨q, hm, hy⟩ := g_loop_s hm
      have hm : m_X1_replayInto_L10 c_da x1 y2 f3 = some q := hm
      unfold m_X1_replayInto_L10 at hm
      refine lv_iload_n hx hb dX1_replayInto_10 rfl (lv_at hl 3 rfl) ?_
      refine lv_iload_n hx hb dX1_replayInto_11 rfl (lv_at hl 2 rfl) ?_
      refine lv_icmp_ge (tgt := 47) hx hb dX1_replayInto_12 (by decide) (fun c6 => ?_) (fun c6 => ?_)
      · have hm := g_t c6 hm
        cases hm
        exact hE5 _ hy _ _ hP hD hS _ (lv_sub hl [] rfl)
      · have hm := g_f c6 hm
        refine lv_aload_n hx hb dX1_replayInto_15 rfl (lv_at hl 1 rfl) ?_
        refine lv_aload_n hx hb dX1_replayInto_16 rfl (lv_at hl 0 rfl) ?_
        refine va_get (D := (dC, dI)) (ci := 0) (v := .ref A_da) (C := RX1) (T := TX1) (N := 1) hx hb hts hi_X1_replayInto_X1 hown hK hP 0 rfl rfl 0 (by decide) (hts (Cond.fieldLink RX1 9 "BuddyFiles$Disk" "cells" "[I") hk_X1_replayInto_9) (fun _ h9 => h9) rfl dX1_replayInto_17 ?_
        refine lv_bipush (v := 112) hx hb dX1_replayInto_20 (by decide) ?_
        refine lv_iconst (v := 2) hx hb dX1_replayInto_22 (by decide) ?_
        refine lv_iload_n hx hb dX1_replayInto_23 rfl (lv_at hl 3 rfl) ?_
        refine lv_imul hx hb dX1_replayInto_24 ?_
        refine lv_iadd hx hb dX1_replayInto_25 ?_
        obtain ⟨x7, ex, hm⟩ := g_bind hm
        refine w_ald hx hb hK hP 1 0 rfl rfl ex dX1_replayInto_26 ?_
        refine lv_aload_n hx hb dX1_replayInto_27 rfl (lv_at hl 0 rfl) ?_
        refine va_get (D := (dC, dI)) (ci := 0) (v := .ref A_da) (C := RX1) (T := TX1) (N := 1) hx hb hts hi_X1_replayInto_X1 hown hK hP 0 rfl rfl 0 (by decide) (hts (Cond.fieldLink RX1 9 "BuddyFiles$Disk" "cells" "[I") hk_X1_replayInto_9) (fun _ h9 => h9) rfl dX1_replayInto_28 ?_
        refine lv_bipush (v := 112) hx hb dX1_replayInto_31 (by decide) ?_
        refine lv_iconst (v := 2) hx hb dX1_replayInto_33 (by decide) ?_
        refine lv_iload_n hx hb dX1_replayInto_34 rfl (lv_at hl 3 rfl) ?_
        refine lv_imul hx hb dX1_replayInto_35 ?_
        refine lv_iadd hx hb dX1_replayInto_36 ?_
        refine lv_iconst (v := 1) hx hb dX1_replayInto_37 (by decide) ?_
        refine lv_iadd hx hb dX1_replayInto_38 ?_
        obtain ⟨x8, ex, hm⟩ := g_bind hm
        refine w_ald hx hb hK hP 1 0 rfl rfl ex dX1_replayInto_39 ?_
        obtain ⟨f9, ex, hm⟩ := g_bind hm
        refine w_ast hx hb hK hP hD hS 2 1 rfl rfl ex dX1_replayInto_40 (fun H10 locs10 hP hD hS => ?_)
        have hP : va_P (dC, dI) vwCl (wDH A_d A_da A_ja K_da K_ja c_da f9) H10 := hP
        have hD : va_D A (wDH A_d A_da A_ja K_da K_ja c_da f9) := hD
        refine lv_iinc (v := (y2 + (1 : Int32))) (lv' := [(3, .int (y2 + (1 : Int32))), (0, .ref A_d), (1, .ref A_ja), (2, .int x1)]) hx hb dX1_replayInto_41 hl (k := 3) rfl rfl (by decide) rfl (fun ls hl => ?_)
        refine lv_goto (tgt := 10) hx hb dX1_replayInto_44 (by decide) ?_
        cases hm
        exact ih _ _ hy _ _ hP hD hS _ (lv_sub hl [1, 2, 3, 0] rfl)
  exact hL5 _ _ _ hlp _ _ hP hD hS _ (lv_sub hl [2, 3, 1, 0] rfl)
