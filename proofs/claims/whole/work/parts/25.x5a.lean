abbrev rm_X5_within : Room := { frames := 0, cells := 0, slots := 0, locals := 0 }
set_option maxHeartbeats 4000000 in
set_option maxRecDepth 100000 in
theorem k_X5_within (l : Launch)  (p0 : Int32) (p1 : Int32) (p2 : Int32) (r0 : Int32) (hm : m_X5_within p0 p1 p2 = some r0) : Met l yX5_within wsX5_within rm_X5_within (va_Pc [.int p0, .int p1, .int p2] (fun _ => True)) (vp_Si (fun r => r0 = r)) 0 0 (fun _ => False) := by
  refine Met.ofW (cc := cX5_within) (maxL := 3) (ret := (some .boolean)) (by decide) rfl ?_
  intro p e s m args below meth c s₁ B hml hv
  obtain ⟨rfl, -⟩ := hv
  have hx := B.exec
  have hb := B.bytes
  have hr := B.returns
  have hts := atoms_spec (ws := wsX5_within) B.pre
  have hown : s.vm.findClass RX5 = some m.cls := findClass_of_methodNamed B.named
  have hlocks := B.notSynchronized
  have hl := lv_entry ([.int p0, .int p1, .int p2]) (n := 3) (Nat.le_of_ble_eq_true rfl)
  rw [lg_entry_eq]
  generalize (lg_sl ([.int p0, .int p1, .int p2]) ++ List.replicate (3 - (lg_sl ([.int p0, .int p1, .int p2])).length) Slot.unset).toArray = ls at hl ⊢
  have hl : lv_has ls 3 [(0, .int p0), (1, .int p1), (2, .int p2)] := hl
  refine w_name (fun Q hQ => ?_)
  unfold m_X5_within at hm
  refine lv_iload_n hx hb dX5_within_0 rfl (lv_at hl 0 rfl) ?_
  refine lv_iload_n hx hb dX5_within_1 rfl (lv_at hl 1 rfl) ?_
  refine lv_icmp_lt (tgt := 14) hx hb dX5_within_2 (by decide) (fun c1 => ?_) (fun c1 => ?_)
  · have hm := g_t c1 hm
    refine lv_iconst (v := 0) hx hb dX5_within_14 (by decide) ?_
    cases hm
    subst hQ
    exact W.zret hx hb hr rfl (fun t ht hW => ⟨_, rfl, rfl, ht⟩) (fun _ h => nomatch h) dX5_within_15
  · have hm := g_f c1 hm
    refine lv_iload_n hx hb dX5_within_5 rfl (lv_at hl 0 rfl) ?_
    refine lv_iload_n hx hb dX5_within_6 rfl (lv_at hl 2 rfl) ?_
    refine lv_icmp_gt (tgt := 14) hx hb dX5_within_7 (by decide) (fun c2 => ?_) (fun c2 => ?_)
    · have hm := g_t c2 hm
      refine lv_iconst (v := 0) hx hb dX5_within_14 (by decide) ?_
      cases hm
      subst hQ
      exact W.zret hx hb hr rfl (fun t ht hW => ⟨_, rfl, rfl, ht⟩) (fun _ h => nomatch h) dX5_within_15
    · have hm := g_f c2 hm
      refine lv_iconst (v := 1) hx hb dX5_within_10 (by decide) ?_
      refine lv_goto (tgt := 15) hx hb dX5_within_11 (by decide) ?_
      cases hm
      subst hQ
      exact W.zret hx hb hr rfl (fun t ht hW => ⟨_, rfl, rfl, ht⟩) (fun _ h => nomatch h) dX5_within_15
theorem hi_X5_format_X5 : ∀ w ∈ wsX50, w ∈ wsX5_format := by decide +kernel
theorem hk_X5_format_7 : Cond.fieldLink RX5 7 "BuddyFilesModel" "disk" "[I" ∈ wsX5_format := by decide +kernel
theorem hk_X5_format_13 : Cond.fieldLink RX5 13 "BuddyFilesModel" "mem" "[I" ∈ wsX5_format := by decide +kernel
theorem hk_X5_format_42 : Cond.fieldLink RX5 42 "BuddyFilesModel" "up" "Z" ∈ wsX5_format := by decide +kernel
theorem hk_X5_format_46 : Cond.fieldLink RX5 46 "BuddyFilesModel" "fuse" "I" ∈ wsX5_format := by decide +kernel
theorem hk_X5_format_16 : Cond.fieldLink RX5 16 "BuddyFilesModel" "handle" "[I" ∈ wsX5_format := by decide +kernel
abbrev rm_X5_format : Room := { frames := 1, cells := 0, slots := 0, locals := 22 }
set_option maxHeartbeats 4000000 in
set_option maxRecDepth 100000 in
theorem k_X5_format (l : Launch) (dC : Nat → ClassId) (dI : Nat → Nat → Nat) (A_x A_da A_ma A_ha A_ho A_ti A_be A_te A_ch : Nat) (K_da K_ma K_ha K_ho K_ti K_be K_te K_ch : ClassId) (c_da c_ma c_ha c_ho c_ti c_be c_te c_ch : Nat → Int32) (c_up c_fu c_tm c_tc : Int32) (sz : Nat)  (o_da : (Nat → Int32)) (o_ma : (Nat → Int32)) (o_ha : (Nat → Int32)) (o_up : Int32) (o_fu : Int32) (hm : m_X5_format c_da c_ma c_ha c_up c_fu = some (o_da, o_ma, o_ha, o_up, o_fu)) : Met l yX5_format wsX5_format rm_X5_format (va_Pc [.ref A_x] (fun U => U.heap.size = sz ∧ va_P (dC, dI) vwCl (wM A_x A_da A_ma A_ha A_ho A_ti A_be A_te A_ch K_da K_ma K_ha K_ho K_ti K_be K_te K_ch c_da c_ma c_ha c_ho c_ti c_be c_te c_ch c_up c_fu c_tm c_tc) U.heap ∧ va_K (dC, dI) vwCl (tM K_da K_ma K_ha K_ho K_ti K_be K_te K_ch) U ∧ va_D (fun _ => True) (wM A_x A_da A_ma A_ha A_ho A_ti A_be A_te A_ch K_da K_ma K_ha K_ho K_ti K_be K_te K_ch c_da c_ma c_ha c_ho c_ti c_be c_te c_ch c_up c_fu c_tm c_tc))) (va_Qv (fun (_ : Unit) => True) (fun _ t => va_P (dC, dI) vwCl (wM A_x A_da A_ma A_ha A_ho A_ti A_be A_te A_ch K_da K_ma K_ha K_ho K_ti K_be K_te K_ch o_da o_ma o_ha c_ho c_ti c_be c_te c_ch o_up o_fu c_tm c_tc) t.heap ∧ va_D (va_A (wM A_x A_da A_ma A_ha A_ho A_ti A_be A_te A_ch K_da K_ma K_ha K_ho K_ti K_be K_te K_ch c_da c_ma c_ha c_ho c_ti c_be c_te c_ch c_up c_fu c_tm c_tc) sz) (wM A_x A_da A_ma A_ha A_ho A_ti A_be A_te A_ch K_da K_ma K_ha K_ho K_ti K_be K_te K_ch o_da o_ma o_ha c_ho c_ti c_be c_te c_ch o_up o_fu c_tm c_tc)) (va_A (wM A_x A_da A_ma A_ha A_ho A_ti A_be A_te A_ch K_da K_ma K_ha K_ho K_ti K_be K_te K_ch c_da c_ma c_ha c_ho c_ti c_be c_te c_ch c_up c_fu c_tm c_tc) sz)) 0 0 (va_A (wM A_x A_da A_ma A_ha A_ho A_ti A_be A_te A_ch K_da K_ma K_ha K_ho K_ti K_be K_te K_ch c_da c_ma c_ha c_ho c_ti c_be c_te c_ch c_up c_fu c_tm c_tc) sz) := by
  refine Met.ofW (cc := cX5_format) (maxL := 2) (ret := (none)) (by decide) rfl ?_
  intro p e s m args below meth c s₁ B hml hv
  obtain ⟨rfl, hsz, hP, hK, hD0⟩ := hv
  have hx := B.exec
  have hb := B.bytes
  have hr := B.returns
  have hts := atoms_spec (ws := wsX5_format) B.pre
  have hown : s.vm.findClass RX5 = some m.cls := findClass_of_methodNamed B.named
  have hlocks := B.notSynchronized
  subst hsz
  have hD := hD0.self (sz := s.heap.size)
  generalize hAe : va_A (wM A_x A_da A_ma A_ha A_ho A_ti A_be A_te A_ch K_da K_ma K_ha K_ho K_ti K_be K_te K_ch c_da c_ma c_ha c_ho c_ti c_be c_te c_ch c_up c_fu c_tm c_tc) s.heap.size = A at hD ⊢
  have hA : ∀ q : Nat, s.heap.size ≤ q → A q := fun q h => by rw [← hAe]; exact Or.inr h
  have hS : va_S A s.heap s.heap [] := va_S.rf
  have hP : va_P (dC, dI) vwCl (wM A_x A_da A_ma A_ha A_ho A_ti A_be A_te A_ch K_da K_ma K_ha K_ho K_ti K_be K_te K_ch c_da c_ma c_ha c_ho c_ti c_be c_te c_ch c_up c_fu c_tm c_tc) s.heap := hP
  have hl := lv_entry ([.ref A_x]) (n := 2) (Nat.le_of_ble_eq_true rfl)
  rw [lg_entry_eq]
  generalize (lg_sl ([.ref A_x]) ++ List.replicate (2 - (lg_sl ([.ref A_x])).length) Slot.unset).toArray = ls at hl ⊢
  have hl : lv_has ls 2 [(0, .ref A_x)] := hl
  refine w_name (fun Q hQ => ?_)
  unfold m_X5_format at hm
  refine lv_iconst (v := 0) hx hb dX5_format_0 (by decide) ?_
  refine lv_istore_n (lv' := [(1, .int (0 : Int32)), (0, .ref A_x)]) hx hb dX5_format_1 rfl hl (by decide) rfl (fun ls hl => ?_)
  obtain ⟨rl4, hlp, hm⟩ := g_bind hm
  have hE4 : ∀ (f3 : (Nat → Int32)), f3 = rl4 → ∀ (H4e : Heap) (locs4e : List Loc), va_P (dC, dI) vwCl (wM A_x A_da A_ma A_ha A_ho A_ti A_be A_te A_ch K_da K_ma K_ha K_ho K_ti K_be K_te K_ch f3 c_ma c_ha c_ho c_ti c_be c_te c_ch c_up c_fu c_tm c_tc) H4e → va_D A (wM A_x A_da A_ma A_ha A_ho A_ti A_be A_te A_ch K_da K_ma K_ha K_ho K_ti K_be K_te K_ch f3 c_ma c_ha c_ho c_ti c_be c_te c_ch c_up c_fu c_tm c_tc) → va_S A s.heap H4e locs4e → ∀ (ls : Array Slot), lv_has ls 2 [(0, .ref A_x)] → W p l e (headSpec wsX5_format rm_X5_format).room s m (([.ref A_x] : List Value).toArray) below meth c H4e locs4e 0 0 Q (F0 m 38 ls []) := by
    intro f3 hq H4e locs4e hP hD hS ls hl
    subst hq
    have hm := g_k1_s hm
    refine lv_iconst (v := 0) hx hb dX5_format_38 (by decide) ?_
    refine lv_istore_n (lv' := [(1, .int (0 : Int32)), (0, .ref A_x)]) hx hb dX5_format_39 rfl hl (by decide) rfl (fun ls hl => ?_)
    obtain ⟨rl15, hlp, hm⟩ := g_bind hm
    have hE15 : ∀ (f14 : (Nat → Int32)), f14 = rl15 → ∀ (H15e : Heap) (locs15e : List Loc), va_P (dC, dI) vwCl (wM A_x A_da A_ma A_ha A_ho A_ti A_be A_te A_ch K_da K_ma K_ha K_ho K_ti K_be K_te K_ch f3 f14 c_ha c_ho c_ti c_be c_te c_ch c_up c_fu c_tm c_tc) H15e → va_D A (wM A_x A_da A_ma A_ha A_ho A_ti A_be A_te A_ch K_da K_ma K_ha K_ho K_ti K_be K_te K_ch f3 f14 c_ha c_ho c_ti c_be c_te c_ch c_up c_fu c_tm c_tc) → va_S A s.heap H15e locs15e → ∀ (ls : Array Slot), lv_has ls 2 [(0, .ref A_x)] → W p l e (headSpec wsX5_format rm_X5_format).room s m (([.ref A_x] : List Value).toArray) below meth c H15e locs15e 0 0 Q (F0 m 64 ls []) := by
      intro f14 hq H15e locs15e hP hD hS ls hl
      subst hq
      have hm := g_k1_s hm
      refine lv_aload_n hx hb dX5_format_64 rfl (lv_at hl 0 rfl) ?_
      refine lv_iconst (v := 1) hx hb dX5_format_65 (by decide) ?_
      refine va_put (D := (dC, dI)) (ci := 3) (v := .int (1 : Int32)) (ty := .boolean) (C := RX5) (T := TX5) (N := 12) hx hb hts hi_X5_format_X5 tyX5 tyX5_ok nmX5 hown hK hP hD hS 0 rfl rfl 1 (by decide) (hts (Cond.fieldLink RX5 42 "BuddyFilesModel" "up" "Z") hk_X5_format_42) (fun _ h9 => h9) rfl (by decide +kernel) rfl rfl (Nat.le_of_ble_eq_true rfl) dX5_format_66 (fun H20 locs20 hP hD hS => ?_)
      have hP : va_P (dC, dI) vwCl (wM A_x A_da A_ma A_ha A_ho A_ti A_be A_te A_ch K_da K_ma K_ha K_ho K_ti K_be K_te K_ch f3 f14 c_ha c_ho c_ti c_be c_te c_ch (1 : Int32) c_fu c_tm c_tc) H20 := hP
      have hD : va_D A (wM A_x A_da A_ma A_ha A_ho A_ti A_be A_te A_ch K_da K_ma K_ha K_ho K_ti K_be K_te K_ch f3 f14 c_ha c_ho c_ti c_be c_te c_ch (1 : Int32) c_fu c_tm c_tc) := hD
      refine lv_aload_n hx hb dX5_format_69 rfl (lv_at hl 0 rfl) ?_
      refine lv_iconst (v := -1) hx hb dX5_format_70 (by decide) ?_
      refine va_put (D := (dC, dI)) (ci := 3) (v := .int (-1 : Int32)) (ty := .int) (C := RX5) (T := TX5) (N := 12) hx hb hts hi_X5_format_X5 tyX5 tyX5_ok nmX5 hown hK hP hD hS 0 rfl rfl 2 (by decide) (hts (Cond.fieldLink RX5 46 "BuddyFilesModel" "fuse" "I") hk_X5_format_46) (fun _ h9 => h9) rfl (by decide +kernel) rfl rfl (Nat.le_of_ble_eq_true rfl) dX5_format_71 (fun H21 locs21 hP hD hS => ?_)
      have hP : va_P (dC, dI) vwCl (wM A_x A_da A_ma A_ha A_ho A_ti A_be A_te A_ch K_da K_ma K_ha K_ho K_ti K_be K_te K_ch f3 f14 c_ha c_ho c_ti c_be c_te c_ch (1 : Int32) (-1 : Int32) c_tm c_tc) H21 := hP
      have hD : va_D A (wM A_x A_da A_ma A_ha A_ho A_ti A_be A_te A_ch K_da K_ma K_ha K_ho K_ti K_be K_te K_ch f3 f14 c_ha c_ho c_ti c_be c_te c_ch (1 : Int32) (-1 : Int32) c_tm c_tc) := hD
      refine lv_iconst (v := 0) hx hb dX5_format_74 (by decide) ?_
      refine lv_istore_n (lv' := [(1, .int (0 : Int32)), (0, .ref A_x)]) hx hb dX5_format_75 rfl hl (by decide) rfl (fun ls hl => ?_)
      obtain ⟨rl25, hlp, hm⟩ := g_bind hm
      have hE25 : ∀ (f24 : (Nat → Int32)), f24 = rl25 → ∀ (H25e : Heap) (locs25e : List Loc), va_P (dC, dI) vwCl (wM A_x A_da A_ma A_ha A_ho A_ti A_be A_te A_ch K_da K_ma K_ha K_ho K_ti K_be K_te K_ch f3 f14 f24 c_ho c_ti c_be c_te c_ch (1 : Int32) (-1 : Int32) c_tm c_tc) H25e → va_D A (wM A_x A_da A_ma A_ha A_ho A_ti A_be A_te A_ch K_da K_ma K_ha K_ho K_ti K_be K_te K_ch f3 f14 f24 c_ho c_ti c_be c_te c_ch (1 : Int32) (-1 : Int32) c_tm c_tc) → va_S A s.heap H25e locs25e → ∀ (ls : Array Slot), lv_has ls 2 [] → W p l e (headSpec wsX5_format rm_X5_format).room s m (([.ref A_x] : List Value).toArray) below meth c H25e locs25e 0 0 Q (F0 m 94 ls []) := by
        intro f24 hq H25e locs25e hP hD hS ls hl
        subst hq
        have hm := g_k1_s hm
        cases hm
        subst hQ
        exact W.vret hx hb hr (fun t ht hW => ⟨⟨(), rfl, trivial, by rw [ht]; exact hP, hD⟩, hS.F ht⟩) hS.2.2 dX5_format_94
      have hL25 : ∀ (n : Nat) (y22 : Int32) (f23 : (Nat → Int32)), g_loop (fun q => m_X5_format_L76 q.1 q.2) n (y22, f23) = some rl25 → ∀ (H25b : Heap) (locs25b : List Loc), va_P (dC, dI) vwCl (wM A_x A_da A_ma A_ha A_ho A_ti A_be A_te A_ch K_da K_ma K_ha K_ho K_ti K_be K_te K_ch f3 f14 f23 c_ho c_ti c_be c_te c_ch (1 : Int32) (-1 : Int32) c_tm c_tc) H25b → va_D A (wM A_x A_da A_ma A_ha A_ho A_ti A_be A_te A_ch K_da K_ma K_ha K_ho K_ti K_be K_te K_ch f3 f14 f23 c_ho c_ti c_be c_te c_ch (1 : Int32) (-1 : Int32) c_tm c_tc) → va_S A s.heap H25b locs25b → ∀ (ls : Array Slot), lv_has ls 2 [(0, .ref A_x), (1, .int y22)] → W p l e (headSpec wsX5_format rm_X5_format).room s m (([.ref A_x] : List Value).toArray) below meth c H25b locs25b 0 0 Q (F0 m 76 ls []) := by
        intro n
        induction n with
        | zero =>
          intro y22 f23 hm
          exact g_loop_z hm
        | succ n ih =>
          intro y22 f23 hm H25b locs25b hP hD hS ls hl
          obtain ⟨q, hm, hy⟩ := g_loop_s hm
          have hm : m_X5_format_L76 y22 f23 = some q := hm
          unfold m_X5_format_L76 at hm
          refine lv_iload_n hx hb dX5_format_76 rfl (lv_at hl 1 rfl) ?_
          refine lv_iconst (v := 4) hx hb dX5_format_77 (by decide) ?_
          refine lv_icmp_ge (tgt := 94) hx hb dX5_format_78 (by decide) (fun c26 => ?_) (fun c26 => ?_)
          · have hm := g_t c26 hm
            cases hm
            exact hE25 _ hy _ _ hP hD hS _ (lv_sub hl [] rfl)
          · have hm := g_f c26 hm
            refine lv_aload_n hx hb dX5_format_81 rfl (lv_at hl 0 rfl) ?_
            refine va_get (D := (dC, dI)) (ci := 3) (v := .ref A_ha) (C := RX5) (T := TX5) (N := 12) hx hb hts hi_X5_format_X5 hown hK hP 0 rfl rfl 4 (by decide) (hts (Cond.fieldLink RX5 16 "BuddyFilesModel" "handle" "[I") hk_X5_format_16) (fun _ h9 => h9) rfl dX5_format_82 ?_
            refine lv_iload_n hx hb dX5_format_85 rfl (lv_at hl 1 rfl) ?_
            refine lv_iconst (v := 0) hx hb dX5_format_86 (by decide) ?_
            obtain ⟨f27, ex, hm⟩ := g_bind hm
            refine w_ast hx hb hK hP hD hS 3 2 rfl rfl ex dX5_format_87 (fun H28 locs28 hP hD hS => ?_)
            have hP : va_P (dC, dI) vwCl (wM A_x A_da A_ma A_ha A_ho A_ti A_be A_te A_ch K_da K_ma K_ha K_ho K_ti K_be K_te K_ch f3 f14 f27 c_ho c_ti c_be c_te c_ch (1 : Int32) (-1 : Int32) c_tm c_tc) H28 := hP
            have hD : va_D A (wM A_x A_da A_ma A_ha A_ho A_ti A_be A_te A_ch K_da K_ma K_ha K_ho K_ti K_be K_te K_ch f3 f14 f27 c_ho c_ti c_be c_te c_ch (1 : Int32) (-1 : Int32) c_tm c_tc) := hD
            refine lv_iinc (v := (y22 + (1 : Int32))) (lv' := [(1, .int (y22 + (1 : Int32))), (0, .ref A_x)]) hx hb dX5_format_88 hl (k := 1) rfl rfl (by decide) rfl (fun ls hl => ?_)
            refine lv_goto (tgt := 76) hx hb dX5_format_91 (by decide) ?_
            cases hm
            exact ih _ _ hy _ _ hP hD hS _ (lv_sub hl [1, 0] rfl)
      exact hL25 _ _ _ hlp _ _ hP hD hS _ (lv_sub hl [1, 0] rfl)
    have hL15 : ∀ (n : Nat) (y12 : Int32) (f13 : (Nat → Int32)), g_loop (fun q => m_X5_format_L40 f3 q.1 q.2) n (y12, f13) = some rl15 → ∀ (H15b : Heap) (locs15b : List Loc), va_P (dC, dI) vwCl (wM A_x A_da A_ma A_ha A_ho A_ti A_be A_te A_ch K_da K_ma K_ha K_ho K_ti K_be K_te K_ch f3 f13 c_ha c_ho c_ti c_be c_te c_ch c_up c_fu c_tm c_tc) H15b → va_D A (wM A_x A_da A_ma A_ha A_ho A_ti A_be A_te A_ch K_da K_ma K_ha K_ho K_ti K_be K_te K_ch f3 f13 c_ha c_ho c_ti c_be c_te c_ch c_up c_fu c_tm c_tc) → va_S A s.heap H15b locs15b → ∀ (ls : Array Slot), lv_has ls 2 [(0, .ref A_x), (1, .int y12)] → W p l e (headSpec wsX5_format rm_X5_format).room s m (([.ref A_x] : List Value).toArray) below meth c H15b locs15b 0 0 Q (F0 m 40 ls []) := by
      intro n
      induction n with
      | zero =>
        intro y12 f13 hm
        exact g_loop_z hm
      | succ n ih =>
        intro y12 f13 hm H15b locs15b hP hD hS ls hl
        obtain ⟨q, hm, hy⟩ := g_loop_s hm
        have hm : m_X5_format_L40 f3 y12 f13 = some q := hm
        unfold m_X5_format_L40 at hm
        refine lv_iload_n hx hb dX5_format_40 rfl (lv_at hl 1 rfl) ?_
        refine lv_bipush (v := 110) hx hb dX5_format_41 (by decide) ?_
        refine lv_icmp_ge (tgt := 64) hx hb dX5_format_43 (by decide) (fun c16 => ?_) (fun c16 => ?_)
        · have hm := g_t c16 hm
          cases hm
          exact hE15 _ hy _ _ hP hD hS _ (lv_sub hl [0] rfl)
        · have hm := g_f c16 hm
          refine lv_aload_n hx hb dX5_format_46 rfl (lv_at hl 0 rfl) ?_
          refine va_get (D := (dC, dI)) (ci := 3) (v := .ref A_ma) (C := RX5) (T := TX5) (N := 12) hx hb hts hi_X5_format_X5 hown hK hP 0 rfl rfl 3 (by decide) (hts (Cond.fieldLink RX5 13 "BuddyFilesModel" "mem" "[I") hk_X5_format_13) (fun _ h9 => h9) rfl dX5_format_47 ?_
          refine lv_iload_n hx hb dX5_format_50 rfl (lv_at hl 1 rfl) ?_
          refine lv_aload_n hx hb dX5_format_51 rfl (lv_at hl 0 rfl) ?_
          refine va_get (D := (dC, dI)) (ci := 3) (v := .ref A_da) (C := RX5) (T := TX5) (N := 12) hx hb hts hi_X5_format_X5 hown hK hP 0 rfl rfl 0 (by decide) (hts (Cond.fieldLink RX5 7 "BuddyFilesModel" "disk" "[I") hk_X5_format_7) (fun _ h9 => h9) rfl dX5_format_52 ?_
          refine lv_iload_n hx hb dX5_format_55 rfl (lv_at hl 1 rfl) ?_
          obtain ⟨x17, ex, hm⟩ := g_bind hm
          refine w_ald hx hb hK hP 1 0 rfl rfl ex dX5_format_56 ?_
          obtain ⟨f18, ex, hm⟩ := g_bind hm
          refine w_ast hx hb hK hP hD hS 2 1 rfl rfl ex dX5_format_57 (fun H19 locs19 hP hD hS => ?_)
          have hP : va_P (dC, dI) vwCl (wM A_x A_da A_ma A_ha A_ho A_ti A_be A_te A_ch K_da K_ma K_ha K_ho K_ti K_be K_te K_ch f3 f18 c_ha c_ho c_ti c_be c_te c_ch c_up c_fu c_tm c_tc) H19 := hP
          have hD : va_D A (wM A_x A_da A_ma A_ha A_ho A_ti A_be A_te A_ch K_da K_ma K_ha K_ho K_ti K_be K_te K_ch f3 f18 c_ha c_ho c_ti c_be c_te c_ch c_up c_fu c_tm c_tc) := hD
          refine lv_iinc (v := (y12 + (1 : Int32))) (lv' := [(1, .int (y12 + (1 : Int32))), (0, .ref A_x)]) hx hb dX5_format_58 hl (k := 1) rfl rfl (by decide) rfl (fun ls hl => ?_)
          refine lv_goto (tgt := 40) hx hb dX5_format_61 (by decide) ?_
          cases hm
          exact ih _ _ hy _ _ hP hD hS _ (lv_sub hl [1, 0] rfl)
    exact hL15 _ _ _ hlp _ _ hP hD hS _ (lv_sub hl [1, 0] rfl)
  have hL4 : ∀ (n : Nat) (y1 : Int32) (f2 : (Nat → Int32)), g_loop (fun q => m_X5_format_L2 q.1 q.2) n (y1, f2) = some rl4 → ∀ (H4b : Heap) (locs4b : List Loc), va_P (dC, dI) vwCl (wM A_x A_da A_ma A_ha A_ho A_ti A_be A_te A_ch K_da K_ma K_ha K_ho K_ti K_be K_te K_ch f2 c_ma c_ha c_ho c_ti c_be c_te c_ch c_up c_fu c_tm c_tc) H4b → va_D A (wM A_x A_da A_ma A_ha A_ho A_ti A_be A_te A_ch K_da K_ma K_ha K_ho K_ti K_be K_te K_ch f2 c_ma c_ha c_ho c_ti c_be c_te c_ch c_up c_fu c_tm c_tc) → va_S A s.heap H4b locs4b → ∀ (ls : Array Slot), lv_has ls 2 [(0, .ref A_x), (1, .int y1)] → W p l e (headSpec wsX5_format rm_X5_format).room s m (([.ref A_x] : List Value).toArray) below meth c H4b locs4b 0 0 Q (F0 m 2 ls []) := by
    intro n
    induction n with
    | zero =>
      intro y1 f2 hm
      exact g_loop_z hm
    | succ n ih =>
      intro y1 f2 hm H4b locs4b hP hD hS ls hl
      obtain ⟨q, hm, hy⟩ := g_loop_s hm
      have hm : m_X5_format_L2 y1 f2 = some q := hm
      unfold m_X5_format_L2 at hm
      refine lv_iload_n hx hb dX5_format_2 rfl (lv_at hl 1 rfl) ?_
      refine lv_sipush (v := 332) hx hb dX5_format_3 (by decide) ?_
      refine lv_icmp_ge (tgt := 38) hx hb dX5_format_6 (by decide) (fun c5 => ?_) (fun c5 => ?_)
      · have hm := g_t c5 hm
        cases hm
        exact hE4 _ hy _ _ hP hD hS _ (lv_sub hl [0] rfl)
      · have hm := g_f c5 hm
        refine lv_aload_n hx hb dX5_format_9 rfl (lv_at hl 0 rfl) ?_
        refine va_get (D := (dC, dI)) (ci := 3) (v := .ref A_da) (C := RX5) (T := TX5) (N := 12) hx hb hts hi_X5_format_X5 hown hK hP 0 rfl rfl 0 (by decide) (hts (Cond.fieldLink RX5 7 "BuddyFilesModel" "disk" "[I") hk_X5_format_7) (fun _ h9 => h9) rfl dX5_format_10 ?_
        refine lv_iload_n hx hb dX5_format_13 rfl (lv_at hl 1 rfl) ?_
        refine lv_iload_n hx hb dX5_format_14 rfl (lv_at hl 1 rfl) ?_
        refine lv_bipush (v := 42) hx hb dX5_format_15 (by decide) ?_
        refine lv_bipush (v := 44) hx hb dX5_format_17 (by decide) ?_
        obtain ⟨x6, ex, hm⟩ := g_bind hm
        refine vp_callSi (W.runS (As := [.int y1, .int (42 : Int32), .int (44 : Int32)]) (rest := [.int y1, .ref A_da]) ⟨hx, hb, hml, hown, hts⟩ (k_X5_within l  y1 (42 : Int32) (44 : Int32) _ ex) (va_cwS 3 hts gX5_format_X5_within rfl rfl rfl (by decide +kernel) ⟨Nat.le_of_ble_eq_true rfl, Nat.le_of_ble_eq_true rfl⟩) ⟨w_bl0, fun U hU hW => ⟨rfl, trivial⟩⟩ rfl rfl hl.1 rfl (lv_room (Nat.le_of_ble_eq_true rfl)) dX5_format_19 ⟨Nat.zero_le _, Nat.zero_le _⟩) (fun _ ey => ?_)
        subst ey
        refine lv_if_eq (tgt := 30) hx hb dX5_format_22 (by decide) (fun c7 => ?_) (fun c7 => ?_)
        · have hm := g_t c7 hm
          refine lv_iconst (v := 0) hx hb dX5_format_30 (by decide) ?_
          obtain ⟨f8, ex, hm⟩ := g_bind hm
          refine w_ast hx hb hK hP hD hS 1 0 rfl rfl ex dX5_format_31 (fun H9 locs9 hP hD hS => ?_)
          have hP : va_P (dC, dI) vwCl (wM A_x A_da A_ma A_ha A_ho A_ti A_be A_te A_ch K_da K_ma K_ha K_ho K_ti K_be K_te K_ch f8 c_ma c_ha c_ho c_ti c_be c_te c_ch c_up c_fu c_tm c_tc) H9 := hP
          have hD : va_D A (wM A_x A_da A_ma A_ha A_ho A_ti A_be A_te A_ch K_da K_ma K_ha K_ho K_ti K_be K_te K_ch f8 c_ma c_ha c_ho c_ti c_be c_te c_ch c_up c_fu c_tm c_tc) := hD
          refine lv_iinc (v := (y1 + (1 : Int32))) (lv' := [(1, .int (y1 + (1 : Int32))), (0, .ref A_x)]) hx hb dX5_format_32 hl (k := 1) rfl rfl (by decide) rfl (fun ls hl => ?_)
          refine lv_goto (tgt := 2) hx hb dX5_format_35 (by decide) ?_
          cases hm
          exact ih _ _ hy _ _ hP hD hS _ (lv_sub hl [1, 0] rfl)
        · have hm := g_f c7 hm
          refine lv_bipush (v := 32) hx hb dX5_format_25 (by decide) ?_
          refine lv_goto (tgt := 31) hx hb dX5_format_27 (by decide) ?_
          obtain ⟨f10, ex, hm⟩ := g_bind hm
          refine w_ast hx hb hK hP hD hS 1 0 rfl rfl ex dX5_format_31 (fun H11 locs11 hP hD hS => ?_)
          have hP : va_P (dC, dI) vwCl (wM A_x A_da A_ma A_ha A_ho A_ti A_be A_te A_ch K_da K_ma K_ha K_ho K_ti K_be K_te K_ch f10 c_ma c_ha c_ho c_ti c_be c_te c_ch c_up c_fu c_tm c_tc) H11 := hP
          have hD : va_D A (wM A_x A_da A_ma A_ha A_ho A_ti A_be A_te A_ch K_da K_ma K_ha K_ho K_ti K_be K_te K_ch f10 c_ma c_ha c_ho c_ti c_be c_te c_ch c_up c_fu c_tm c_tc) := hD
          refine lv_iinc (v := (y1 + (1 : Int32))) (lv' := [(1, .int (y1 + (1 : Int32))), (0, .ref A_x)]) hx hb dX5_format_32 hl (k := 1) rfl rfl (by decide) rfl (fun ls hl => ?_)
          refine lv_goto (tgt := 2) hx hb dX5_format_35 (by decide) ?_
          cases hm
          exact ih _ _ hy _ _ hP hD hS _ (lv_sub hl [1, 0] rfl)
  exact hL4 _ _ _ hlp _ _ hP hD hS _ (lv_sub hl [1, 0] rfl)
abbrev rm_X5_start : Room := { frames := 0, cells := 0, slots := 0, locals := 0 }
set_option maxHeartbeats 4000000 in
set_option maxRecDepth 100000 in
theorem k_X5_start (l : Launch)  (p0 : Int32) (r0 : Int32) (hm : m_X5_start p0 = some r0) : Met l yX5_start wsX5_start rm_X5_start (va_Pc [.int p0] (fun _ => True)) (vp_Si (fun r => r0 = r)) 0 0 (fun _ => False) := by
  refine Met.ofW (cc := cX5_start) (maxL := 1) (ret := (some .int)) (by decide) rfl ?_
  intro p e s m args below meth c s₁ B hml hv
  obtain ⟨rfl, -⟩ := hv
  have hx := B.exec
  have hb := B.bytes
  have hr := B.returns
  have hts := atoms_spec (ws := wsX5_start) B.pre
  have hown : s.vm.findClass RX5 = some m.cls := findClass_of_methodNamed B.named
  have hlocks := B.notSynchronized
  have hl := lv_entry ([.int p0]) (n := 1) (Nat.le_of_ble_eq_true rfl)
  rw [lg_entry_eq]
  generalize (lg_sl ([.int p0]) ++ List.replicate (1 - (lg_sl ([.int p0])).length) Slot.unset).toArray = ls at hl ⊢
  have hl : lv_has ls 1 [(0, .int p0)] := hl
  refine w_name (fun Q hQ => ?_)
  unfold m_X5_start at hm
  refine lv_iload_n hx hb dX5_start_0 rfl (lv_at hl 0 rfl) ?_
  refine lv_iconst (v := 1) hx hb dX5_start_1 (by decide) ?_
  refine lv_isub hx hb dX5_start_2 ?_
  refine lv_bipush (v := 32) hx hb dX5_start_3 (by decide) ?_
  refine lv_irem hx hb dX5_start_5 (by decide) ?_
  show W _ _ _ _ _ _ _ _ _ _ _ _ _ _ _ (F0 m 6 _ [.int (g_modc (p0 - (1 : Int32)) (32 : Int32))])
  cases hm
  subst hQ
  exact W.iret hx hb hr (fun t ht hW => ⟨_, rfl, rfl, ht⟩) (fun _ h => nomatch h) dX5_start_6
abbrev rm_X5_order : Room := { frames := 0, cells := 0, slots := 0, locals := 0 }
set_option maxHeartbeats 4000000 in
set_option maxRecDepth 100000 in
theorem k_X5_order (l : Launch)  (p0 : Int32) (r0 : Int32) (hm : m_X5_order p0 = some r0) : Met l yX5_order wsX5_order rm_X5_order (va_Pc [.int p0] (fun _ => True)) (vp_Si (fun r => r0 = r)) 0 0 (fun _ => False) := by
  refine Met.ofW (cc := cX5_order) (maxL := 1) (ret := (some .int)) (by decide) rfl ?_
  intro p e s m args below meth c s₁ B hml hv
  obtain ⟨rfl, -⟩ := hv
  have hx := B.exec
  have hb := B.bytes
  have hr := B.returns
  have hts := atoms_spec (ws := wsX5_order) B.pre
  have hown : s.vm.findClass RX5 = some m.cls := findClass_of_methodNamed B.named
  have hlocks := B.notSynchronized
  have hl := lv_entry ([.int p0]) (n := 1) (Nat.le_of_ble_eq_true rfl)
  rw [lg_entry_eq]
  generalize (lg_sl ([.int p0]) ++ List.replicate (1 - (lg_sl ([.int p0])).length) Slot.unset).toArray = ls at hl ⊢
  have hl : lv_has ls 1 [(0, .int p0)] := hl
  refine w_name (fun Q hQ => ?_)
  unfold m_X5_order at hm
  refine lv_iload_n hx hb dX5_order_0 rfl (lv_at hl 0 rfl) ?_
  refine lv_iconst (v := 1) hx hb dX5_order_1 (by decide) ?_
  refine lv_isub hx hb dX5_order_2 ?_
  refine lv_bipush (v := 32) hx hb dX5_order_3 (by decide) ?_
  refine lv_idiv hx hb dX5_order_5 (by decide) ?_
  cases hm
  subst hQ
  exact W.iret hx hb hr (fun t ht hW => ⟨_, rfl, rfl, ht⟩) (fun _ h => nomatch h) dX5_order_6
abbrev rm_X5_size : Room := { frames := 1, cells := 0, slots := 0, locals := 20 }
set_option maxHeartbeats 4000000 in
set_option maxRecDepth 100000 in
theorem k_X5_size (l : Launch)  (p0 : Int32) (r0 : Int32) (hm : m_X5_size p0 = some r0) : Met l yX5_size wsX5_size rm_X5_size (va_Pc [.int p0] (fun _ => True)) (vp_Si (fun r => r0 = r)) 0 0 (fun _ => False) := by
  refine Met.ofW (cc := cX5_size) (maxL := 1) (ret := (some .int)) (by decide) rfl ?_
  intro p e s m args below meth c s₁ B hml hv
  obtain ⟨rfl, -⟩ := hv
  have hx := B.exec
  have hb := B.bytes
  have hr := B.returns
  have hts := atoms_spec (ws := wsX5_size) B.pre
  have hown : s.vm.findClass RX5 = some m.cls := findClass_of_methodNamed B.named
  have hlocks := B.notSynchronized
  have hl := lv_entry ([.int p0]) (n := 1) (Nat.le_of_ble_eq_true rfl)
  rw [lg_entry_eq]
  generalize (lg_sl ([.int p0]) ++ List.replicate (1 - (lg_sl ([.int p0])).length) Slot.unset).toArray = ls at hl ⊢
  have hl : lv_has ls 1 [(0, .int p0)] := hl
  refine w_name (fun Q hQ => ?_)
  unfold m_X5_size at hm
  refine lv_iload_n hx hb dX5_size_0 rfl (lv_at hl 0 rfl) ?_
  refine lv_if_ne (tgt := 8) hx hb dX5_size_1 (by decide) (fun c1 => ?_) (fun c1 => ?_)
  · have hm := g_f c1 hm
    refine lv_iconst (v := 1) hx hb dX5_size_8 (by decide) ?_
    refine lv_iload_n hx hb dX5_size_9 rfl (lv_at hl 0 rfl) ?_
    obtain ⟨x2, ex, hm⟩ := g_bind hm
    refine vp_callSi (W.runS (As := [.int p0]) (rest := [.int (1 : Int32)]) ⟨hx, hb, hml, hown, hts⟩ (k_X5_order l  p0 _ ex) (va_cwS 1 hts gX5_size_X5_order rfl rfl rfl (by decide +kernel) ⟨Nat.le_of_ble_eq_true rfl, Nat.le_of_ble_eq_true rfl⟩) ⟨w_bl0, fun U hU hW => ⟨rfl, trivial⟩⟩ rfl rfl hl.1 rfl (lv_room (Nat.le_of_ble_eq_true rfl)) dX5_size_10 ⟨Nat.zero_le _, Nat.zero_le _⟩) (fun _ ey => ?_)
    subst ey
    refine lv_ishl hx hb dX5_size_13 ?_
    show W _ _ _ _ _ _ _ _ _ _ _ _ _ _ _ (F0 m 14 _ [.int (g_shl (1 : Int32) x2)])
    cases hm
    subst hQ
    exact W.iret hx hb hr (fun t ht hW => ⟨_, rfl, rfl, ht⟩) (fun _ h => nomatch h) dX5_size_14
  · have hm := g_t c1 hm
    refine lv_iconst (v := 0) hx hb dX5_size_4 (by decide) ?_
    refine lv_goto (tgt := 14) hx hb dX5_size_5 (by decide) ?_
    cases hm
    subst hQ
    exact W.iret hx hb hr (fun t ht hW => ⟨_, rfl, rfl, ht⟩) (fun _ h => nomatch h) dX5_size_14
abbrev rm_X5_isRun : Room := { frames := 1, cells := 0, slots := 0, locals := 22 }
set_option maxHeartbeats 4000000 in
set_option maxRecDepth 100000 in
theorem k_X5_isRun (l : Launch)  (p0 : Int32) (r0 : Int32) (hm : m_X5_isRun p0 = some r0) : Met l yX5_isRun wsX5_isRun rm_X5_isRun (va_Pc [.int p0] (fun _ => True)) (vp_Si (fun r => r0 = r)) 0 0 (fun _ => False) := by
  refine Met.ofW (cc := cX5_isRun) (maxL := 1) (ret := (some .boolean)) (by decide) rfl ?_
  intro p e s m args below meth c s₁ B hml hv
  obtain ⟨rfl, -⟩ := hv
  have hx := B.exec
  have hb := B.bytes
  have hr := B.returns
  have hts := atoms_spec (ws := wsX5_isRun) B.pre
  have hown : s.vm.findClass RX5 = some m.cls := findClass_of_methodNamed B.named
  have hlocks := B.notSynchronized
  have hl := lv_entry ([.int p0]) (n := 1) (Nat.le_of_ble_eq_true rfl)
  rw [lg_entry_eq]
  generalize (lg_sl ([.int p0]) ++ List.replicate (1 - (lg_sl ([.int p0])).length) Slot.unset).toArray = ls at hl ⊢
  have hl : lv_has ls 1 [(0, .int p0)] := hl
  refine w_name (fun Q hQ => ?_)
  unfold m_X5_isRun at hm
  refine lv_iload_n hx hb dX5_isRun_0 rfl (lv_at hl 0 rfl) ?_
  refine lv_iconst (v := 1) hx hb dX5_isRun_1 (by decide) ?_
  refine lv_sipush (v := 192) hx hb dX5_isRun_2 (by decide) ?_
  obtain ⟨x1, ex, hm⟩ := g_bind hm
  refine vp_callSi (W.runS (As := [.int p0, .int (1 : Int32), .int (192 : Int32)]) (rest := []) ⟨hx, hb, hml, hown, hts⟩ (k_X5_within l  p0 (1 : Int32) (192 : Int32) _ ex) (va_cwS 3 hts gX5_isRun_X5_within rfl rfl rfl (by decide +kernel) ⟨Nat.le_of_ble_eq_true rfl, Nat.le_of_ble_eq_true rfl⟩) ⟨w_bl0, fun U hU hW => ⟨rfl, trivial⟩⟩ rfl rfl hl.1 rfl (lv_room (Nat.le_of_ble_eq_true rfl)) dX5_isRun_5 ⟨Nat.zero_le _, Nat.zero_le _⟩) (fun _ ey => ?_)
  subst ey
  refine lv_if_eq (tgt := 45) hx hb dX5_isRun_8 (by decide) (fun c2 => ?_) (fun c2 => ?_)
  · have hm := g_t c2 hm
    refine lv_iconst (v := 0) hx hb dX5_isRun_45 (by decide) ?_
    cases hm
    subst hQ
    exact W.zret hx hb hr rfl (fun t ht hW => ⟨_, rfl, rfl, ht⟩) (fun _ h => nomatch h) dX5_isRun_46
  · have hm := g_f c2 hm
    refine lv_iload_n hx hb dX5_isRun_11 rfl (lv_at hl 0 rfl) ?_
    obtain ⟨x3, ex, hm⟩ := g_bind hm
    refine vp_callSi (W.runS (As := [.int p0]) (rest := []) ⟨hx, hb, hml, hown, hts⟩ (k_X5_start l  p0 _ ex) (va_cwS 1 hts gX5_isRun_X5_start rfl rfl rfl (by decide +kernel) ⟨Nat.le_of_ble_eq_true rfl, Nat.le_of_ble_eq_true rfl⟩) ⟨w_bl0, fun U hU hW => ⟨rfl, trivial⟩⟩ rfl rfl hl.1 rfl (lv_room (Nat.le_of_ble_eq_true rfl)) dX5_isRun_12 ⟨Nat.zero_le _, Nat.zero_le _⟩) (fun _ ey => ?_)
    subst ey
    refine lv_iconst (v := 1) hx hb dX5_isRun_15 (by decide) ?_
    refine lv_iload_n hx hb dX5_isRun_16 rfl (lv_at hl 0 rfl) ?_
    obtain ⟨x4, ex, hm⟩ := g_bind hm
    refine vp_callSi (W.runS (As := [.int p0]) (rest := [.int (1 : Int32), .int x3]) ⟨hx, hb, hml, hown, hts⟩ (k_X5_order l  p0 _ ex) (va_cwS 1 hts gX5_isRun_X5_order rfl rfl rfl (by decide +kernel) ⟨Nat.le_of_ble_eq_true rfl, Nat.le_of_ble_eq_true rfl⟩) ⟨w_bl0, fun U hU hW => ⟨rfl, trivial⟩⟩ rfl rfl hl.1 rfl (lv_room (Nat.le_of_ble_eq_true rfl)) dX5_isRun_17 ⟨Nat.zero_le _, Nat.zero_le _⟩) (fun _ ey => ?_)
    subst ey
    refine lv_ishl hx hb dX5_isRun_20 ?_
    show W _ _ _ _ _ _ _ _ _ _ _ _ _ _ _ (F0 m 21 _ [.int (g_shl (1 : Int32) x4), .int x3])
    obtain ⟨x5, ex, hm⟩ := g_bind hm
    obtain ⟨ex1, ex2⟩ := g_rem_s ex
    refine lv_irem hx hb dX5_isRun_21 ex1 ?_
    rw [ex2]
    refine lv_if_ne (tgt := 45) hx hb dX5_isRun_22 (by decide) (fun c6 => ?_) (fun c6 => ?_)
    · have hm := g_f c6 hm
      refine lv_iconst (v := 0) hx hb dX5_isRun_45 (by decide) ?_
      cases hm
      subst hQ
      exact W.zret hx hb hr rfl (fun t ht hW => ⟨_, rfl, rfl, ht⟩) (fun _ h => nomatch h) dX5_isRun_46
    · have hm := g_t c6 hm
      refine lv_iload_n hx hb dX5_isRun_25 rfl (lv_at hl 0 rfl) ?_
      obtain ⟨x7, ex, hm⟩ := g_bind hm
      refine vp_callSi (W.runS (As := [.int p0]) (rest := []) ⟨hx, hb, hml, hown, hts⟩ (k_X5_start l  p0 _ ex) (va_cwS 1 hts gX5_isRun_X5_start rfl rfl rfl (by decide +kernel) ⟨Nat.le_of_ble_eq_true rfl, Nat.le_of_ble_eq_true rfl⟩) ⟨w_bl0, fun U hU hW => ⟨rfl, trivial⟩⟩ rfl rfl hl.1 rfl (lv_room (Nat.le_of_ble_eq_true rfl)) dX5_isRun_26 ⟨Nat.zero_le _, Nat.zero_le _⟩) (fun _ ey => ?_)
      subst ey
      refine lv_iconst (v := 1) hx hb dX5_isRun_29 (by decide) ?_
      refine lv_iload_n hx hb dX5_isRun_30 rfl (lv_at hl 0 rfl) ?_
      obtain ⟨x8, ex, hm⟩ := g_bind hm
      refine vp_callSi (W.runS (As := [.int p0]) (rest := [.int (1 : Int32), .int x7]) ⟨hx, hb, hml, hown, hts⟩ (k_X5_order l  p0 _ ex) (va_cwS 1 hts gX5_isRun_X5_order rfl rfl rfl (by decide +kernel) ⟨Nat.le_of_ble_eq_true rfl, Nat.le_of_ble_eq_true rfl⟩) ⟨w_bl0, fun U hU hW => ⟨rfl, trivial⟩⟩ rfl rfl hl.1 rfl (lv_room (Nat.le_of_ble_eq_true rfl)) dX5_isRun_31 ⟨Nat.zero_le _, Nat.zero_le _⟩) (fun _ ey => ?_)
      subst ey
      refine lv_ishl hx hb dX5_isRun_34 ?_
      show W _ _ _ _ _ _ _ _ _ _ _ _ _ _ _ (F0 m 35 _ [.int (g_shl (1 : Int32) x8), .int x7])
      refine lv_iadd hx hb dX5_isRun_35 ?_
      refine lv_bipush (v := 32) hx hb dX5_isRun_36 (by decide) ?_
      refine lv_icmp_gt (tgt := 45) hx hb dX5_isRun_38 (by decide) (fun c9 => ?_) (fun c9 => ?_)
      · have hm := g_t c9 hm
        refine lv_iconst (v := 0) hx hb dX5_isRun_45 (by decide) ?_
        cases hm
        subst hQ
        exact W.zret hx hb hr rfl (fun t ht hW => ⟨_, rfl, rfl, ht⟩) (fun _ h => nomatch h) dX5_isRun_46
      · have hm := g_f c9 hm
        refine lv_iconst (v := 1) hx hb dX5_isRun_41 (by decide) ?_
        refine lv_goto (tgt := 46) hx hb dX5_isRun_42 (by decide) ?_
        cases hm
        subst hQ
        exact W.zret hx hb hr rfl (fun t ht hW => ⟨_, rfl, rfl, ht⟩) (fun _ h => nomatch h) dX5_isRun_46
abbrev rm_X5_allFree : Room := { frames := 0, cells := 0, slots := 0, locals := 0 }
set_option maxHeartbeats 4000000 in
set_option maxRecDepth 100000 in
theorem k_X5_allFree (l : Launch)  (p0 : Int32) (p1 : Int32) (p2 : Int32) (r0 : Int32) (hm : m_X5_allFree p0 p1 p2 = some r0) : Met l yX5_allFree wsX5_allFree rm_X5_allFree (va_Pc [.int p0, .int p1, .int p2] (fun _ => True)) (vp_Si (fun r => r0 = r)) 0 0 (fun _ => False) := by
  refine Met.ofW (cc := cX5_allFree) (maxL := 5) (ret := (some .boolean)) (by decide) rfl ?_
  intro p e s m args below meth c s₁ B hml hv
  obtain ⟨rfl, -⟩ := hv
  have hx := B.exec
  have hb := B.bytes
  have hr := B.returns
  have hts := atoms_spec (ws := wsX5_allFree) B.pre
  have hown : s.vm.findClass RX5 = some m.cls := findClass_of_methodNamed B.named
  have hlocks := B.notSynchronized
  have hl := lv_entry ([.int p0, .int p1, .int p2]) (n := 5) (Nat.le_of_ble_eq_true rfl)
  rw [lg_entry_eq]
  generalize (lg_sl ([.int p0, .int p1, .int p2]) ++ List.replicate (5 - (lg_sl ([.int p0, .int p1, .int p2])).length) Slot.unset).toArray = ls at hl ⊢
  have hl : lv_has ls 5 [(0, .int p0), (1, .int p1), (2, .int p2)] := hl
  refine w_name (fun Q hQ => ?_)
  unfold m_X5_allFree at hm
  refine lv_iconst (v := 1) hx hb dX5_allFree_0 (by decide) ?_
  refine lv_istore_n (lv' := [(3, .int (1 : Int32)), (0, .int p0), (1, .int p1), (2, .int p2)]) hx hb dX5_allFree_1 rfl hl (by decide) rfl (fun ls hl => ?_)
  refine lv_iload_n hx hb dX5_allFree_2 rfl (lv_at hl 2 rfl) ?_
  refine lv_istore (lv' := [(4, .int p1), (3, .int (1 : Int32)), (0, .int p0), (1, .int p1), (2, .int p2)]) hx hb dX5_allFree_3 hl (by decide) rfl (fun ls hl => ?_)
  obtain ⟨rl4, hlp, hm⟩ := g_bind hm
  have hE4 : ∀ (z3 : Int32), z3 = rl4 → ∀ (ls : Array Slot), lv_has ls 5 [(3, .int z3)] → W p l e (headSpec wsX5_allFree rm_X5_allFree).room s m (([.int p0, .int p1, .int p2] : List Value).toArray) below meth c s.heap [] 0 0 Q (F0 m 40 ls []) := by
    intro z3 hq ls hl
    subst hq
    have hm := g_k1_s hm
    refine lv_iload_n hx hb dX5_allFree_40 rfl (lv_at hl 0 rfl) ?_
    obtain ⟨x8, ex, hm⟩ := g_bind hm
    obtain ⟨hn, ex⟩ := g_bool_s ex
    subst ex
    cases hm
    subst hQ
    exact W.zret hx hb hr hn (fun t ht hW => ⟨_, rfl, rfl, ht⟩) (fun _ h => nomatch h) dX5_allFree_41
  have hL4 : ∀ (n : Nat) (y1 : Int32) (y2 : Int32), g_loop (fun q => m_X5_allFree_L5 p0 p1 p2 q.1 q.2) n (y1, y2) = some rl4 → ∀ (ls : Array Slot), lv_has ls 5 [(0, .int p0), (1, .int p1), (2, .int p2), (3, .int y1), (4, .int y2)] → W p l e (headSpec wsX5_allFree rm_X5_allFree).room s m (([.int p0, .int p1, .int p2] : List Value).toArray) below meth c s.heap [] 0 0 Q (F0 m 5 ls []) := by
    intro n
    induction n with
    | zero =>
      intro y1 y2 hm
      exact g_loop_z hm
    | succ n ih =>
      intro y1 y2 hm ls hl
      obtain ⟨q, hm, hy⟩ := g_loop_s hm
      have hm : m_X5_allFree_L5 p0 p1 p2 y1 y2 = some q := hm
      unfold m_X5_allFree_L5 at hm
      refine lv_iload hx hb dX5_allFree_5 (lv_at hl 4 rfl) ?_
      refine lv_iload_n hx hb dX5_allFree_7 rfl (lv_at hl 1 rfl) ?_
      refine lv_iconst (v := 1) hx hb dX5_allFree_8 (by decide) ?_
      refine lv_iload_n hx hb dX5_allFree_9 rfl (lv_at hl 2 rfl) ?_
      refine lv_ishl hx hb dX5_allFree_10 ?_
      show W _ _ _ _ _ _ _ _ _ _ _ _ _ _ _ (F0 m 11 _ [.int (g_shl (1 : Int32) p2), .int p1, .int y2])
      refine lv_iadd hx hb dX5_allFree_11 ?_
      refine lv_icmp_ge (tgt := 40) hx hb dX5_allFree_12 (by decide) (fun c5 => ?_) (fun c5 => ?_)
      · have hm := g_t c5 hm
        cases hm
        exact hE4 _ hy _ (lv_sub hl [3] rfl)
      · have hm := g_f c5 hm
        refine lv_iload_n hx hb dX5_allFree_15 rfl (lv_at hl 3 rfl) ?_
        refine lv_if_eq (tgt := 32) hx hb dX5_allFree_16 (by decide) (fun c6 => ?_) (fun c6 => ?_)
        · have hm := g_t c6 hm
          refine lv_iconst (v := 0) hx hb dX5_allFree_32 (by decide) ?_
          refine lv_istore_n (lv' := [(3, .int (0 : Int32)), (0, .int p0), (1, .int p1), (2, .int p2), (4, .int y2)]) hx hb dX5_allFree_33 rfl hl (by decide) rfl (fun ls hl => ?_)
          refine lv_iinc (v := (y2 + (1 : Int32))) (lv' := [(4, .int (y2 + (1 : Int32))), (3, .int (0 : Int32)), (0, .int p0), (1, .int p1), (2, .int p2)]) hx hb dX5_allFree_34 hl (k := 4) rfl rfl (by decide) rfl (fun ls hl => ?_)
          refine lv_goto (tgt := 5) hx hb dX5_allFree_37 (by decide) ?_
          cases hm
          exact ih _ _ hy _ (lv_sub hl [2, 3, 4, 1, 0] rfl)
        · have hm := g_f c6 hm
          refine lv_iload_n hx hb dX5_allFree_19 rfl (lv_at hl 0 rfl) ?_
          refine lv_iload hx hb dX5_allFree_20 (lv_at hl 4 rfl) ?_
          refine lv_iushr (v := (g_ushr p0 y2)) hx hb dX5_allFree_22 rfl ?_
          refine lv_iconst (v := 1) hx hb dX5_allFree_23 (by decide) ?_
          refine lv_iand hx hb dX5_allFree_24 ?_
          refine lv_if_ne (tgt := 32) hx hb dX5_allFree_25 (by decide) (fun c7 => ?_) (fun c7 => ?_)
          · have hm := g_f c7 hm
            refine lv_iconst (v := 0) hx hb dX5_allFree_32 (by decide) ?_
            refine lv_istore_n (lv' := [(3, .int (0 : Int32)), (0, .int p0), (1, .int p1), (2, .int p2), (4, .int y2)]) hx hb dX5_allFree_33 rfl hl (by decide) rfl (fun ls hl => ?_)
            refine lv_iinc (v := (y2 + (1 : Int32))) (lv' := [(4, .int (y2 + (1 : Int32))), (3, .int (0 : Int32)), (0, .int p0), (1, .int p1), (2, .int p2)]) hx hb dX5_allFree_34 hl (k := 4) rfl rfl (by decide) rfl (fun ls hl => ?_)
            refine lv_goto (tgt := 5) hx hb dX5_allFree_37 (by decide) ?_
            cases hm
            exact ih _ _ hy _ (lv_sub hl [2, 3, 4, 1, 0] rfl)
          · have hm := g_t c7 hm
            refine lv_iconst (v := 1) hx hb dX5_allFree_28 (by decide) ?_
            refine lv_goto (tgt := 33) hx hb dX5_allFree_29 (by decide) ?_
            refine lv_istore_n (lv' := [(3, .int (1 : Int32)), (0, .int p0), (1, .int p1), (2, .int p2), (4, .int y2)]) hx hb dX5_allFree_33 rfl hl (by decide) rfl (fun ls hl => ?_)
            refine lv_iinc (v := (y2 + (1 : Int32))) (lv' := [(4, .int (y2 + (1 : Int32))), (3, .int (1 : Int32)), (0, .int p0), (1, .int p1), (2, .int p2)]) hx hb dX5_allFree_34 hl (k := 4) rfl rfl (by decide) rfl (fun ls hl => ?_)
            refine lv_goto (tgt := 5) hx hb dX5_allFree_37 (by decide) ?_
            cases hm
            exact ih _ _ hy _ (lv_sub hl [2, 3, 4, 1, 0] rfl)
  exact hL4 _ _ _ hlp _ (lv_sub hl [2, 3, 4, 1, 0] rfl)
abbrev rm_X5_isFree : Room := { frames := 1, cells := 0, slots := 0, locals := 24 }
set_option maxHeartbeats 4000000 in
set_option maxRecDepth 100000 in
theorem k_X5_isFree (l : Launch)  (p0 : Int32) (p1 : Int32) (p2 : Int32) (r0 : Int32) (hm : m_X5_isFree p0 p1 p2 = some r0) : Met l yX5_isFree wsX5_isFree rm_X5_isFree (va_Pc [.int p0, .int p1, .int p2] (fun _ => True)) (vp_Si (fun r => r0 = r)) 0 0 (fun _ => False) := by
  refine Met.ofW (cc := cX5_isFree) (maxL := 4) (ret := (some .boolean)) (by decide) rfl ?_
  intro p e s m args below meth c s₁ B hml hv
  obtain ⟨rfl, -⟩ := hv
  have hx := B.exec
  have hb := B.bytes
  have hr := B.returns
  have hts := atoms_spec (ws := wsX5_isFree) B.pre
  have hown : s.vm.findClass RX5 = some m.cls := findClass_of_methodNamed B.named
  have hlocks := B.notSynchronized
  have hl := lv_entry ([.int p0, .int p1, .int p2]) (n := 4) (Nat.le_of_ble_eq_true rfl)
  rw [lg_entry_eq]
  generalize (lg_sl ([.int p0, .int p1, .int p2]) ++ List.replicate (4 - (lg_sl ([.int p0, .int p1, .int p2])).length) Slot.unset).toArray = ls at hl ⊢
  have hl : lv_has ls 4 [(0, .int p0), (1, .int p1), (2, .int p2)] := hl
  refine w_name (fun Q hQ => ?_)
  unfold m_X5_isFree at hm
  refine lv_iconst (v := 2) hx hb dX5_isFree_0 (by decide) ?_
  refine lv_iload_n hx hb dX5_isFree_1 rfl (lv_at hl 2 rfl) ?_
  refine lv_ishl hx hb dX5_isFree_2 ?_
  show W _ _ _ _ _ _ _ _ _ _ _ _ _ _ _ (F0 m 3 _ [.int (g_shl (2 : Int32) p2)])
  refine lv_istore_n (lv' := [(3, .int (g_shl (2 : Int32) p2)), (0, .int p0), (1, .int p1), (2, .int p2)]) hx hb dX5_isFree_3 rfl hl (by decide) rfl (fun ls hl => ?_)
  refine lv_iload_n hx hb dX5_isFree_4 rfl (lv_at hl 1 rfl) ?_
  refine lv_iload_n hx hb dX5_isFree_5 rfl (lv_at hl 2 rfl) ?_
  refine lv_iload_n hx hb dX5_isFree_6 rfl (lv_at hl 3 rfl) ?_
  obtain ⟨x1, ex, hm⟩ := g_bind hm
  refine vp_callSi (W.runS (As := [.int p0, .int p1, .int p2]) (rest := []) ⟨hx, hb, hml, hown, hts⟩ (k_X5_allFree l  p0 p1 p2 _ ex) (va_cwS 3 hts gX5_isFree_X5_allFree rfl rfl rfl (by decide +kernel) ⟨Nat.le_of_ble_eq_true rfl, Nat.le_of_ble_eq_true rfl⟩) ⟨w_bl0, fun U hU hW => ⟨rfl, trivial⟩⟩ rfl rfl hl.1 rfl (lv_room (Nat.le_of_ble_eq_true rfl)) dX5_isFree_7 ⟨Nat.zero_le _, Nat.zero_le _⟩) (fun _ ey => ?_)
  subst ey
  refine lv_if_eq (tgt := 37) hx hb dX5_isFree_10 (by decide) (fun c2 => ?_) (fun c2 => ?_)
  · have hm := g_t c2 hm
    refine lv_iconst (v := 0) hx hb dX5_isFree_37 (by decide) ?_
    cases hm
    subst hQ
    exact W.zret hx hb hr rfl (fun t ht hW => ⟨_, rfl, rfl, ht⟩) (fun _ h => nomatch h) dX5_isFree_38
  · have hm := g_f c2 hm
    refine lv_iload_n hx hb dX5_isFree_13 rfl (lv_at hl 3 rfl) ?_
    refine lv_iconst (v := 5) hx hb dX5_isFree_14 (by decide) ?_
    refine lv_icmp_eq (tgt := 33) hx hb dX5_isFree_15 (by decide) (fun c3 => ?_) (fun c3 => ?_)
    · have hm := g_t c3 hm
      refine lv_iconst (v := 1) hx hb dX5_isFree_33 (by decide) ?_
      refine lv_goto (tgt := 38) hx hb dX5_isFree_34 (by decide) ?_
      cases hm
      subst hQ
      exact W.zret hx hb hr rfl (fun t ht hW => ⟨_, rfl, rfl, ht⟩) (fun _ h => nomatch h) dX5_isFree_38
    · have hm := g_f c3 hm
      refine lv_iload_n hx hb dX5_isFree_18 rfl (lv_at hl 1 rfl) ?_
      refine lv_iload_n hx hb dX5_isFree_19 rfl (lv_at hl 2 rfl) ?_
      refine lv_iload_n hx hb dX5_isFree_20 rfl (lv_at hl 0 rfl) ?_
      obtain ⟨x4, ex, hm⟩ := g_bind hm
      obtain ⟨ex1, ex2⟩ := g_div_s ex
      refine lv_idiv hx hb dX5_isFree_21 ex1 ?_
      rw [ex2]
      refine lv_iload_n hx hb dX5_isFree_22 rfl (lv_at hl 0 rfl) ?_
      refine lv_imul hx hb dX5_isFree_23 ?_
      refine lv_iload_n hx hb dX5_isFree_24 rfl (lv_at hl 3 rfl) ?_
      refine lv_iconst (v := 1) hx hb dX5_isFree_25 (by decide) ?_
      refine lv_iadd hx hb dX5_isFree_26 ?_
      obtain ⟨x5, ex, hm⟩ := g_bind hm
      refine vp_callSi (W.runS (As := [.int p0, .int (x4 * (g_shl (2 : Int32) p2)), .int (p2 + (1 : Int32))]) (rest := []) ⟨hx, hb, hml, hown, hts⟩ (k_X5_allFree l  p0 (x4 * (g_shl (2 : Int32) p2)) (p2 + (1 : Int32)) _ ex) (va_cwS 3 hts gX5_isFree_X5_allFree rfl rfl rfl (by decide +kernel) ⟨Nat.le_of_ble_eq_true rfl, Nat.le_of_ble_eq_true rfl⟩) ⟨w_bl0, fun U hU hW => ⟨rfl, trivial⟩⟩ rfl rfl hl.1 rfl (lv_room (Nat.le_of_ble_eq_true rfl)) dX5_isFree_27 ⟨Nat.zero_le _, Nat.zero_le _⟩) (fun _ ey => ?_)
      subst ey
      refine lv_if_ne (tgt := 37) hx hb dX5_isFree_30 (by decide) (fun c6 => ?_) (fun c6 => ?_)
      · have hm := g_f c6 hm
        refine lv_iconst (v := 0) hx hb dX5_isFree_37 (by decide) ?_
        cases hm
        subst hQ
        exact W.zret hx hb hr rfl (fun t ht hW => ⟨_, rfl, rfl, ht⟩) (fun _ h => nomatch h) dX5_isFree_38
      · have hm := g_t c6 hm
        refine lv_iconst (v := 1) hx hb dX5_isFree_33 (by decide) ?_
        refine lv_goto (tgt := 38) hx hb dX5_isFree_34 (by decide) ?_
        cases hm
        subst hQ
        exact W.zret hx hb hr rfl (fun t ht hW => ⟨_, rfl, rfl, ht⟩) (fun _ h => nomatch h) dX5_isFree_38
abbrev rm_X5_countFree : Room := { frames := 2, cells := 0, slots := 0, locals := 47 }
set_option maxHeartbeats 4000000 in
set_option maxRecDepth 100000 in
theorem k_X5_countFree (l : Launch)  (p0 : Int32) (p1 : Int32) (r0 : Int32) (hm : m_X5_countFree p0 p1 = some r0) : Met l yX5_countFree wsX5_countFree rm_X5_countFree (va_Pc [.int p0, .int p1] (fun _ => True)) (vp_Si (fun r => r0 = r)) 0 0 (fun _ => False) := by
  refine Met.ofW (cc := cX5_countFree) (maxL := 4) (ret := (some .int)) (by decide) rfl ?_
  intro p e s m args below meth c s₁ B hml hv
  obtain ⟨rfl, -⟩ := hv
  have hx := B.exec
  have hb := B.bytes
  have hr := B.returns
  have hts := atoms_spec (ws := wsX5_countFree) B.pre
  have hown : s.vm.findClass RX5 = some m.cls := findClass_of_methodNamed B.named
  have hlocks := B.notSynchronized
  have hl := lv_entry ([.int p0, .int p1]) (n := 4) (Nat.le_of_ble_eq_true rfl)
  rw [lg_entry_eq]
  generalize (lg_sl ([.int p0, .int p1]) ++ List.replicate (4 - (lg_sl ([.int p0, .int p1])).length) Slot.unset).toArray = ls at hl ⊢
  have hl : lv_has ls 4 [(0, .int p0), (1, .int p1)] := hl
  refine w_name (fun Q hQ => ?_)
  unfold m_X5_countFree at hm
  refine lv_iconst (v := 0) hx hb dX5_countFree_0 (by decide) ?_
  refine lv_istore_n (lv' := [(2, .int (0 : Int32)), (0, .int p0), (1, .int p1)]) hx hb dX5_countFree_1 rfl hl (by decide) rfl (fun ls hl => ?_)
  refine lv_iconst (v := 0) hx hb dX5_countFree_2 (by decide) ?_
  refine lv_istore_n (lv' := [(3, .int (0 : Int32)), (2, .int (0 : Int32)), (0, .int p0), (1, .int p1)]) hx hb dX5_countFree_3 rfl hl (by decide) rfl (fun ls hl => ?_)
  obtain ⟨rl4, hlp, hm⟩ := g_bind hm
  have hE4 : ∀ (z3 : Int32), z3 = rl4 → ∀ (ls : Array Slot), lv_has ls 4 [(2, .int z3)] → W p l e (headSpec wsX5_countFree rm_X5_countFree).room s m (([.int p0, .int p1] : List Value).toArray) below meth c s.heap [] 0 0 Q (F0 m 36 ls []) := by
    intro z3 hq ls hl
    subst hq
    have hm := g_k1_s hm
    refine lv_iload_n hx hb dX5_countFree_36 rfl (lv_at hl 0 rfl) ?_
    cases hm
    subst hQ
    exact W.iret hx hb hr (fun t ht hW => ⟨_, rfl, rfl, ht⟩) (fun _ h => nomatch h) dX5_countFree_37
  have hL4 : ∀ (n : Nat) (y1 : Int32) (y2 : Int32), g_loop (fun q => m_X5_countFree_L4 p0 p1 q.1 q.2) n (y1, y2) = some rl4 → ∀ (ls : Array Slot), lv_has ls 4 [(0, .int p0), (1, .int p1), (2, .int y1), (3, .int y2)] → W p l e (headSpec wsX5_countFree rm_X5_countFree).room s m (([.int p0, .int p1] : List Value).toArray) below meth c s.heap [] 0 0 Q (F0 m 4 ls []) := by
    intro n
    induction n with
    | zero =>
      intro y1 y2 hm
      exact g_loop_z hm
    | succ n ih =>
      intro y1 y2 hm ls hl
      obtain ⟨q, hm, hy⟩ := g_loop_s hm
      have hm : m_X5_countFree_L4 p0 p1 y1 y2 = some q := hm
      unfold m_X5_countFree_L4 at hm
      refine lv_iload_n hx hb dX5_countFree_4 rfl (lv_at hl 3 rfl) ?_
      refine lv_bipush (v := 32) hx hb dX5_countFree_5 (by decide) ?_
      refine lv_icmp_ge (tgt := 36) hx hb dX5_countFree_7 (by decide) (fun c5 => ?_) (fun c5 => ?_)
      · have hm := g_t c5 hm
        cases hm
        exact hE4 _ hy _ (lv_sub hl [2] rfl)
      · have hm := g_f c5 hm
        refine lv_iload_n hx hb dX5_countFree_10 rfl (lv_at hl 0 rfl) ?_
        refine lv_iload_n hx hb dX5_countFree_11 rfl (lv_at hl 3 rfl) ?_
        refine lv_iload_n hx hb dX5_countFree_12 rfl (lv_at hl 1 rfl) ?_
        obtain ⟨x6, ex, hm⟩ := g_bind hm
        refine vp_callSi (W.runS (As := [.int p0, .int y2, .int p1]) (rest := []) ⟨hx, hb, hml, hown, hts⟩ (k_X5_isFree l  p0 y2 p1 _ ex) (va_cwS 3 hts gX5_countFree_X5_isFree rfl rfl rfl (by decide +kernel) ⟨Nat.le_of_ble_eq_true rfl, Nat.le_of_ble_eq_true rfl⟩) ⟨w_bl0, fun U hU hW => ⟨rfl, trivial⟩⟩ rfl rfl hl.1 rfl (lv_room (Nat.le_of_ble_eq_true rfl)) dX5_countFree_13 ⟨Nat.zero_le _, Nat.zero_le _⟩) (fun _ ey => ?_)
        subst ey
        refine lv_if_eq (tgt := 25) hx hb dX5_countFree_16 (by decide) (fun c7 => ?_) (fun c7 => ?_)
        · have hm := g_t c7 hm
          refine lv_iload_n hx hb dX5_countFree_25 rfl (lv_at hl 2 rfl) ?_
          refine lv_istore_n (lv' := [(2, .int y1), (0, .int p0), (1, .int p1), (3, .int y2)]) hx hb dX5_countFree_26 rfl hl (by decide) rfl (fun ls hl => ?_)
          refine lv_iload_n hx hb dX5_countFree_27 rfl (lv_at hl 3 rfl) ?_
          refine lv_iconst (v := 1) hx hb dX5_countFree_28 (by decide) ?_
          refine lv_iload_n hx hb dX5_countFree_29 rfl (lv_at hl 2 rfl) ?_
          refine lv_ishl hx hb dX5_countFree_30 ?_
          show W _ _ _ _ _ _ _ _ _ _ _ _ _ _ _ (F0 m 31 _ [.int (g_shl (1 : Int32) p1), .int y2])
          refine lv_iadd hx hb dX5_countFree_31 ?_
          refine lv_istore_n (lv' := [(3, .int (y2 + (g_shl (1 : Int32) p1))), (2, .int y1), (0, .int p0), (1, .int p1)]) hx hb dX5_countFree_32 rfl hl (by decide) rfl (fun ls hl => ?_)
          refine lv_goto (tgt := 4) hx hb dX5_countFree_33 (by decide) ?_
          cases hm
          exact ih _ _ hy _ (lv_sub hl [2, 3, 1, 0] rfl)
        · have hm := g_f c7 hm
          refine lv_iload_n hx hb dX5_countFree_19 rfl (lv_at hl 2 rfl) ?_
          refine lv_iconst (v := 1) hx hb dX5_countFree_20 (by decide) ?_
          refine lv_iadd hx hb dX5_countFree_21 ?_
          refine lv_goto (tgt := 26) hx hb dX5_countFree_22 (by decide) ?_
          refine lv_istore_n (lv' := [(2, .int (y1 + (1 : Int32))), (0, .int p0), (1, .int p1), (3, .int y2)]) hx hb dX5_countFree_26 rfl hl (by decide) rfl (fun ls hl => ?_)
          refine lv_iload_n hx hb dX5_countFree_27 rfl (lv_at hl 3 rfl) ?_
          refine lv_iconst (v := 1) hx hb dX5_countFree_28 (by decide) ?_
          refine lv_iload_n hx hb dX5_countFree_29 rfl (lv_at hl 2 rfl) ?_
          refine lv_ishl hx hb dX5_countFree_30 ?_
          show W _ _ _ _ _ _ _ _ _ _ _ _ _ _ _ (F0 m 31 _ [.int (g_shl (1 : Int32) p1), .int y2])
          refine lv_iadd hx hb dX5_countFree_31 ?_
          refine lv_istore_n (lv' := [(3, .int (y2 + (g_shl (1 : Int32) p1))), (2, .int (y1 + (1 : Int32))), (0, .int p0), (1, .int p1)]) hx hb dX5_countFree_32 rfl hl (by decide) rfl (fun ls hl => ?_)
          refine lv_goto (tgt := 4) hx hb dX5_countFree_33 (by decide) ?_
          cases hm
          exact ih _ _ hy _ (lv_sub hl [2, 3, 1, 0] rfl)
  exact hL4 _ _ _ hlp _ (lv_sub hl [2, 3, 1, 0] rfl)
abbrev rm_X5_place : Room := { frames := 2, cells := 0, slots := 0, locals := 47 }
set_option maxHeartbeats 4000000 in
set_option maxRecDepth 100000 in
theorem k_X5_place (l : Launch)  (p0 : Int32) (p1 : Int32) (r0 : Int32) (hm : m_X5_place p0 p1 = some r0) : Met l yX5_place wsX5_place rm_X5_place (va_Pc [.int p0, .int p1] (fun _ => True)) (vp_Si (fun r => r0 = r)) 0 0 (fun _ => False) := by
  refine Met.ofW (cc := cX5_place) (maxL := 4) (ret := (some .int)) (by decide) rfl ?_
  intro p e s m args below meth c s₁ B hml hv
  obtain ⟨rfl, -⟩ := hv
  have hx := B.exec
  have hb := B.bytes
  have hr := B.returns
  have hts := atoms_spec (ws := wsX5_place) B.pre
  have hown : s.vm.findClass RX5 = some m.cls := findClass_of_methodNamed B.named
  have hlocks := B.notSynchronized
  have hl := lv_entry ([.int p0, .int p1]) (n := 4) (Nat.le_of_ble_eq_true rfl)
  rw [lg_entry_eq]
  generalize (lg_sl ([.int p0, .int p1]) ++ List.replicate (4 - (lg_sl ([.int p0, .int p1])).length) Slot.unset).toArray = ls at hl ⊢
  have hl : lv_has ls 4 [(0, .int p0), (1, .int p1)] := hl
  refine w_name (fun Q hQ => ?_)
  unfold m_X5_place at hm
  refine lv_iload_n hx hb dX5_place_0 rfl (lv_at hl 1 rfl) ?_
  refine lv_istore_n (lv' := [(2, .int p1), (0, .int p0), (1, .int p1)]) hx hb dX5_place_1 rfl hl (by decide) rfl (fun ls hl => ?_)
  obtain ⟨rl2, hlp, hm⟩ := g_bind hm
  have hE2 : Sum.inr () = rl2 → ∀ (ls : Array Slot), lv_has ls 4 [] → W p l e (headSpec wsX5_place rm_X5_place).room s m (([.int p0, .int p1] : List Value).toArray) below meth c s.heap [] 0 0 Q (F0 m 41 ls []) := by
    intro  hq ls hl
    subst hq
    have hm := g_sk_r hm
    have hm := g_k0_s hm
    refine lv_iconst (v := -1) hx hb dX5_place_41 (by decide) ?_
    cases hm
    subst hQ
    exact W.iret hx hb hr (fun t ht hW => ⟨_, rfl, rfl, ht⟩) (fun _ h => nomatch h) dX5_place_42
  have hV2 : ∀ v, Sum.inl v = rl2 → v = r0 := by
    intro v hq
    subst hq
    have hm := g_sk_l hm
    exact Option.some.inj hm
  have hL2 : ∀ (n : Nat) (y1 : Int32), g_loop (fun q => m_X5_place_L2 p0 q) n y1 = some rl2 → ∀ (ls : Array Slot), lv_has ls 4 [(0, .int p0), (2, .int y1)] → W p l e (headSpec wsX5_place rm_X5_place).room s m (([.int p0, .int p1] : List Value).toArray) below meth c s.heap [] 0 0 Q (F0 m 2 ls []) := by
    intro n
    induction n with
    | zero =>
      intro y1 hm
      exact g_loop_z hm
    | succ n ih =>
      intro y1 hm ls hl
      obtain ⟨q, hm, hy⟩ := g_loop_s hm
      have hm : m_X5_place_L2 p0 y1 = some q := hm
      unfold m_X5_place_L2 at hm
      refine lv_iload_n hx hb dX5_place_2 rfl (lv_at hl 1 rfl) ?_
      refine lv_iconst (v := 5) hx hb dX5_place_3 (by decide) ?_
      refine lv_icmp_gt (tgt := 41) hx hb dX5_place_4 (by decide) (fun c3 => ?_) (fun c3 => ?_)
      · have hm := g_t c3 hm
        cases hm
        exact hE2 hy _ (lv_sub hl [] rfl)
      · have hm := g_f c3 hm
        refine lv_iconst (v := 0) hx hb dX5_place_7 (by decide) ?_
        refine lv_istore_n (lv' := [(3, .int (0 : Int32)), (0, .int p0), (2, .int y1)]) hx hb dX5_place_8 rfl hl (by decide) rfl (fun ls hl => ?_)
        obtain ⟨rl5, hlp, hm⟩ := g_bind hm
        have hE5 : Sum.inr () = rl5 → ∀ (ls : Array Slot), lv_has ls 4 [(0, .int p0), (2, .int y1)] → W p l e (headSpec wsX5_place rm_X5_place).room s m (([.int p0, .int p1] : List Value).toArray) below meth c s.heap [] 0 0 Q (F0 m 35 ls []) := by
          intro  hq ls hl
          subst hq
          have hm := g_sk_r hm
          have hm := g_k0_s hm
          refine lv_iinc (v := (y1 + (1 : Int32))) (lv' := [(2, .int (y1 + (1 : Int32))), (0, .int p0)]) hx hb dX5_place_35 hl (k := 1) rfl rfl (by decide) rfl (fun ls hl => ?_)
          refine lv_goto (tgt := 2) hx hb dX5_place_38 (by decide) ?_
          cases hm
          exact ih _ hy _ (lv_sub hl [1, 0] rfl)
        have hV5 : ∀ v, Sum.inl v = rl5 → v = r0 := by
          intro v hq
          subst hq
          have hm := g_sk_l hm
          cases hm
          exact hV2 v hy
        have hL5 : ∀ (n : Nat) (y4 : Int32), g_loop (fun q => m_X5_place_L9 p0 y1 q) n y4 = some rl5 → ∀ (ls : Array Slot), lv_has ls 4 [(0, .int p0), (2, .int y1), (3, .int y4)] → W p l e (headSpec wsX5_place rm_X5_place).room s m (([.int p0, .int p1] : List Value).toArray) below meth c s.heap [] 0 0 Q (F0 m 9 ls []) := by
          intro n
          induction n with
          | zero =>
            intro y4 hm
            exact g_loop_z hm
          | succ n ih =>
            intro y4 hm ls hl
            obtain ⟨q, hm, hy⟩ := g_loop_s hm
            have hm : m_X5_place_L9 p0 y1 y4 = some q := hm
            unfold m_X5_place_L9 at hm
            refine lv_iload_n hx hb dX5_place_9 rfl (lv_at hl 2 rfl) ?_
            refine lv_bipush (v := 32) hx hb dX5_place_10 (by decide) ?_
            refine lv_icmp_ge (tgt := 35) hx hb dX5_place_12 (by decide) (fun c6 => ?_) (fun c6 => ?_)
            · have hm := g_t c6 hm
              cases hm
              exact hE5 hy _ (lv_sub hl [0, 1] rfl)
            · have hm := g_f c6 hm
              refine lv_iload_n hx hb dX5_place_15 rfl (lv_at hl 0 rfl) ?_
              refine lv_iload_n hx hb dX5_place_16 rfl (lv_at hl 2 rfl) ?_
              refine lv_iload_n hx hb dX5_place_17 rfl (lv_at hl 1 rfl) ?_
              obtain ⟨x7, ex, hm⟩ := g_bind hm
              refine vp_callSi (W.runS (As := [.int p0, .int y4, .int y1]) (rest := []) ⟨hx, hb, hml, hown, hts⟩ (k_X5_isFree l  p0 y4 y1 _ ex) (va_cwS 3 hts gX5_place_X5_isFree rfl rfl rfl (by decide +kernel) ⟨Nat.le_of_ble_eq_true rfl, Nat.le_of_ble_eq_true rfl⟩) ⟨w_bl0, fun U hU hW => ⟨rfl, trivial⟩⟩ rfl rfl hl.1 rfl (lv_room (Nat.le_of_ble_eq_true rfl)) dX5_place_18 ⟨Nat.zero_le _, Nat.zero_le _⟩) (fun _ ey => ?_)
              subst ey
              refine lv_if_eq (tgt := 26) hx hb dX5_place_21 (by decide) (fun c8 => ?_) (fun c8 => ?_)
              · have hm := g_t c8 hm
                refine lv_iload_n hx hb dX5_place_26 rfl (lv_at hl 2 rfl) ?_
                refine lv_iconst (v := 1) hx hb dX5_place_27 (by decide) ?_
                refine lv_iload_n hx hb dX5_place_28 rfl (lv_at hl 1 rfl) ?_
                refine lv_ishl hx hb dX5_place_29 ?_
                show W _ _ _ _ _ _ _ _ _ _ _ _ _ _ _ (F0 m 30 _ [.int (g_shl (1 : Int32) y1), .int y4])
                refine lv_iadd hx hb dX5_place_30 ?_
                refine lv_istore_n (lv' := [(3, .int (y4 + (g_shl (1 : Int32) y1))), (0, .int p0), (2, .int y1)]) hx hb dX5_place_31 rfl hl (by decide) rfl (fun ls hl => ?_)
                refine lv_goto (tgt := 9) hx hb dX5_place_32 (by decide) ?_
                cases hm
                exact ih _ hy _ (lv_sub hl [1, 2, 0] rfl)
              · have hm := g_f c8 hm
                refine lv_iload_n hx hb dX5_place_24 rfl (lv_at hl 2 rfl) ?_
                cases hm
                have hq := hV5 _ hy
                cases hq
                subst hQ
                exact W.iret hx hb hr (fun t ht hW => ⟨_, rfl, rfl, ht⟩) (fun _ h => nomatch h) dX5_place_25
        exact hL5 _ _ hlp _ (lv_sub hl [1, 2, 0] rfl)
  exact hL2 _ _ hlp _ (lv_sub hl [1, 0] rfl)
abbrev rm_X5_bits : Room := { frames := 0, cells := 0, slots := 0, locals := 0 }
set_option maxHeartbeats 4000000 in
set_option maxRecDepth 100000 in
theorem k_X5_bits (l : Launch)  (p0 : Int32) (p1 : Int32) (r0 : Int32) (hm : m_X5_bits p0 p1 = some r0) : Met l yX5_bits wsX5_bits rm_X5_bits (va_Pc [.int p0, .int p1] (fun _ => True)) (vp_Si (fun r => r0 = r)) 0 0 (fun _ => False) := by
  refine Met.ofW (cc := cX5_bits) (maxL := 4) (ret := (some .int)) (by decide) rfl ?_
  intro p e s m args below meth c s₁ B hml hv
  obtain ⟨rfl, -⟩ := hv
  have hx := B.exec
  have hb := B.bytes
  have hr := B.returns
  have hts := atoms_spec (ws := wsX5_bits) B.pre
  have hown : s.vm.findClass RX5 = some m.cls := findClass_of_methodNamed B.named
  have hlocks := B.notSynchronized
  have hl := lv_entry ([.int p0, .int p1]) (n := 4) (Nat.le_of_ble_eq_true rfl)
  rw [lg_entry_eq]
  generalize (lg_sl ([.int p0, .int p1]) ++ List.replicate (4 - (lg_sl ([.int p0, .int p1])).length) Slot.unset).toArray = ls at hl ⊢
  have hl : lv_has ls 4 [(0, .int p0), (1, .int p1)] := hl
  refine w_name (fun Q hQ => ?_)
  unfold m_X5_bits at hm
  refine lv_iconst (v := 0) hx hb dX5_bits_0 (by decide) ?_
  refine lv_istore_n (lv' := [(2, .int (0 : Int32)), (0, .int p0), (1, .int p1)]) hx hb dX5_bits_1 rfl hl (by decide) rfl (fun ls hl => ?_)
  refine lv_iload_n hx hb dX5_bits_2 rfl (lv_at hl 1 rfl) ?_
  refine lv_istore_n (lv' := [(3, .int p0), (2, .int (0 : Int32)), (0, .int p0), (1, .int p1)]) hx hb dX5_bits_3 rfl hl (by decide) rfl (fun ls hl => ?_)
  obtain ⟨rl4, hlp, hm⟩ := g_bind hm
  have hE4 : ∀ (z3 : Int32), z3 = rl4 → ∀ (ls : Array Slot), lv_has ls 4 [(2, .int z3)] → W p l e (headSpec wsX5_bits rm_X5_bits).room s m (([.int p0, .int p1] : List Value).toArray) below meth c s.heap [] 0 0 Q (F0 m 25 ls []) := by
    intro z3 hq ls hl
    subst hq
    have hm := g_k1_s hm
    refine lv_iload_n hx hb dX5_bits_25 rfl (lv_at hl 0 rfl) ?_
    cases hm
    subst hQ
    exact W.iret hx hb hr (fun t ht hW => ⟨_, rfl, rfl, ht⟩) (fun _ h => nomatch h) dX5_bits_26
  have hL4 : ∀ (n : Nat) (y1 : Int32) (y2 : Int32), g_loop (fun q => m_X5_bits_L4 p0 p1 q.1 q.2) n (y1, y2) = some rl4 → ∀ (ls : Array Slot), lv_has ls 4 [(0, .int p0), (1, .int p1), (2, .int y1), (3, .int y2)] → W p l e (headSpec wsX5_bits rm_X5_bits).room s m (([.int p0, .int p1] : List Value).toArray) below meth c s.heap [] 0 0 Q (F0 m 4 ls []) := by
    intro n
    induction n with
    | zero =>
      intro y1 y2 hm
      exact g_loop_z hm
    | succ n ih =>
      intro y1 y2 hm ls hl
      obtain ⟨q, hm, hy⟩ := g_loop_s hm
      have hm : m_X5_bits_L4 p0 p1 y1 y2 = some q := hm
      unfold m_X5_bits_L4 at hm
      refine lv_iload_n hx hb dX5_bits_4 rfl (lv_at hl 3 rfl) ?_
      refine lv_iload_n hx hb dX5_bits_5 rfl (lv_at hl 0 rfl) ?_
      refine lv_iconst (v := 1) hx hb dX5_bits_6 (by decide) ?_
      refine lv_iload_n hx hb dX5_bits_7 rfl (lv_at hl 1 rfl) ?_
      refine lv_ishl hx hb dX5_bits_8 ?_
      show W _ _ _ _ _ _ _ _ _ _ _ _ _ _ _ (F0 m 9 _ [.int (g_shl (1 : Int32) p1), .int p0, .int y2])
      refine lv_iadd hx hb dX5_bits_9 ?_
      refine lv_icmp_ge (tgt := 25) hx hb dX5_bits_10 (by decide) (fun c5 => ?_) (fun c5 => ?_)
      · have hm := g_t c5 hm
        cases hm
        exact hE4 _ hy _ (lv_sub hl [2] rfl)
      · have hm := g_f c5 hm
        refine lv_iload_n hx hb dX5_bits_13 rfl (lv_at hl 2 rfl) ?_
        refine lv_iconst (v := 1) hx hb dX5_bits_14 (by decide) ?_
        refine lv_iload_n hx hb dX5_bits_15 rfl (lv_at hl 3 rfl) ?_
        refine lv_ishl hx hb dX5_bits_16 ?_
        show W _ _ _ _ _ _ _ _ _ _ _ _ _ _ _ (F0 m 17 _ [.int (g_shl (1 : Int32) y2), .int y1])
        refine lv_ior hx hb dX5_bits_17 ?_
        refine lv_istore_n (lv' := [(2, .int (y1 ||| (g_shl (1 : Int32) y2))), (0, .int p0), (1, .int p1), (3, .int y2)]) hx hb dX5_bits_18 rfl hl (by decide) rfl (fun ls hl => ?_)
        refine lv_iinc (v := (y2 + (1 : Int32))) (lv' := [(3, .int (y2 + (1 : Int32))), (2, .int (y1 ||| (g_shl (1 : Int32) y2))), (0, .int p0), (1, .int p1)]) hx hb dX5_bits_19 hl (k := 3) rfl rfl (by decide) rfl (fun ls hl => ?_)
        refine lv_goto (tgt := 4) hx hb dX5_bits_22 (by decide) ?_
        cases hm
        exact ih _ _ hy _ (lv_sub hl [2, 3, 1, 0] rfl)
  exact hL4 _ _ _ hlp _ (lv_sub hl [2, 3, 1, 0] rfl)
theorem hi_X5_extentOf_X5 : ∀ w ∈ wsX50, w ∈ wsX5_extentOf := by decide +kernel
theorem hk_X5_extentOf_13 : Cond.fieldLink RX5 13 "BuddyFilesModel" "mem" "[I" ∈ wsX5_extentOf := by decide +kernel
abbrev rm_X5_extentOf : Room := { frames := 0, cells := 0, slots := 0, locals := 0 }
set_option maxHeartbeats 4000000 in
set_option maxRecDepth 100000 in
theorem k_X5_extentOf (l : Launch) (dC : Nat → ClassId) (dI : Nat → Nat → Nat) (A_x A_da A_ma A_ha A_ho A_ti A_be A_te A_ch : Nat) (K_da K_ma K_ha K_ho K_ti K_be K_te K_ch : ClassId) (c_da c_ma c_ha c_ho c_ti c_be c_te c_ch : Nat → Int32) (c_up c_fu c_tm c_tc : Int32) (p1 : Int32) (p2 : Int32) (r0 : Int32) (hm : m_X5_extentOf c_ma p1 p2 = some r0) : Met l yX5_extentOf wsX5_extentOf rm_X5_extentOf (va_Pc [.ref A_x, .int p1, .int p2] (fun U => va_P (dC, dI) vwCl (wM A_x A_da A_ma A_ha A_ho A_ti A_be A_te A_ch K_da K_ma K_ha K_ho K_ti K_be K_te K_ch c_da c_ma c_ha c_ho c_ti c_be c_te c_ch c_up c_fu c_tm c_tc) U.heap ∧ va_K (dC, dI) vwCl (tM K_da K_ma K_ha K_ho K_ti K_be K_te K_ch) U)) (vp_Si (fun r => r0 = r)) 0 0 (fun _ => False) := by
  refine Met.ofW (cc := cX5_extentOf) (maxL := 3) (ret := (some .int)) (by decide) rfl ?_
  intro p e s m args below meth c s₁ B hml hv
  obtain ⟨rfl, hP, hK⟩ := hv
  have hx := B.exec
  have hb := B.bytes
  have hr := B.returns
  have hts := atoms_spec (ws := wsX5_extentOf) B.pre
  have hown : s.vm.findClass RX5 = some m.cls := findClass_of_methodNamed B.named
  have hlocks := B.notSynchronized
  have hl := lv_entry ([.ref A_x, .int p1, .int p2]) (n := 3) (Nat.le_of_ble_eq_true rfl)
  rw [lg_entry_eq]
  generalize (lg_sl ([.ref A_x, .int p1, .int p2]) ++ List.replicate (3 - (lg_sl ([.ref A_x, .int p1, .int p2])).length) Slot.unset).toArray = ls at hl ⊢
  have hl : lv_has ls 3 [(0, .ref A_x), (1, .int p1), (2, .int p2)] := hl
  refine w_name (fun Q hQ => ?_)
  unfold m_X5_extentOf at hm
  refine lv_aload_n hx hb dX5_extentOf_0 rfl (lv_at hl 0 rfl) ?_
  refine va_get (D := (dC, dI)) (ci := 3) (v := .ref A_ma) (C := RX5) (T := TX5) (N := 12) hx hb hts hi_X5_extentOf_X5 hown hK hP 0 rfl rfl 3 (by decide) (hts (Cond.fieldLink RX5 13 "BuddyFilesModel" "mem" "[I") hk_X5_extentOf_13) (fun _ h9 => h9) rfl dX5_extentOf_1 ?_
  refine lv_bipush (v := 7) hx hb dX5_extentOf_4 (by decide) ?_
  refine lv_iload_n hx hb dX5_extentOf_6 rfl (lv_at hl 1 rfl) ?_
  refine lv_imul hx hb dX5_extentOf_7 ?_
  refine lv_iconst (v := 3) hx hb dX5_extentOf_8 (by decide) ?_
  refine lv_iadd hx hb dX5_extentOf_9 ?_
  refine lv_iload_n hx hb dX5_extentOf_10 rfl (lv_at hl 2 rfl) ?_
  refine lv_iadd hx hb dX5_extentOf_11 ?_
  obtain ⟨x1, ex, hm⟩ := g_bind hm
  refine w_ald hx hb hK hP 2 1 rfl rfl ex dX5_extentOf_12 ?_
  cases hm
  subst hQ
  exact W.iret hx hb hr (fun t ht hW => ⟨_, rfl, rfl, ht⟩) (fun _ h => nomatch h) dX5_extentOf_13
abbrev rm_X5_blocks : Room := { frames := 2, cells := 0, slots := 0, locals := 40 }
set_option maxHeartbeats 4000000 in
set_option maxRecDepth 100000 in
theorem k_X5_blocks (l : Launch) (dC : Nat → ClassId) (dI : Nat → Nat → Nat) (A_x A_da A_ma A_ha A_ho A_ti A_be A_te A_ch : Nat) (K_da K_ma K_ha K_ho K_ti K_be K_te K_ch : ClassId) (c_da c_ma c_ha c_ho c_ti c_be c_te c_ch : Nat → Int32) (c_up c_fu c_tm c_tc : Int32) (p1 : Int32) (r0 : Int32) (hm : m_X5_blocks c_ma p1 = some r0) : Met l yX5_blocks wsX5_blocks rm_X5_blocks (va_Pc [.ref A_x, .int p1] (fun U => va_P (dC, dI) vwCl (wM A_x A_da A_ma A_ha A_ho A_ti A_be A_te A_ch K_da K_ma K_ha K_ho K_ti K_be K_te K_ch c_da c_ma c_ha c_ho c_ti c_be c_te c_ch c_up c_fu c_tm c_tc) U.heap ∧ va_K (dC, dI) vwCl (tM K_da K_ma K_ha K_ho K_ti K_be K_te K_ch) U)) (vp_Si (fun r => r0 = r)) 0 0 (fun _ => False) := by
  refine Met.ofW (cc := cX5_blocks) (maxL := 4) (ret := (some .int)) (by decide) rfl ?_
  intro p e s m args below meth c s₁ B hml hv
  obtain ⟨rfl, hP, hK⟩ := hv
  have hx := B.exec
  have hb := B.bytes
  have hr := B.returns
  have hts := atoms_spec (ws := wsX5_blocks) B.pre
  have hown : s.vm.findClass RX5 = some m.cls := findClass_of_methodNamed B.named
  have hlocks := B.notSynchronized
  have hl := lv_entry ([.ref A_x, .int p1]) (n := 4) (Nat.le_of_ble_eq_true rfl)
  rw [lg_entry_eq]
  generalize (lg_sl ([.ref A_x, .int p1]) ++ List.replicate (4 - (lg_sl ([.ref A_x, .int p1])).length) Slot.unset).toArray = ls at hl ⊢
  have hl : lv_has ls 4 [(0, .ref A_x), (1, .int p1)] := hl
  refine w_name (fun Q hQ => ?_)
  unfold m_X5_blocks at hm
  refine lv_iconst (v := 0) hx hb dX5_blocks_0 (by decide) ?_
  refine lv_istore_n (lv' := [(2, .int (0 : Int32)), (0, .ref A_x), (1, .int p1)]) hx hb dX5_blocks_1 rfl hl (by decide) rfl (fun ls hl => ?_)
  refine lv_iconst (v := 0) hx hb dX5_blocks_2 (by decide) ?_
  refine lv_istore_n (lv' := [(3, .int (0 : Int32)), (2, .int (0 : Int32)), (0, .ref A_x), (1, .int p1)]) hx hb dX5_blocks_3 rfl hl (by decide) rfl (fun ls hl => ?_)
  obtain ⟨rl4, hlp, hm⟩ := g_bind hm
  have hE4 : ∀ (z3 : Int32), z3 = rl4 → ∀ (ls : Array Slot), lv_has ls 4 [(2, .int z3)] → W p l e (headSpec wsX5_blocks rm_X5_blocks).room s m (([.ref A_x, .int p1] : List Value).toArray) below meth c s.heap [] 0 0 Q (F0 m 27 ls []) := by
    intro z3 hq ls hl
    subst hq
    have hm := g_k1_s hm
    refine lv_iload_n hx hb dX5_blocks_27 rfl (lv_at hl 0 rfl) ?_
    cases hm
    subst hQ
    exact W.iret hx hb hr (fun t ht hW => ⟨_, rfl, rfl, ht⟩) (fun _ h => nomatch h) dX5_blocks_28
  have hL4 : ∀ (n : Nat) (y1 : Int32) (y2 : Int32), g_loop (fun q => m_X5_blocks_L4 p1 c_ma q.1 q.2) n (y1, y2) = some rl4 → ∀ (ls : Array Slot), lv_has ls 4 [(0, .ref A_x), (1, .int p1), (2, .int y1), (3, .int y2)] → W p l e (headSpec wsX5_blocks rm_X5_blocks).room s m (([.ref A_x, .int p1] : List Value).toArray) below meth c s.heap [] 0 0 Q (F0 m 4 ls []) := by
    intro n
    induction n with
    | zero =>
      intro y1 y2 hm
      exact g_loop_z hm
    | succ n ih =>
      intro y1 y2 hm ls hl
      obtain ⟨q, hm, hy⟩ := g_loop_s hm
      have hm : m_X5_blocks_L4 p1 c_ma y1 y2 = some q := hm
      unfold m_X5_blocks_L4 at hm
      refine lv_iload_n hx hb dX5_blocks_4 rfl (lv_at hl 3 rfl) ?_
      refine lv_iconst (v := 4) hx hb dX5_blocks_5 (by decide) ?_
      refine lv_icmp_ge (tgt := 27) hx hb dX5_blocks_6 (by decide) (fun c5 => ?_) (fun c5 => ?_)
      · have hm := g_t c5 hm
        cases hm
        exact hE4 _ hy _ (lv_sub hl [2] rfl)
      · have hm := g_f c5 hm
        refine lv_iload_n hx hb dX5_blocks_9 rfl (lv_at hl 2 rfl) ?_
        refine lv_aload_n hx hb dX5_blocks_10 rfl (lv_at hl 0 rfl) ?_
        refine lv_iload_n hx hb dX5_blocks_11 rfl (lv_at hl 1 rfl) ?_
        refine lv_iload_n hx hb dX5_blocks_12 rfl (lv_at hl 3 rfl) ?_
        obtain ⟨x6, ex, hm⟩ := g_bind hm
        refine vp_callSi (W.runV (As := [.int p1, .int y2]) (rest := [.int y1]) ⟨hx, hb, hml, hown, hts⟩ (k_X5_extentOf l dC dI A_x A_da A_ma A_ha A_ho A_ti A_be A_te A_ch K_da K_ma K_ha K_ho K_ti K_be K_te K_ch c_da c_ma c_ha c_ho c_ti c_be c_te c_ch c_up c_fu c_tm c_tc p1 y2 _ ex) (cwV 2 hts gX5_blocks_X5_extentOf rfl rfl rfl (by decide +kernel) ⟨Nat.le_of_ble_eq_true rfl, Nat.le_of_ble_eq_true rfl⟩) ⟨w_blR, va_recv hK hP (ci := 3) (q0 := 0) rfl rfl, fun U hU hW => ⟨rfl, by rw [hU]; exact hP.sub [0, 1, 2, 3, 4, 5, 6, 7, 8] rfl, va_K.moved hW.alike (hK.sub [0, 1, 2, 3, 4, 5, 6, 7] rfl)⟩⟩ rfl rfl hl.1 rfl (lv_room (Nat.le_of_ble_eq_true rfl)) dX5_blocks_13 ⟨Nat.zero_le _, Nat.zero_le _⟩) (fun _ ey => ?_)
        subst ey
        obtain ⟨x7, ex, hm⟩ := g_bind hm
        refine vp_callSi (W.runS (As := [.int x6]) (rest := [.int y1]) ⟨hx, hb, hml, hown, hts⟩ (k_X5_size l  x6 _ ex) (va_cwS 1 hts gX5_blocks_X5_size rfl rfl rfl (by decide +kernel) ⟨Nat.le_of_ble_eq_true rfl, Nat.le_of_ble_eq_true rfl⟩) ⟨w_bl0, fun U hU hW => ⟨rfl, trivial⟩⟩ rfl rfl hl.1 rfl (lv_room (Nat.le_of_ble_eq_true rfl)) dX5_blocks_16 ⟨Nat.zero_le _, Nat.zero_le _⟩) (fun _ ey => ?_)
        subst ey
        refine lv_iadd hx hb dX5_blocks_19 ?_
        refine lv_istore_n (lv' := [(2, .int (y1 + x7)), (0, .ref A_x), (1, .int p1), (3, .int y2)]) hx hb dX5_blocks_20 rfl hl (by decide) rfl (fun ls hl => ?_)
        refine lv_iinc (v := (y2 + (1 : Int32))) (lv' := [(3, .int (y2 + (1 : Int32))), (2, .int (y1 + x7)), (0, .ref A_x), (1, .int p1)]) hx hb dX5_blocks_21 hl (k := 3) rfl rfl (by decide) rfl (fun ls hl => ?_)
        refine lv_goto (tgt := 4) hx hb dX5_blocks_24 (by decide) ?_
        cases hm
        exact ih _ _ hy _ (lv_sub hl [2, 3, 1, 0] rfl)
  exact hL4 _ _ _ hlp _ (lv_sub hl [2, 3, 1, 0] rfl)
abbrev rm_X5_runs : Room := { frames := 1, cells := 0, slots := 0, locals := 22 }
set_option maxHeartbeats 4000000 in
set_option maxRecDepth 100000 in
theorem k_X5_runs (l : Launch) (dC : Nat → ClassId) (dI : Nat → Nat → Nat) (A_x A_da A_ma A_ha A_ho A_ti A_be A_te A_ch : Nat) (K_da K_ma K_ha K_ho K_ti K_be K_te K_ch : ClassId) (c_da c_ma c_ha c_ho c_ti c_be c_te c_ch : Nat → Int32) (c_up c_fu c_tm c_tc : Int32) (p1 : Int32) (r0 : Int32) (hm : m_X5_runs c_ma p1 = some r0) : Met l yX5_runs wsX5_runs rm_X5_runs (va_Pc [.ref A_x, .int p1] (fun U => va_P (dC, dI) vwCl (wM A_x A_da A_ma A_ha A_ho A_ti A_be A_te A_ch K_da K_ma K_ha K_ho K_ti K_be K_te K_ch c_da c_ma c_ha c_ho c_ti c_be c_te c_ch c_up c_fu c_tm c_tc) U.heap ∧ va_K (dC, dI) vwCl (tM K_da K_ma K_ha K_ho K_ti K_be K_te K_ch) U)) (vp_Si (fun r => r0 = r)) 0 0 (fun _ => False) := by
  refine Met.ofW (cc := cX5_runs) (maxL := 3) (ret := (some .int)) (by decide) rfl ?_
  intro p e s m args below meth c s₁ B hml hv
  obtain ⟨rfl, hP, hK⟩ := hv
  have hx := B.exec
  have hb := B.bytes
  have hr := B.returns
  have hts := atoms_spec (ws := wsX5_runs) B.pre
  have hown : s.vm.findClass RX5 = some m.cls := findClass_of_methodNamed B.named
  have hlocks := B.notSynchronized
  have hl := lv_entry ([.ref A_x, .int p1]) (n := 3) (Nat.le_of_ble_eq_true rfl)
  rw [lg_entry_eq]
  generalize (lg_sl ([.ref A_x, .int p1]) ++ List.replicate (3 - (lg_sl ([.ref A_x, .int p1])).length) Slot.unset).toArray = ls at hl ⊢
  have hl : lv_has ls 3 [(0, .ref A_x), (1, .int p1)] := hl
  refine w_name (fun Q hQ => ?_)
  unfold m_X5_runs at hm
  refine lv_iconst (v := 0) hx hb dX5_runs_0 (by decide) ?_
  refine lv_istore_n (lv' := [(2, .int (0 : Int32)), (0, .ref A_x), (1, .int p1)]) hx hb dX5_runs_1 rfl hl (by decide) rfl (fun ls hl => ?_)
  obtain ⟨rl3, hlp, hm⟩ := g_bind hm
  have hE3 : ∀ (z2 : Int32), z2 = rl3 → ∀ (ls : Array Slot), lv_has ls 3 [(2, .int z2)] → W p l e (headSpec wsX5_runs rm_X5_runs).room s m (([.ref A_x, .int p1] : List Value).toArray) below meth c s.heap [] 0 0 Q (F0 m 22 ls []) := by
    intro z2 hq ls hl
    subst hq
    have hm := g_k1_s hm
    refine lv_iload_n hx hb dX5_runs_22 rfl (lv_at hl 0 rfl) ?_
    cases hm
    subst hQ
    exact W.iret hx hb hr (fun t ht hW => ⟨_, rfl, rfl, ht⟩) (fun _ h => nomatch h) dX5_runs_23
  have hL3 : ∀ (n : Nat) (y1 : Int32), g_loop (fun q => m_X5_runs_L2 p1 c_ma q) n y1 = some rl3 → ∀ (ls : Array Slot), lv_has ls 3 [(0, .ref A_x), (1, .int p1), (2, .int y1)] → W p l e (headSpec wsX5_runs rm_X5_runs).room s m (([.ref A_x, .int p1] : List Value).toArray) below meth c s.heap [] 0 0 Q (F0 m 2 ls []) := by
    intro n
    induction n with
    | zero =>
      intro y1 hm
      exact g_loop_z hm
    | succ n ih =>
      intro y1 hm ls hl
      obtain ⟨q, hm, hy⟩ := g_loop_s hm
      have hm : m_X5_runs_L2 p1 c_ma y1 = some q := hm
      unfold m_X5_runs_L2 at hm
      refine lv_iload_n hx hb dX5_runs_2 rfl (lv_at hl 2 rfl) ?_
      refine lv_iconst (v := 4) hx hb dX5_runs_3 (by decide) ?_
      refine lv_icmp_ge (tgt := 22) hx hb dX5_runs_4 (by decide) (fun c4 => ?_) (fun c4 => ?_)
      · have hm := g_t c4 hm
        cases hm
        exact hE3 _ hy _ (lv_sub hl [2] rfl)
      · have hm := g_f c4 hm
        refine lv_aload_n hx hb dX5_runs_7 rfl (lv_at hl 0 rfl) ?_
        refine lv_iload_n hx hb dX5_runs_8 rfl (lv_at hl 1 rfl) ?_
        refine lv_iload_n hx hb dX5_runs_9 rfl (lv_at hl 2 rfl) ?_
        obtain ⟨x5, ex, hm⟩ := g_bind hm
        refine vp_callSi (W.runV (As := [.int p1, .int y1]) (rest := []) ⟨hx, hb, hml, hown, hts⟩ (k_X5_extentOf l dC dI A_x A_da A_ma A_ha A_ho A_ti A_be A_te A_ch K_da K_ma K_ha K_ho K_ti K_be K_te K_ch c_da c_ma c_ha c_ho c_ti c_be c_te c_ch c_up c_fu c_tm c_tc p1 y1 _ ex) (cwV 2 hts gX5_runs_X5_extentOf rfl rfl rfl (by decide +kernel) ⟨Nat.le_of_ble_eq_true rfl, Nat.le_of_ble_eq_true rfl⟩) ⟨w_blR, va_recv hK hP (ci := 3) (q0 := 0) rfl rfl, fun U hU hW => ⟨rfl, by rw [hU]; exact hP.sub [0, 1, 2, 3, 4, 5, 6, 7, 8] rfl, va_K.moved hW.alike (hK.sub [0, 1, 2, 3, 4, 5, 6, 7] rfl)⟩⟩ rfl rfl hl.1 rfl (lv_room (Nat.le_of_ble_eq_true rfl)) dX5_runs_10 ⟨Nat.zero_le _, Nat.zero_le _⟩) (fun _ ey => ?_)
        subst ey
        refine lv_if_le (tgt := 22) hx hb dX5_runs_13 (by decide) (fun c6 => ?_) (fun c6 => ?_)
        · have hm := g_t c6 hm
          cases hm
          exact hE3 _ hy _ (lv_sub hl [2] rfl)
        · have hm := g_f c6 hm
          refine lv_iinc (v := (y1 + (1 : Int32))) (lv' := [(2, .int (y1 + (1 : Int32))), (0, .ref A_x), (1, .int p1)]) hx hb dX5_runs_16 hl (k := 2) rfl rfl (by decide) rfl (fun ls hl => ?_)
          refine lv_goto (tgt := 2) hx hb dX5_runs_19 (by decide) ?_
          cases hm
          exact ih _ hy _ (lv_sub hl [1, 2, 0] rfl)
  exact hL3 _ _ hlp _ (lv_sub hl [1, 2, 0] rfl)
theorem hi_X5_used_X5 : ∀ w ∈ wsX50, w ∈ wsX5_used := by decide +kernel
theorem hk_X5_used_13 : Cond.fieldLink RX5 13 "BuddyFilesModel" "mem" "[I" ∈ wsX5_used := by decide +kernel
abbrev rm_X5_used : Room := { frames := 3, cells := 0, slots := 0, locals := 63 }
set_option maxHeartbeats 4000000 in
set_option maxRecDepth 100000 in
theorem k_X5_used (l : Launch) (dC : Nat → ClassId) (dI : Nat → Nat → Nat) (A_x A_da A_ma A_ha A_ho A_ti A_be A_te A_ch : Nat) (K_da K_ma K_ha K_ho K_ti K_be K_te K_ch : ClassId) (c_da c_ma c_ha c_ho c_ti c_be c_te c_ch : Nat → Int32) (c_up c_fu c_tm c_tc : Int32) (p1 : Int32) (r0 : Int32) (hm : m_X5_used c_ma p1 = some r0) : Met l yX5_used wsX5_used rm_X5_used (va_Pc [.ref A_x, .int p1] (fun U => va_P (dC, dI) vwCl (wM A_x A_da A_ma A_ha A_ho A_ti A_be A_te A_ch K_da K_ma K_ha K_ho K_ti K_be K_te K_ch c_da c_ma c_ha c_ho c_ti c_be c_te c_ch c_up c_fu c_tm c_tc) U.heap ∧ va_K (dC, dI) vwCl (tM K_da K_ma K_ha K_ho K_ti K_be K_te K_ch) U)) (vp_Si (fun r => r0 = r)) 0 0 (fun _ => False) := by
  refine Met.ofW (cc := cX5_used) (maxL := 4) (ret := (some .int)) (by decide) rfl ?_
  intro p e s m args below meth c s₁ B hml hv
  obtain ⟨rfl, hP, hK⟩ := hv
  have hx := B.exec
  have hb := B.bytes
  have hr := B.returns
  have hts := atoms_spec (ws := wsX5_used) B.pre
  have hown : s.vm.findClass RX5 = some m.cls := findClass_of_methodNamed B.named
  have hlocks := B.notSynchronized
  have hl := lv_entry ([.ref A_x, .int p1]) (n := 4) (Nat.le_of_ble_eq_true rfl)
  rw [lg_entry_eq]
  generalize (lg_sl ([.ref A_x, .int p1]) ++ List.replicate (4 - (lg_sl ([.ref A_x, .int p1])).length) Slot.unset).toArray = ls at hl ⊢
  have hl : lv_has ls 4 [(0, .ref A_x), (1, .int p1)] := hl
  refine w_name (fun Q hQ => ?_)
  unfold m_X5_used at hm
  refine lv_iconst (v := 0) hx hb dX5_used_0 (by decide) ?_
  refine lv_istore_n (lv' := [(2, .int (0 : Int32)), (0, .ref A_x), (1, .int p1)]) hx hb dX5_used_1 rfl hl (by decide) rfl (fun ls hl => ?_)
  refine lv_iconst (v := 0) hx hb dX5_used_2 (by decide) ?_
  refine lv_istore_n (lv' := [(3, .int (0 : Int32)), (2, .int (0 : Int32)), (0, .ref A_x), (1, .int p1)]) hx hb dX5_used_3 rfl hl (by decide) rfl (fun ls hl => ?_)
  obtain ⟨rl4, hlp, hm⟩ := g_bind hm
  have hE4 : ∀ (z3 : Int32), z3 = rl4 → ∀ (ls : Array Slot), lv_has ls 4 [(2, .int z3)] → W p l e (headSpec wsX5_used rm_X5_used).room s m (([.ref A_x, .int p1] : List Value).toArray) below meth c s.heap [] 0 0 Q (F0 m 55 ls []) := by
    intro z3 hq ls hl
    subst hq
    have hm := g_k1_s hm
    refine lv_iload_n hx hb dX5_used_55 rfl (lv_at hl 0 rfl) ?_
    cases hm
    subst hQ
    exact W.iret hx hb hr (fun t ht hW => ⟨_, rfl, rfl, ht⟩) (fun _ h => nomatch h) dX5_used_56
  have hL4 : ∀ (n : Nat) (y1 : Int32) (y2 : Int32), g_loop (fun q => m_X5_used_L4 p1 c_ma q.1 q.2) n (y1, y2) = some rl4 → ∀ (ls : Array Slot), lv_has ls 4 [(0, .ref A_x), (1, .int p1), (2, .int y1), (3, .int y2)] → W p l e (headSpec wsX5_used rm_X5_used).room s m (([.ref A_x, .int p1] : List Value).toArray) below meth c s.heap [] 0 0 Q (F0 m 4 ls []) := by
    intro n
    induction n with
    | zero =>
      intro y1 y2 hm
      exact g_loop_z hm
    | succ n ih =>
      intro y1 y2 hm ls hl
      obtain ⟨q, hm, hy⟩ := g_loop_s hm
      have hm : m_X5_used_L4 p1 c_ma y1 y2 = some q := hm
      unfold m_X5_used_L4 at hm
      refine lv_iload_n hx hb dX5_used_4 rfl (lv_at hl 3 rfl) ?_
      refine lv_bipush (v := 6) hx hb dX5_used_5 (by decide) ?_
      refine lv_icmp_ge (tgt := 55) hx hb dX5_used_7 (by decide) (fun c5 => ?_) (fun c5 => ?_)
      · have hm := g_t c5 hm
        cases hm
        exact hE4 _ hy _ (lv_sub hl [2] rfl)
      · have hm := g_f c5 hm
        refine lv_aload_n hx hb dX5_used_10 rfl (lv_at hl 0 rfl) ?_
        refine va_get (D := (dC, dI)) (ci := 3) (v := .ref A_ma) (C := RX5) (T := TX5) (N := 12) hx hb hts hi_X5_used_X5 hown hK hP 0 rfl rfl 3 (by decide) (hts (Cond.fieldLink RX5 13 "BuddyFilesModel" "mem" "[I") hk_X5_used_13) (fun _ h9 => h9) rfl dX5_used_11 ?_
        refine lv_bipush (v := 7) hx hb dX5_used_14 (by decide) ?_
        refine lv_iload_n hx hb dX5_used_16 rfl (lv_at hl 3 rfl) ?_
        refine lv_imul hx hb dX5_used_17 ?_
        obtain ⟨x6, ex, hm⟩ := g_bind hm
        refine w_ald hx hb hK hP 2 1 rfl rfl ex dX5_used_18 ?_
        refine lv_if_le (tgt := 47) hx hb dX5_used_19 (by decide) (fun c7 => ?_) (fun c7 => ?_)
        · have hm := g_t c7 hm
          refine lv_iload_n hx hb dX5_used_47 rfl (lv_at hl 2 rfl) ?_
          refine lv_istore_n (lv' := [(2, .int y1), (0, .ref A_x), (1, .int p1), (3, .int y2)]) hx hb dX5_used_48 rfl hl (by decide) rfl (fun ls hl => ?_)
          refine lv_iinc (v := (y2 + (1 : Int32))) (lv' := [(3, .int (y2 + (1 : Int32))), (2, .int y1), (0, .ref A_x), (1, .int p1)]) hx hb dX5_used_49 hl (k := 3) rfl rfl (by decide) rfl (fun ls hl => ?_)
          refine lv_goto (tgt := 4) hx hb dX5_used_52 (by decide) ?_
          cases hm
          exact ih _ _ hy _ (lv_sub hl [2, 3, 1, 0] rfl)
        · have hm := g_f c7 hm
          refine lv_aload_n hx hb dX5_used_22 rfl (lv_at hl 0 rfl) ?_
          refine va_get (D := (dC, dI)) (ci := 3) (v := .ref A_ma) (C := RX5) (T := TX5) (N := 12) hx hb hts hi_X5_used_X5 hown hK hP 0 rfl rfl 3 (by decide) (hts (Cond.fieldLink RX5 13 "BuddyFilesModel" "mem" "[I") hk_X5_used_13) (fun _ h9 => h9) rfl dX5_used_23 ?_
          refine lv_bipush (v := 7) hx hb dX5_used_26 (by decide) ?_
          refine lv_iload_n hx hb dX5_used_28 rfl (lv_at hl 3 rfl) ?_
          refine lv_imul hx hb dX5_used_29 ?_
          refine lv_iconst (v := 1) hx hb dX5_used_30 (by decide) ?_
          refine lv_iadd hx hb dX5_used_31 ?_
          obtain ⟨x8, ex, hm⟩ := g_bind hm
          refine w_ald hx hb hK hP 2 1 rfl rfl ex dX5_used_32 ?_
          refine lv_iload_n hx hb dX5_used_33 rfl (lv_at hl 1 rfl) ?_
          refine lv_icmp_ne (tgt := 47) hx hb dX5_used_34 (by decide) (fun c9 => ?_) (fun c9 => ?_)
          · have hm := g_f c9 hm
            refine lv_iload_n hx hb dX5_used_47 rfl (lv_at hl 2 rfl) ?_
            refine lv_istore_n (lv' := [(2, .int y1), (0, .ref A_x), (1, .int p1), (3, .int y2)]) hx hb dX5_used_48 rfl hl (by decide) rfl (fun ls hl => ?_)
            refine lv_iinc (v := (y2 + (1 : Int32))) (lv' := [(3, .int (y2 + (1 : Int32))), (2, .int y1), (0, .ref A_x), (1, .int p1)]) hx hb dX5_used_49 hl (k := 3) rfl rfl (by decide) rfl (fun ls hl => ?_)
            refine lv_goto (tgt := 4) hx hb dX5_used_52 (by decide) ?_
            cases hm
            exact ih _ _ hy _ (lv_sub hl [2, 3, 1, 0] rfl)
          · have hm := g_t c9 hm
            refine lv_iload_n hx hb dX5_used_37 rfl (lv_at hl 2 rfl) ?_
            refine lv_aload_n hx hb dX5_used_38 rfl (lv_at hl 0 rfl) ?_
            refine lv_iload_n hx hb dX5_used_39 rfl (lv_at hl 3 rfl) ?_
            obtain ⟨x10, ex, hm⟩ := g_bind hm
            refine vp_callSi (W.runV (As := [.int y2]) (rest := [.int y1]) ⟨hx, hb, hml, hown, hts⟩ (k_X5_blocks l dC dI A_x A_da A_ma A_ha A_ho A_ti A_be A_te A_ch K_da K_ma K_ha K_ho K_ti K_be K_te K_ch c_da c_ma c_ha c_ho c_ti c_be c_te c_ch c_up c_fu c_tm c_tc y2 _ ex) (cwV 1 hts gX5_used_X5_blocks rfl rfl rfl (by decide +kernel) ⟨Nat.le_of_ble_eq_true rfl, Nat.le_of_ble_eq_true rfl⟩) ⟨w_blR, va_recv hK hP (ci := 3) (q0 := 0) rfl rfl, fun U hU hW => ⟨rfl, by rw [hU]; exact hP.sub [0, 1, 2, 3, 4, 5, 6, 7, 8] rfl, va_K.moved hW.alike (hK.sub [0, 1, 2, 3, 4, 5, 6, 7] rfl)⟩⟩ rfl rfl hl.1 rfl (lv_room (Nat.le_of_ble_eq_true rfl)) dX5_used_40 ⟨Nat.zero_le _, Nat.zero_le _⟩) (fun _ ey => ?_)
            subst ey
            refine lv_iadd hx hb dX5_used_43 ?_
            refine lv_goto (tgt := 48) hx hb dX5_used_44 (by decide) ?_
            refine lv_istore_n (lv' := [(2, .int (y1 + x10)), (0, .ref A_x), (1, .int p1), (3, .int y2)]) hx hb dX5_used_48 rfl hl (by decide) rfl (fun ls hl => ?_)
            refine lv_iinc (v := (y2 + (1 : Int32))) (lv' := [(3, .int (y2 + (1 : Int32))), (2, .int (y1 + x10)), (0, .ref A_x), (1, .int p1)]) hx hb dX5_used_49 hl (k := 3) rfl rfl (by decide) rfl (fun ls hl => ?_)
            refine lv_goto (tgt := 4) hx hb dX5_used_52 (by decide) ?_
            cases hm
            exact ih _ _ hy _ (lv_sub hl [2, 3, 1, 0] rfl)
  exact hL4 _ _ _ hlp _ (lv_sub hl [2, 3, 1, 0] rfl)
theorem hi_X5_slotOf_X5 : ∀ w ∈ wsX50, w ∈ wsX5_slotOf := by decide +kernel
theorem hk_X5_slotOf_13 : Cond.fieldLink RX5 13 "BuddyFilesModel" "mem" "[I" ∈ wsX5_slotOf := by decide +kernel
abbrev rm_X5_slotOf : Room := { frames := 0, cells := 0, slots := 0, locals := 0 }
set_option maxHeartbeats 4000000 in
set_option maxRecDepth 100000 in
theorem k_X5_slotOf (l : Launch) (dC : Nat → ClassId) (dI : Nat → Nat → Nat) (A_x A_da A_ma A_ha A_ho A_ti A_be A_te A_ch : Nat) (K_da K_ma K_ha K_ho K_ti K_be K_te K_ch : ClassId) (c_da c_ma c_ha c_ho c_ti c_be c_te c_ch : Nat → Int32) (c_up c_fu c_tm c_tc : Int32) (p1 : Int32) (r0 : Int32) (hm : m_X5_slotOf c_ma p1 = some r0) : Met l yX5_slotOf wsX5_slotOf rm_X5_slotOf (va_Pc [.ref A_x, .int p1] (fun U => va_P (dC, dI) vwCl (wM A_x A_da A_ma A_ha A_ho A_ti A_be A_te A_ch K_da K_ma K_ha K_ho K_ti K_be K_te K_ch c_da c_ma c_ha c_ho c_ti c_be c_te c_ch c_up c_fu c_tm c_tc) U.heap ∧ va_K (dC, dI) vwCl (tM K_da K_ma K_ha K_ho K_ti K_be K_te K_ch) U)) (vp_Si (fun r => r0 = r)) 0 0 (fun _ => False) := by
  refine Met.ofW (cc := cX5_slotOf) (maxL := 3) (ret := (some .int)) (by decide) rfl ?_
  intro p e s m args below meth c s₁ B hml hv
  obtain ⟨rfl, hP, hK⟩ := hv
  have hx := B.exec
  have hb := B.bytes
  have hr := B.returns
  have hts := atoms_spec (ws := wsX5_slotOf) B.pre
  have hown : s.vm.findClass RX5 = some m.cls := findClass_of_methodNamed B.named
  have hlocks := B.notSynchronized
  have hl := lv_entry ([.ref A_x, .int p1]) (n := 3) (Nat.le_of_ble_eq_true rfl)
  rw [lg_entry_eq]
  generalize (lg_sl ([.ref A_x, .int p1]) ++ List.replicate (3 - (lg_sl ([.ref A_x, .int p1])).length) Slot.unset).toArray = ls at hl ⊢
  have hl : lv_has ls 3 [(0, .ref A_x), (1, .int p1)] := hl
  refine w_name (fun Q hQ => ?_)
  unfold m_X5_slotOf at hm
  refine lv_iconst (v := 0) hx hb dX5_slotOf_0 (by decide) ?_
  refine lv_istore_n (lv' := [(2, .int (0 : Int32)), (0, .ref A_x), (1, .int p1)]) hx hb dX5_slotOf_1 rfl hl (by decide) rfl (fun ls hl => ?_)
  obtain ⟨rl2, hlp, hm⟩ := g_bind hm
  have hE2 : Sum.inr () = rl2 → ∀ (ls : Array Slot), lv_has ls 3 [] → W p l e (headSpec wsX5_slotOf rm_X5_slotOf).room s m (([.ref A_x, .int p1] : List Value).toArray) below meth c s.heap [] 0 0 Q (F0 m 33 ls []) := by
    intro  hq ls hl
    subst hq
    have hm := g_sk_r hm
    have hm := g_k0_s hm
    refine lv_iconst (v := -1) hx hb dX5_slotOf_33 (by decide) ?_
    cases hm
    subst hQ
    exact W.iret hx hb hr (fun t ht hW => ⟨_, rfl, rfl, ht⟩) (fun _ h => nomatch h) dX5_slotOf_34
  have hV2 : ∀ v, Sum.inl v = rl2 → v = r0 := by
    intro v hq
    subst hq
    have hm := g_sk_l hm
    exact Option.some.inj hm
  have hL2 : ∀ (n : Nat) (y1 : Int32), g_loop (fun q => m_X5_slotOf_L2 p1 c_ma q) n y1 = some rl2 → ∀ (ls : Array Slot), lv_has ls 3 [(0, .ref A_x), (1, .int p1), (2, .int y1)] → W p l e (headSpec wsX5_slotOf rm_X5_slotOf).room s m (([.ref A_x, .int p1] : List Value).toArray) below meth c s.heap [] 0 0 Q (F0 m 2 ls []) := by
    intro n
    induction n with
    | zero =>
      intro y1 hm
      exact g_loop_z hm
    | succ n ih =>
      intro y1 hm ls hl
      obtain ⟨q, hm, hy⟩ := g_loop_s hm
      have hm : m_X5_slotOf_L2 p1 c_ma y1 = some q := hm
      unfold m_X5_slotOf_L2 at hm
      refine lv_iload_n hx hb dX5_slotOf_2 rfl (lv_at hl 2 rfl) ?_
      refine lv_bipush (v := 6) hx hb dX5_slotOf_3 (by decide) ?_
      refine lv_icmp_ge (tgt := 33) hx hb dX5_slotOf_5 (by decide) (fun c3 => ?_) (fun c3 => ?_)
      · have hm := g_t c3 hm
        cases hm
        exact hE2 hy _ (lv_sub hl [] rfl)
      · have hm := g_f c3 hm
        refine lv_iload_n hx hb dX5_slotOf_8 rfl (lv_at hl 1 rfl) ?_
        refine lv_if_le (tgt := 27) hx hb dX5_slotOf_9 (by decide) (fun c4 => ?_) (fun c4 => ?_)
        · have hm := g_t c4 hm
          refine lv_iinc (v := (y1 + (1 : Int32))) (lv' := [(2, .int (y1 + (1 : Int32))), (0, .ref A_x), (1, .int p1)]) hx hb dX5_slotOf_27 hl (k := 2) rfl rfl (by decide) rfl (fun ls hl => ?_)
          refine lv_goto (tgt := 2) hx hb dX5_slotOf_30 (by decide) ?_
          cases hm
          exact ih _ hy _ (lv_sub hl [1, 2, 0] rfl)
        · have hm := g_f c4 hm
          refine lv_aload_n hx hb dX5_slotOf_12 rfl (lv_at hl 0 rfl) ?_
          refine va_get (D := (dC, dI)) (ci := 3) (v := .ref A_ma) (C := RX5) (T := TX5) (N := 12) hx hb hts hi_X5_slotOf_X5 hown hK hP 0 rfl rfl 3 (by decide) (hts (Cond.fieldLink RX5 13 "BuddyFilesModel" "mem" "[I") hk_X5_slotOf_13) (fun _ h9 => h9) rfl dX5_slotOf_13 ?_
          refine lv_bipush (v := 7) hx hb dX5_slotOf_16 (by decide) ?_
          refine lv_iload_n hx hb dX5_slotOf_18 rfl (lv_at hl 2 rfl) ?_
          refine lv_imul hx hb dX5_slotOf_19 ?_
          obtain ⟨x5, ex, hm⟩ := g_bind hm
          refine w_ald hx hb hK hP 2 1 rfl rfl ex dX5_slotOf_20 ?_
          refine lv_iload_n hx hb dX5_slotOf_21 rfl (lv_at hl 1 rfl) ?_
          refine lv_icmp_ne (tgt := 27) hx hb dX5_slotOf_22 (by decide) (fun c6 => ?_) (fun c6 => ?_)
          · have hm := g_f c6 hm
            refine lv_iinc (v := (y1 + (1 : Int32))) (lv' := [(2, .int (y1 + (1 : Int32))), (0, .ref A_x), (1, .int p1)]) hx hb dX5_slotOf_27 hl (k := 2) rfl rfl (by decide) rfl (fun ls hl => ?_)
            refine lv_goto (tgt := 2) hx hb dX5_slotOf_30 (by decide) ?_
            cases hm
            exact ih _ hy _ (lv_sub hl [1, 2, 0] rfl)
          · have hm := g_t c6 hm
            refine lv_iload_n hx hb dX5_slotOf_25 rfl (lv_at hl 2 rfl) ?_
            cases hm
            have hq := hV2 _ hy
            cases hq
            subst hQ
            exact W.iret hx hb hr (fun t ht hW => ⟨_, rfl, rfl, ht⟩) (fun _ h => nomatch h) dX5_slotOf_26
  exact hL2 _ _ hlp _ (lv_sub hl [1, 2, 0] rfl)
abbrev rm_X5_wordCell : Room := { frames := 2, cells := 0, slots := 0, locals := 40 }
set_option maxHeartbeats 4000000 in
set_option maxRecDepth 100000 in
theorem k_X5_wordCell (l : Launch) (dC : Nat → ClassId) (dI : Nat → Nat → Nat) (A_x A_da A_ma A_ha A_ho A_ti A_be A_te A_ch : Nat) (K_da K_ma K_ha K_ho K_ti K_be K_te K_ch : ClassId) (c_da c_ma c_ha c_ho c_ti c_be c_te c_ch : Nat → Int32) (c_up c_fu c_tm c_tc : Int32) (p1 : Int32) (p2 : Int32) (r0 : Int32) (hm : m_X5_wordCell c_ma p1 p2 = some r0) : Met l yX5_wordCell wsX5_wordCell rm_X5_wordCell (va_Pc [.ref A_x, .int p1, .int p2] (fun U => va_P (dC, dI) vwCl (wM A_x A_da A_ma A_ha A_ho A_ti A_be A_te A_ch K_da K_ma K_ha K_ho K_ti K_be K_te K_ch c_da c_ma c_ha c_ho c_ti c_be c_te c_ch c_up c_fu c_tm c_tc) U.heap ∧ va_K (dC, dI) vwCl (tM K_da K_ma K_ha K_ho K_ti K_be K_te K_ch) U)) (vp_Si (fun r => r0 = r)) 0 0 (fun _ => False) := by
  refine Met.ofW (cc := cX5_wordCell) (maxL := 7) (ret := (some .int)) (by decide) rfl ?_
  intro p e s m args below meth c s₁ B hml hv
  obtain ⟨rfl, hP, hK⟩ := hv
  have hx := B.exec
  have hb := B.bytes
  have hr := B.returns
  have hts := atoms_spec (ws := wsX5_wordCell) B.pre
  have hown : s.vm.findClass RX5 = some m.cls := findClass_of_methodNamed B.named
  have hlocks := B.notSynchronized
  have hl := lv_entry ([.ref A_x, .int p1, .int p2]) (n := 7) (Nat.le_of_ble_eq_true rfl)
  rw [lg_entry_eq]
  generalize (lg_sl ([.ref A_x, .int p1, .int p2]) ++ List.replicate (7 - (lg_sl ([.ref A_x, .int p1, .int p2])).length) Slot.unset).toArray = ls at hl ⊢
  have hl : lv_has ls 7 [(0, .ref A_x), (1, .int p1), (2, .int p2)] := hl
  refine w_name (fun Q hQ => ?_)
  unfold m_X5_wordCell at hm
  refine lv_iload_n hx hb dX5_wordCell_0 rfl (lv_at hl 2 rfl) ?_
  refine lv_istore_n (lv' := [(3, .int p2), (0, .ref A_x), (1, .int p1), (2, .int p2)]) hx hb dX5_wordCell_1 rfl hl (by decide) rfl (fun ls hl => ?_)
  refine lv_iconst (v := 0) hx hb dX5_wordCell_2 (by decide) ?_
  refine lv_istore (lv' := [(4, .int (0 : Int32)), (3, .int p2), (0, .ref A_x), (1, .int p1), (2, .int p2)]) hx hb dX5_wordCell_3 hl (by decide) rfl (fun ls hl => ?_)
  obtain ⟨rl3, hlp, hm⟩ := g_bind hm
  have hE3 : Sum.inr () = rl3 → ∀ (ls : Array Slot), lv_has ls 7 [] → W p l e (headSpec wsX5_wordCell rm_X5_wordCell).room s m (([.ref A_x, .int p1, .int p2] : List Value).toArray) below meth c s.heap [] 0 0 Q (F0 m 59 ls []) := by
    intro  hq ls hl
    subst hq
    have hm := g_sk_r hm
    have hm := g_k0_s hm
    refine lv_bipush (v := 46) hx hb dX5_wordCell_59 (by decide) ?_
    cases hm
    subst hQ
    exact W.iret hx hb hr (fun t ht hW => ⟨_, rfl, rfl, ht⟩) (fun _ h => nomatch h) dX5_wordCell_61
  have hV3 : ∀ v, Sum.inl v = rl3 → v = r0 := by
    intro v hq
    subst hq
    have hm := g_sk_l hm
    exact Option.some.inj hm
  have hL3 : ∀ (n : Nat) (y1 : Int32) (y2 : Int32), g_loop (fun q => m_X5_wordCell_L5 p1 c_ma q.1 q.2) n (y1, y2) = some rl3 → ∀ (ls : Array Slot), lv_has ls 7 [(0, .ref A_x), (1, .int p1), (3, .int y1), (4, .int y2)] → W p l e (headSpec wsX5_wordCell rm_X5_wordCell).room s m (([.ref A_x, .int p1, .int p2] : List Value).toArray) below meth c s.heap [] 0 0 Q (F0 m 5 ls []) := by
    intro n
    induction n with
    | zero =>
      intro y1 y2 hm
      exact g_loop_z hm
    | succ n ih =>
      intro y1 y2 hm ls hl
      obtain ⟨q, hm, hy⟩ := g_loop_s hm
      have hm : m_X5_wordCell_L5 p1 c_ma y1 y2 = some q := hm
      unfold m_X5_wordCell_L5 at hm
      refine lv_iload hx hb dX5_wordCell_5 (lv_at hl 3 rfl) ?_
      refine lv_iconst (v := 4) hx hb dX5_wordCell_7 (by decide) ?_
      refine lv_icmp_ge (tgt := 59) hx hb dX5_wordCell_8 (by decide) (fun c4 => ?_) (fun c4 => ?_)
      · have hm := g_t c4 hm
        cases hm
        exact hE3 hy _ (lv_sub hl [] rfl)
      · have hm := g_f c4 hm
        refine lv_aload_n hx hb dX5_wordCell_11 rfl (lv_at hl 0 rfl) ?_
        refine lv_iload_n hx hb dX5_wordCell_12 rfl (lv_at hl 1 rfl) ?_
        refine lv_iload hx hb dX5_wordCell_13 (lv_at hl 3 rfl) ?_
        obtain ⟨x5, ex, hm⟩ := g_bind hm
        refine vp_callSi (W.runV (As := [.int p1, .int y2]) (rest := []) ⟨hx, hb, hml, hown, hts⟩ (k_X5_extentOf l dC dI A_x A_da A_ma A_ha A_ho A_ti A_be A_te A_ch K_da K_ma K_ha K_ho K_ti K_be K_te K_ch c_da c_ma c_ha c_ho c_ti c_be c_te c_ch c_up c_fu c_tm c_tc p1 y2 _ ex) (cwV 2 hts gX5_wordCell_X5_extentOf rfl rfl rfl (by decide +kernel) ⟨Nat.le_of_ble_eq_true rfl, Nat.le_of_ble_eq_true rfl⟩) ⟨w_blR, va_recv hK hP (ci := 3) (q0 := 0) rfl rfl, fun U hU hW => ⟨rfl, by rw [hU]; exact hP.sub [0, 1, 2, 3, 4, 5, 6, 7, 8] rfl, va_K.moved hW.alike (hK.sub [0, 1, 2, 3, 4, 5, 6, 7] rfl)⟩⟩ rfl rfl hl.1 rfl (lv_room (Nat.le_of_ble_eq_true rfl)) dX5_wordCell_15 ⟨Nat.zero_le _, Nat.zero_le _⟩) (fun _ ey => ?_)
        subst ey
        refine lv_istore (lv' := [(5, .int x5), (0, .ref A_x), (1, .int p1), (3, .int y1), (4, .int y2)]) hx hb dX5_wordCell_18 hl (by decide) rfl (fun ls hl => ?_)
        refine lv_iconst (v := 2) hx hb dX5_wordCell_20 (by decide) ?_
        refine lv_iload hx hb dX5_wordCell_21 (lv_at hl 0 rfl) ?_
        obtain ⟨x6, ex, hm⟩ := g_bind hm
        refine vp_callSi (W.runS (As := [.int x5]) (rest := [.int (2 : Int32)]) ⟨hx, hb, hml, hown, hts⟩ (k_X5_size l  x5 _ ex) (va_cwS 1 hts gX5_wordCell_X5_size rfl rfl rfl (by decide +kernel) ⟨Nat.le_of_ble_eq_true rfl, Nat.le_of_ble_eq_true rfl⟩) ⟨w_bl0, fun U hU hW => ⟨rfl, trivial⟩⟩ rfl rfl hl.1 rfl (lv_room (Nat.le_of_ble_eq_true rfl)) dX5_wordCell_23 ⟨Nat.zero_le _, Nat.zero_le _⟩) (fun _ ey => ?_)
        subst ey
        refine lv_imul hx hb dX5_wordCell_26 ?_
        refine lv_istore (lv' := [(6, .int ((2 : Int32) * x6)), (5, .int x5), (0, .ref A_x), (1, .int p1), (3, .int y1), (4, .int y2)]) hx hb dX5_wordCell_27 hl (by decide) rfl (fun ls hl => ?_)
        refine lv_iload_n hx hb dX5_wordCell_29 rfl (lv_at hl 4 rfl) ?_
        refine lv_iload hx hb dX5_wordCell_30 (lv_at hl 0 rfl) ?_
        refine lv_icmp_ge (tgt := 48) hx hb dX5_wordCell_32 (by decide) (fun c7 => ?_) (fun c7 => ?_)
        · have hm := g_t c7 hm
          refine lv_iload_n hx hb dX5_wordCell_48 rfl (lv_at hl 4 rfl) ?_
          refine lv_iload hx hb dX5_wordCell_49 (lv_at hl 0 rfl) ?_
          refine lv_isub hx hb dX5_wordCell_51 ?_
          refine lv_istore_n (lv' := [(3, .int (y1 - ((2 : Int32) * x6))), (6, .int ((2 : Int32) * x6)), (5, .int x5), (0, .ref A_x), (1, .int p1), (4, .int y2)]) hx hb dX5_wordCell_52 rfl hl (by decide) rfl (fun ls hl => ?_)
          refine lv_iinc (v := (y2 + (1 : Int32))) (lv' := [(4, .int (y2 + (1 : Int32))), (3, .int (y1 - ((2 : Int32) * x6))), (6, .int ((2 : Int32) * x6)), (5, .int x5), (0, .ref A_x), (1, .int p1)]) hx hb dX5_wordCell_53 hl (k := 5) rfl rfl (by decide) rfl (fun ls hl => ?_)
          refine lv_goto (tgt := 5) hx hb dX5_wordCell_56 (by decide) ?_
          cases hm
          exact ih _ _ hy _ (lv_sub hl [4, 5, 1, 0] rfl)
        · have hm := g_f c7 hm
          refine lv_bipush (v := 46) hx hb dX5_wordCell_35 (by decide) ?_
          refine lv_iconst (v := 2) hx hb dX5_wordCell_37 (by decide) ?_
          refine lv_iload hx hb dX5_wordCell_38 (lv_at hl 1 rfl) ?_
          obtain ⟨x8, ex, hm⟩ := g_bind hm
          refine vp_callSi (W.runS (As := [.int x5]) (rest := [.int (2 : Int32), .int (46 : Int32)]) ⟨hx, hb, hml, hown, hts⟩ (k_X5_start l  x5 _ ex) (va_cwS 1 hts gX5_wordCell_X5_start rfl rfl rfl (by decide +kernel) ⟨Nat.le_of_ble_eq_true rfl, Nat.le_of_ble_eq_true rfl⟩) ⟨w_bl0, fun U hU hW => ⟨rfl, trivial⟩⟩ rfl rfl hl.1 rfl (lv_room (Nat.le_of_ble_eq_true rfl)) dX5_wordCell_40 ⟨Nat.zero_le _, Nat.zero_le _⟩) (fun _ ey => ?_)
          subst ey
          refine lv_imul hx hb dX5_wordCell_43 ?_
          refine lv_iadd hx hb dX5_wordCell_44 ?_
          refine lv_iload_n hx hb dX5_wordCell_45 rfl (lv_at hl 4 rfl) ?_
          refine lv_iadd hx hb dX5_wordCell_46 ?_
          cases hm
          have hq := hV3 _ hy
          cases hq
          subst hQ
          exact W.iret hx hb hr (fun t ht hW => ⟨_, rfl, rfl, ht⟩) (fun _ h => nomatch h) dX5_wordCell_47
  exact hL3 _ _ _ hlp _ (lv_sub hl [2, 3, 1, 0] rfl)
theorem hi_X5_tryGrow_X5 : ∀ w ∈ wsX50, w ∈ wsX5_tryGrow := by decide +kernel
theorem hk_X5_tryGrow_13 : Cond.fieldLink RX5 13 "BuddyFilesModel" "mem" "[I" ∈ wsX5_tryGrow := by decide +kernel
theorem hk_X5_tryGrow_73 : Cond.fieldLink RX5 73 "BuddyFilesModel" "tryMap" "I" ∈ wsX5_tryGrow := by decide +kernel
theorem hk_X5_tryGrow_79 : Cond.fieldLink RX5 79 "BuddyFilesModel" "tryCount" "I" ∈ wsX5_tryGrow := by decide +kernel
theorem hk_X5_tryGrow_29 : Cond.fieldLink RX5 29 "BuddyFilesModel" "tryExtent" "[I" ∈ wsX5_tryGrow := by decide +kernel
abbrev rm_X5_tryGrow : Room := { frames := 4, cells := 0, slots := 0, locals := 86 }
set_option maxHeartbeats 4000000 in
set_option maxRecDepth 100000 in
theorem k_X5_tryGrow (l : Launch) (dC : Nat → ClassId) (dI : Nat → Nat → Nat) (A_x A_da A_ma A_ha A_ho A_ti A_be A_te A_ch : Nat) (K_da K_ma K_ha K_ho K_ti K_be K_te K_ch : ClassId) (c_da c_ma c_ha c_ho c_ti c_be c_te c_ch : Nat → Int32) (c_up c_fu c_tm c_tc : Int32) (sz : Nat) (p1 : Int32) (p2 : Int32) (r0 : Int32) (o_te : (Nat → Int32)) (o_tm : Int32) (o_tc : Int32) (hm : m_X5_tryGrow c_ma c_te c_tm c_tc p1 p2 = some (r0, o_te, o_tm, o_tc)) : Met l yX5_tryGrow wsX5_tryGrow rm_X5_tryGrow (va_Pc [.ref A_x, .int p1, .int p2] (fun U => U.heap.size = sz ∧ va_P (dC, dI) vwCl (wM A_x A_da A_ma A_ha A_ho A_ti A_be A_te A_ch K_da K_ma K_ha K_ho K_ti K_be K_te K_ch c_da c_ma c_ha c_ho c_ti c_be c_te c_ch c_up c_fu c_tm c_tc) U.heap ∧ va_K (dC, dI) vwCl (tM K_da K_ma K_ha K_ho K_ti K_be K_te K_ch) U ∧ va_D (fun _ => True) (wM A_x A_da A_ma A_ha A_ho A_ti A_be A_te A_ch K_da K_ma K_ha K_ho K_ti K_be K_te K_ch c_da c_ma c_ha c_ho c_ti c_be c_te c_ch c_up c_fu c_tm c_tc))) (va_Qi (fun (r : Int32) (_ : Unit) => r0 = r) (fun _ t => va_P (dC, dI) vwCl (wM A_x A_da A_ma A_ha A_ho A_ti A_be A_te A_ch K_da K_ma K_ha K_ho K_ti K_be K_te K_ch c_da c_ma c_ha c_ho c_ti c_be o_te c_ch c_up c_fu o_tm o_tc) t.heap ∧ va_D (va_A (wM A_x A_da A_ma A_ha A_ho A_ti A_be A_te A_ch K_da K_ma K_ha K_ho K_ti K_be K_te K_ch c_da c_ma c_ha c_ho c_ti c_be c_te c_ch c_up c_fu c_tm c_tc) sz) (wM A_x A_da A_ma A_ha A_ho A_ti A_be A_te A_ch K_da K_ma K_ha K_ho K_ti K_be K_te K_ch c_da c_ma c_ha c_ho c_ti c_be o_te c_ch c_up c_fu o_tm o_tc)) (va_A (wM A_x A_da A_ma A_ha A_ho A_ti A_be A_te A_ch K_da K_ma K_ha K_ho K_ti K_be K_te K_ch c_da c_ma c_ha c_ho c_ti c_be c_te c_ch c_up c_fu c_tm c_tc) sz)) 0 0 (va_A (wM A_x A_da A_ma A_ha A_ho A_ti A_be A_te A_ch K_da K_ma K_ha K_ho K_ti K_be K_te K_ch c_da c_ma c_ha c_ho c_ti c_be c_te c_ch c_up c_fu c_tm c_tc) sz) := by
  refine Met.ofW (cc := cX5_tryGrow) (maxL := 7) (ret := (some .int)) (by decide) rfl ?_
  intro p e s m args below meth c s₁ B hml hv
  obtain ⟨rfl, hsz, hP, hK, hD0⟩ := hv
  have hx := B.exec
  have hb := B.bytes
  have hr := B.returns
  have hts := atoms_spec (ws := wsX5_tryGrow) B.pre
  have hown : s.vm.findClass RX5 = some m.cls := findClass_of_methodNamed B.named
  have hlocks := B.notSynchronized
  subst hsz
  have hD := hD0.self (sz := s.heap.size)
  generalize hAe : va_A (wM A_x A_da A_ma A_ha A_ho A_ti A_be A_te A_ch K_da K_ma K_ha K_ho K_ti K_be K_te K_ch c_da c_ma c_ha c_ho c_ti c_be c_te c_ch c_up c_fu c_tm c_tc) s.heap.size = A at hD ⊢
  have hA : ∀ q : Nat, s.heap.size ≤ q → A q := fun q h => by rw [← hAe]; exact Or.inr h
  have hS : va_S A s.heap s.heap [] := va_S.rf
  have hP : va_P (dC, dI) vwCl (wM A_x A_da A_ma A_ha A_ho A_ti A_be A_te A_ch K_da K_ma K_ha K_ho K_ti K_be K_te K_ch c_da c_ma c_ha c_ho c_ti c_be c_te c_ch c_up c_fu c_tm c_tc) s.heap := hP
  have hl := lv_entry ([.ref A_x, .int p1, .int p2]) (n := 7) (Nat.le_of_ble_eq_true rfl)
  rw [lg_entry_eq]
  generalize (lg_sl ([.ref A_x, .int p1, .int p2]) ++ List.replicate (7 - (lg_sl ([.ref A_x, .int p1, .int p2])).length) Slot.unset).toArray = ls at hl ⊢
  have hl : lv_has ls 7 [(0, .ref A_x), (1, .int p1), (2, .int p2)] := hl
  refine w_name (fun Q hQ => ?_)
  unfold m_X5_tryGrow at hm
  refine lv_iload_n hx hb dX5_tryGrow_0 rfl (lv_at hl 2 rfl) ?_
  refine lv_iconst (v := 1) hx hb dX5_tryGrow_1 (by decide) ?_
  refine lv_iadd hx hb dX5_tryGrow_2 ?_
  refine lv_iconst (v := 2) hx hb dX5_tryGrow_3 (by decide) ?_
  refine lv_idiv hx hb dX5_tryGrow_4 (by decide) ?_
  refine lv_istore_n (lv' := [(3, .int ((p2 + (1 : Int32)) / (2 : Int32))), (0, .ref A_x), (1, .int p1), (2, .int p2)]) hx hb dX5_tryGrow_5 rfl hl (by decide) rfl (fun ls hl => ?_)
  refine lv_aload_n hx hb dX5_tryGrow_6 rfl (lv_at hl 1 rfl) ?_
  refine lv_iload_n hx hb dX5_tryGrow_7 rfl (lv_at hl 2 rfl) ?_
  obtain ⟨x1, ex, hm⟩ := g_bind hm
  refine vp_callSi (W.runV (As := [.int p1]) (rest := []) ⟨hx, hb, hml, hown, hts⟩ (k_X5_blocks l dC dI A_x A_da A_ma A_ha A_ho A_ti A_be A_te A_ch K_da K_ma K_ha K_ho K_ti K_be K_te K_ch c_da c_ma c_ha c_ho c_ti c_be c_te c_ch c_up c_fu c_tm c_tc p1 _ ex) (cwV 1 hts gX5_tryGrow_X5_blocks rfl rfl rfl (by decide +kernel) ⟨Nat.le_of_ble_eq_true rfl, Nat.le_of_ble_eq_true rfl⟩) ⟨w_blR, va_recv hK hP (ci := 3) (q0 := 0) rfl rfl, fun U hU hW => ⟨rfl, by rw [hU]; exact hP.sub [0, 1, 2, 3, 4, 5, 6, 7, 8] rfl, va_K.moved hW.alike (hK.sub [0, 1, 2, 3, 4, 5, 6, 7] rfl)⟩⟩ rfl rfl hl.1 rfl (lv_room (Nat.le_of_ble_eq_true rfl)) dX5_tryGrow_8 ⟨Nat.zero_le _, Nat.zero_le _⟩) (fun _ ey => ?_)
  subst ey
  refine lv_istore (lv' := [(4, .int x1), (3, .int ((p2 + (1 : Int32)) / (2 : Int32))), (0, .ref A_x), (1, .int p1), (2, .int p2)]) hx hb dX5_tryGrow_11 hl (by decide) rfl (fun ls hl => ?_)
  refine lv_aload_n hx hb dX5_tryGrow_13 rfl (lv_at hl 2 rfl) ?_
  refine lv_aload_n hx hb dX5_tryGrow_14 rfl (lv_at hl 2 rfl) ?_
  refine va_get (D := (dC, dI)) (ci := 3) (v := .ref A_ma) (C := RX5) (T := TX5) (N := 12) hx hb hts hi_X5_tryGrow_X5 hown hK hP 0 rfl rfl 3 (by decide) (hts (Cond.fieldLink RX5 13 "BuddyFilesModel" "mem" "[I") hk_X5_tryGrow_13) (fun _ h9 => h9) rfl dX5_tryGrow_15 ?_
  refine lv_bipush (v := 45) hx hb dX5_tryGrow_18 (by decide) ?_
  obtain ⟨x2, ex, hm⟩ := g_bind hm
  refine w_ald hx hb hK hP 2 1 rfl rfl ex dX5_tryGrow_20 ?_
  refine va_put (D := (dC, dI)) (ci := 3) (v := .int x2) (ty := .int) (C := RX5) (T := TX5) (N := 12) hx hb hts hi_X5_tryGrow_X5 tyX5 tyX5_ok nmX5 hown hK hP hD hS 0 rfl rfl 8 (by decide) (hts (Cond.fieldLink RX5 73 "BuddyFilesModel" "tryMap" "I") hk_X5_tryGrow_73) (fun _ h9 => h9) rfl (by decide +kernel) rfl rfl (Nat.le_of_ble_eq_true rfl) dX5_tryGrow_21 (fun H3 locs3 hP hD hS => ?_)
  have hP : va_P (dC, dI) vwCl (wM A_x A_da A_ma A_ha A_ho A_ti A_be A_te A_ch K_da K_ma K_ha K_ho K_ti K_be K_te K_ch c_da c_ma c_ha c_ho c_ti c_be c_te c_ch c_up c_fu x2 c_tc) H3 := hP
  have hD : va_D A (wM A_x A_da A_ma A_ha A_ho A_ti A_be A_te A_ch K_da K_ma K_ha K_ho K_ti K_be K_te K_ch c_da c_ma c_ha c_ho c_ti c_be c_te c_ch c_up c_fu x2 c_tc) := hD
  refine lv_aload_n hx hb dX5_tryGrow_24 rfl (lv_at hl 2 rfl) ?_
  refine lv_aload_n hx hb dX5_tryGrow_25 rfl (lv_at hl 2 rfl) ?_
  refine lv_iload_n hx hb dX5_tryGrow_26 rfl (lv_at hl 3 rfl) ?_
  obtain ⟨x4, ex, hm⟩ := g_bind hm
  refine vp_callSi (W.runV (As := [.int p1]) (rest := [.ref A_x]) ⟨hx, hb, hml, hown, hts⟩ (k_X5_runs l dC dI A_x A_da A_ma A_ha A_ho A_ti A_be A_te A_ch K_da K_ma K_ha K_ho K_ti K_be K_te K_ch c_da c_ma c_ha c_ho c_ti c_be c_te c_ch c_up c_fu x2 c_tc p1 _ ex) (cwV 1 hts gX5_tryGrow_X5_runs rfl rfl rfl (by decide +kernel) ⟨Nat.le_of_ble_eq_true rfl, Nat.le_of_ble_eq_true rfl⟩) ⟨w_blR, va_recv hK hP (ci := 3) (q0 := 0) rfl rfl, fun U hU hW => ⟨rfl, by rw [hU]; exact hP.sub [0, 1, 2, 3, 4, 5, 6, 7, 8] rfl, va_K.moved hW.alike (hK.sub [0, 1, 2, 3, 4, 5, 6, 7] rfl)⟩⟩ rfl rfl hl.1 rfl (lv_room (Nat.le_of_ble_eq_true rfl)) dX5_tryGrow_27 ⟨Nat.zero_le _, Nat.zero_le _⟩) (fun _ ey => ?_)
  subst ey
  refine va_put (D := (dC, dI)) (ci := 3) (v := .int x4) (ty := .int) (C := RX5) (T := TX5) (N := 12) hx hb hts hi_X5_tryGrow_X5 tyX5 tyX5_ok nmX5 hown hK hP hD hS 0 rfl rfl 9 (by decide) (hts (Cond.fieldLink RX5 79 "BuddyFilesModel" "tryCount" "I") hk_X5_tryGrow_79) (fun _ h9 => h9) rfl (by decide +kernel) rfl rfl (Nat.le_of_ble_eq_true rfl) dX5_tryGrow_30 (fun H5 locs5 hP hD hS => ?_)
  have hP : va_P (dC, dI) vwCl (wM A_x A_da A_ma A_ha A_ho A_ti A_be A_te A_ch K_da K_ma K_ha K_ho K_ti K_be K_te K_ch c_da c_ma c_ha c_ho c_ti c_be c_te c_ch c_up c_fu x2 x4) H5 := hP
  have hD : va_D A (wM A_x A_da A_ma A_ha A_ho A_ti A_be A_te A_ch K_da K_ma K_ha K_ho K_ti K_be K_te K_ch c_da c_ma c_ha c_ho c_ti c_be c_te c_ch c_up c_fu x2 x4) := hD
  refine lv_iconst (v := 0) hx hb dX5_tryGrow_33 (by decide) ?_
  refine lv_istore (lv' := [(5, .int (0 : Int32)), (4, .int x1), (3, .int ((p2 + (1 : Int32)) / (2 : Int32))), (0, .ref A_x), (1, .int p1), (2, .int p2)]) hx hb dX5_tryGrow_34 hl (by decide) rfl (fun ls hl => ?_)
  obtain ⟨rl9, hlp, hm⟩ := g_bind hm
  have hE9 : ∀ (f8 : (Nat → Int32)), f8 = rl9 → ∀ (H9e : Heap) (locs9e : List Loc), va_P (dC, dI) vwCl (wM A_x A_da A_ma A_ha A_ho A_ti A_be A_te A_ch K_da K_ma K_ha K_ho K_ti K_be K_te K_ch c_da c_ma c_ha c_ho c_ti c_be f8 c_ch c_up c_fu x2 x4) H9e → va_D A (wM A_x A_da A_ma A_ha A_ho A_ti A_be A_te A_ch K_da K_ma K_ha K_ho K_ti K_be K_te K_ch c_da c_ma c_ha c_ho c_ti c_be f8 c_ch c_up c_fu x2 x4) → va_S A s.heap H9e locs9e → ∀ (ls : Array Slot), lv_has ls 7 [(0, .ref A_x), (1, .int p1), (3, .int ((p2 + (1 : Int32)) / (2 : Int32))), (4, .int x1)] → W p l e (headSpec wsX5_tryGrow rm_X5_tryGrow).room s m (([.ref A_x, .int p1, .int p2] : List Value).toArray) below meth c H9e locs9e 0 0 Q (F0 m 62 ls []) := by
    intro f8 hq H9e locs9e hP hD hS ls hl
    subst hq
    have hm := g_k1_s hm
    obtain ⟨rl22, hlp, hm⟩ := g_bind hm
    have hE22 : ∀ (z18 : Int32) (f19 : (Nat → Int32)) (f20 : Int32) (f21 : Int32), Sum.inr (z18, f19, f20, f21) = rl22 → ∀ (H22e : Heap) (locs22e : List Loc), va_P (dC, dI) vwCl (wM A_x A_da A_ma A_ha A_ho A_ti A_be A_te A_ch K_da K_ma K_ha K_ho K_ti K_be K_te K_ch c_da c_ma c_ha c_ho c_ti c_be f19 c_ch c_up c_fu f20 f21) H22e → va_D A (wM A_x A_da A_ma A_ha A_ho A_ti A_be A_te A_ch K_da K_ma K_ha K_ho K_ti K_be K_te K_ch c_da c_ma c_ha c_ho c_ti c_be f19 c_ch c_up c_fu f20 f21) → va_S A s.heap H22e locs22e → ∀ (ls : Array Slot), lv_has ls 7 [(0, .ref A_x), (1, .int p1), (4, .int z18)] → W p l e (headSpec wsX5_tryGrow rm_X5_tryGrow).room s m (([.ref A_x, .int p1, .int p2] : List Value).toArray) below meth c H22e locs22e 0 0 Q (F0 m 195 ls []) := by
      intro z18 f19 f20 f21 hq H22e locs22e hP hD hS ls hl
      subst hq
      have hm := g_sk_r hm
      have hm := g_k4_s hm
      refine lv_aload_n hx hb dX5_tryGrow_195 rfl (lv_at hl 0 rfl) ?_
      refine va_get (D := (dC, dI)) (ci := 3) (v := .ref A_ma) (C := RX5) (T := TX5) (N := 12) hx hb hts hi_X5_tryGrow_X5 hown hK hP 0 rfl rfl 3 (by decide) (hts (Cond.fieldLink RX5 13 "BuddyFilesModel" "mem" "[I") hk_X5_tryGrow_13) (fun _ h9 => h9) rfl dX5_tryGrow_196 ?_
      refine lv_bipush (v := 7) hx hb dX5_tryGrow_199 (by decide) ?_
      refine lv_iload_n hx hb dX5_tryGrow_201 rfl (lv_at hl 1 rfl) ?_
      refine lv_imul hx hb dX5_tryGrow_202 ?_
      refine lv_iconst (v := 1) hx hb dX5_tryGrow_203 (by decide) ?_
      refine lv_iadd hx hb dX5_tryGrow_204 ?_
      obtain ⟨x42, ex, hm⟩ := g_bind hm
      refine w_ald hx hb hK hP 2 1 rfl rfl ex dX5_tryGrow_205 ?_
      refine lv_istore (lv' := [(5, .int x42), (0, .ref A_x), (1, .int p1), (4, .int z18)]) hx hb dX5_tryGrow_206 hl (by decide) rfl (fun ls hl => ?_)
      refine lv_aload_n hx hb dX5_tryGrow_208 rfl (lv_at hl 1 rfl) ?_
      refine lv_iload hx hb dX5_tryGrow_209 (lv_at hl 0 rfl) ?_
      obtain ⟨x43, ex, hm⟩ := g_bind hm
      refine vp_callSi (W.runV (As := [.int x42]) (rest := []) ⟨hx, hb, hml, hown, hts⟩ (k_X5_used l dC dI A_x A_da A_ma A_ha A_ho A_ti A_be A_te A_ch K_da K_ma K_ha K_ho K_ti K_be K_te K_ch c_da c_ma c_ha c_ho c_ti c_be f19 c_ch c_up c_fu f20 f21 x42 _ ex) (cwV 1 hts gX5_tryGrow_X5_used rfl rfl rfl (by decide +kernel) ⟨Nat.le_of_ble_eq_true rfl, Nat.le_of_ble_eq_true rfl⟩) ⟨w_blR, va_recv hK hP (ci := 3) (q0 := 0) rfl rfl, fun U hU hW => ⟨rfl, by rw [hU]; exact hP.sub [0, 1, 2, 3, 4, 5, 6, 7, 8] rfl, va_K.moved hW.alike (hK.sub [0, 1, 2, 3, 4, 5, 6, 7] rfl)⟩⟩ rfl rfl hl.1 rfl (lv_room (Nat.le_of_ble_eq_true rfl)) dX5_tryGrow_211 ⟨Nat.zero_le _, Nat.zero_le _⟩) (fun _ ey => ?_)
      subst ey
      refine lv_aload_n hx hb dX5_tryGrow_214 rfl (lv_at hl 1 rfl) ?_
      refine lv_iload_n hx hb dX5_tryGrow_215 rfl (lv_at hl 2 rfl) ?_
      obtain ⟨x44, ex, hm⟩ := g_bind hm
      refine vp_callSi (W.runV (As := [.int p1]) (rest := [.int x43]) ⟨hx, hb, hml, hown, hts⟩ (k_X5_blocks l dC dI A_x A_da A_ma A_ha A_ho A_ti A_be A_te A_ch K_da K_ma K_ha K_ho K_ti K_be K_te K_ch c_da c_ma c_ha c_ho c_ti c_be f19 c_ch c_up c_fu f20 f21 p1 _ ex) (cwV 1 hts gX5_tryGrow_X5_blocks rfl rfl rfl (by decide +kernel) ⟨Nat.le_of_ble_eq_true rfl, Nat.le_of_ble_eq_true rfl⟩) ⟨w_blR, va_recv hK hP (ci := 3) (q0 := 0) rfl rfl, fun U hU hW => ⟨rfl, by rw [hU]; exact hP.sub [0, 1, 2, 3, 4, 5, 6, 7, 8] rfl, va_K.moved hW.alike (hK.sub [0, 1, 2, 3, 4, 5, 6, 7] rfl)⟩⟩ rfl rfl hl.1 rfl (lv_room (Nat.le_of_ble_eq_true rfl)) dX5_tryGrow_216 ⟨Nat.zero_le _, Nat.zero_le _⟩) (fun _ ey => ?_)
      subst ey
      refine lv_isub hx hb dX5_tryGrow_219 ?_
      refine lv_iload hx hb dX5_tryGrow_220 (lv_at hl 3 rfl) ?_
      refine lv_iadd hx hb dX5_tryGrow_222 ?_
      refine lv_aload_n hx hb dX5_tryGrow_223 rfl (lv_at hl 1 rfl) ?_
      refine va_get (D := (dC, dI)) (ci := 3) (v := .ref A_ma) (C := RX5) (T := TX5) (N := 12) hx hb hts hi_X5_tryGrow_X5 hown hK hP 0 rfl rfl 3 (by decide) (hts (Cond.fieldLink RX5 13 "BuddyFilesModel" "mem" "[I") hk_X5_tryGrow_13) (fun _ h9 => h9) rfl dX5_tryGrow_224 ?_
      refine lv_bipush (v := 42) hx hb dX5_tryGrow_227 (by decide) ?_
      refine lv_iload hx hb dX5_tryGrow_229 (lv_at hl 0 rfl) ?_
      refine lv_iadd hx hb dX5_tryGrow_231 ?_
      obtain ⟨x45, ex, hm⟩ := g_bind hm
      refine w_ald hx hb hK hP 2 1 rfl rfl ex dX5_tryGrow_232 ?_
      refine lv_icmp_le (tgt := 241) hx hb dX5_tryGrow_233 (by decide) (fun c46 => ?_) (fun c46 => ?_)
      · have hm := g_t c46 hm
        refine lv_iconst (v := 0) hx hb dX5_tryGrow_241 (by decide) ?_
        cases hm
        subst hQ
        exact W.iret hx hb hr (fun t ht hW => ⟨⟨_, (), rfl, rfl, by rw [ht]; exact hP, hD⟩, hS.F ht⟩) hS.2.2 dX5_tryGrow_242
      · have hm := g_f c46 hm
        refine lv_bipush (v := -9) hx hb dX5_tryGrow_236 (by decide) ?_
        refine lv_goto (tgt := 242) hx hb dX5_tryGrow_238 (by decide) ?_
        cases hm
        subst hQ
        exact W.iret hx hb hr (fun t ht hW => ⟨⟨_, (), rfl, rfl, by rw [ht]; exact hP, hD⟩, hS.F ht⟩) hS.2.2 dX5_tryGrow_242
    have hV22 : ∀ v, Sum.inl v = rl22 → v = (r0, o_te, o_tm, o_tc) := by
      intro v hq
      subst hq
      have hm := g_sk_l hm
      exact Option.some.inj hm
    have hL22 : ∀ (n : Nat) (y14 : Int32) (f15 : (Nat → Int32)) (f16 : Int32) (f17 : Int32), g_loop (fun q => m_X5_tryGrow_L62 p2 q.1 q.2.1 q.2.2.1 q.2.2.2) n (y14, f15, f16, f17) = some rl22 → ∀ (H22b : Heap) (locs22b : List Loc), va_P (dC, dI) vwCl (wM A_x A_da A_ma A_ha A_ho A_ti A_be A_te A_ch K_da K_ma K_ha K_ho K_ti K_be K_te K_ch c_da c_ma c_ha c_ho c_ti c_be f15 c_ch c_up c_fu f16 f17) H22b → va_D A (wM A_x A_da A_ma A_ha A_ho A_ti A_be A_te A_ch K_da K_ma K_ha K_ho K_ti K_be K_te K_ch c_da c_ma c_ha c_ho c_ti c_be f15 c_ch c_up c_fu f16 f17) → va_S A s.heap H22b locs22b → ∀ (ls : Array Slot), lv_has ls 7 [(0, .ref A_x), (1, .int p1), (3, .int ((p2 + (1 : Int32)) / (2 : Int32))), (4, .int y14)] → W p l e (headSpec wsX5_tryGrow rm_X5_tryGrow).room s m (([.ref A_x, .int p1, .int p2] : List Value).toArray) below meth c H22b locs22b 0 0 Q (F0 m 62 ls []) := by
      intro n
      induction n with
      | zero =>
        intro y14 f15 f16 f17 hm
        exact g_loop_z hm
      | succ n ih =>
        intro y14 f15 f16 f17 hm H22b locs22b hP hD hS ls hl
        obtain ⟨q, hm, hy⟩ := g_loop_s hm
        have hm : m_X5_tryGrow_L62 p2 y14 f15 f16 f17 = some q := hm
        unfold m_X5_tryGrow_L62 at hm
        refine lv_iload hx hb dX5_tryGrow_62 (lv_at hl 3 rfl) ?_
        refine lv_iload_n hx hb dX5_tryGrow_64 rfl (lv_at hl 2 rfl) ?_
        refine lv_icmp_ge (tgt := 195) hx hb dX5_tryGrow_65 (by decide) (fun c23 => ?_) (fun c23 => ?_)
        · have hm := g_t c23 hm
          cases hm
          exact hE22 _ _ _ _ hy _ _ hP hD hS _ (lv_sub hl [0, 1, 3] rfl)
        · have hm := g_f c23 hm
          refine lv_iconst (v := 0) hx hb dX5_tryGrow_68 (by decide) ?_
          refine lv_istore (lv' := [(5, .int (0 : Int32)), (0, .ref A_x), (1, .int p1), (3, .int ((p2 + (1 : Int32)) / (2 : Int32))), (4, .int y14)]) hx hb dX5_tryGrow_69 hl (by decide) rfl (fun ls hl => ?_)
          obtain ⟨rl26, hlp, hm⟩ := g_bind hm
          have hE26 : ∀ (z25 : Int32), z25 = rl26 → ∀ (H26e : Heap) (locs26e : List Loc), va_P (dC, dI) vwCl (wM A_x A_da A_ma A_ha A_ho A_ti A_be A_te A_ch K_da K_ma K_ha K_ho K_ti K_be K_te K_ch c_da c_ma c_ha c_ho c_ti c_be f15 c_ch c_up c_fu f16 f17) H26e → va_D A (wM A_x A_da A_ma A_ha A_ho A_ti A_be A_te A_ch K_da K_ma K_ha K_ho K_ti K_be K_te K_ch c_da c_ma c_ha c_ho c_ti c_be f15 c_ch c_up c_fu f16 f17) → va_S A s.heap H26e locs26e → ∀ (ls : Array Slot), lv_has ls 7 [(0, .ref A_x), (1, .int p1), (3, .int ((p2 + (1 : Int32)) / (2 : Int32))), (4, .int y14), (5, .int z25)] → W p l e (headSpec wsX5_tryGrow rm_X5_tryGrow).room s m (([.ref A_x, .int p1, .int p2] : List Value).toArray) below meth c H26e locs26e 0 0 Q (F0 m 88 ls []) := by
            intro z25 hq H26e locs26e hP hD hS ls hl
            subst hq
            have hm := g_k1_s hm
            obtain ⟨rl30, hlp, hm⟩ := g_bind hm
            have hE30 : ∀ (z29 : Int32), z29 = rl30 → ∀ (H30e : Heap) (locs30e : List Loc), va_P (dC, dI) vwCl (wM A_x A_da A_ma A_ha A_ho A_ti A_be A_te A_ch K_da K_ma K_ha K_ho K_ti K_be K_te K_ch c_da c_ma c_ha c_ho c_ti c_be f15 c_ch c_up c_fu f16 f17) H30e → va_D A (wM A_x A_da A_ma A_ha A_ho A_ti A_be A_te A_ch K_da K_ma K_ha K_ho K_ti K_be K_te K_ch c_da c_ma c_ha c_ho c_ti c_be f15 c_ch c_up c_fu f16 f17) → va_S A s.heap H30e locs30e → ∀ (ls : Array Slot), lv_has ls 7 [(0, .ref A_x), (1, .int p1), (3, .int ((p2 + (1 : Int32)) / (2 : Int32))), (4, .int y14), (5, .int z29)] → W p l e (headSpec wsX5_tryGrow rm_X5_tryGrow).room s m (([.ref A_x, .int p1, .int p2] : List Value).toArray) below meth c H30e locs30e 0 0 Q (F0 m 111 ls []) := by
              intro z29 hq H30e locs30e hP hD hS ls hl
              subst hq
              have hm := g_k1_s hm
              refine lv_aload_n hx hb dX5_tryGrow_111 rfl (lv_at hl 0 rfl) ?_
              refine va_get (D := (dC, dI)) (ci := 3) (v := .int f17) (C := RX5) (T := TX5) (N := 12) hx hb hts hi_X5_tryGrow_X5 hown hK hP 0 rfl rfl 9 (by decide) (hts (Cond.fieldLink RX5 79 "BuddyFilesModel" "tryCount" "I") hk_X5_tryGrow_79) (fun _ h9 => h9) rfl dX5_tryGrow_112 ?_
              refine lv_iconst (v := 4) hx hb dX5_tryGrow_115 (by decide) ?_
              refine lv_icmp_eq (tgt := 124) hx hb dX5_tryGrow_116 (by decide) (fun c34 => ?_) (fun c34 => ?_)
              · have hm := g_t c34 hm
                refine lv_bipush (v := -8) hx hb dX5_tryGrow_124 (by decide) ?_
                cases hm
                have hq := hV22 _ hy
                cases hq
                subst hQ
                exact W.iret hx hb hr (fun t ht hW => ⟨⟨_, (), rfl, rfl, by rw [ht]; exact hP, hD⟩, hS.F ht⟩) hS.2.2 dX5_tryGrow_126
              · have hm := g_f c34 hm
                refine lv_iload hx hb dX5_tryGrow_119 (lv_at hl 4 rfl) ?_
                refine lv_if_ge (tgt := 127) hx hb dX5_tryGrow_121 (by decide) (fun c35 => ?_) (fun c35 => ?_)
                · have hm := g_t c35 hm
                  refine lv_aload_n hx hb dX5_tryGrow_127 rfl (lv_at hl 0 rfl) ?_
                  refine va_get (D := (dC, dI)) (ci := 3) (v := .int f16) (C := RX5) (T := TX5) (N := 12) hx hb hts hi_X5_tryGrow_X5 hown hK hP 0 rfl rfl 8 (by decide) (hts (Cond.fieldLink RX5 73 "BuddyFilesModel" "tryMap" "I") hk_X5_tryGrow_73) (fun _ h9 => h9) rfl dX5_tryGrow_128 ?_
                  refine lv_iload hx hb dX5_tryGrow_131 (lv_at hl 4 rfl) ?_
                  obtain ⟨x36, ex, hm⟩ := g_bind hm
                  refine vp_callSi (W.runS (As := [.int f16, .int z29]) (rest := []) ⟨hx, hb, hml, hown, hts⟩ (k_X5_place l  f16 z29 _ ex) (va_cwS 2 hts gX5_tryGrow_X5_place rfl rfl rfl (by decide +kernel) ⟨Nat.le_of_ble_eq_true rfl, Nat.le_of_ble_eq_true rfl⟩) ⟨w_bl0, fun U hU hW => ⟨rfl, trivial⟩⟩ rfl rfl hl.1 rfl (lv_room (Nat.le_of_ble_eq_true rfl)) dX5_tryGrow_133 ⟨Nat.zero_le _, Nat.zero_le _⟩) (fun _ ey => ?_)
                  subst ey
                  refine lv_istore (lv' := [(6, .int x36), (0, .ref A_x), (1, .int p1), (3, .int ((p2 + (1 : Int32)) / (2 : Int32))), (4, .int y14), (5, .int z29)]) hx hb dX5_tryGrow_136 hl (by decide) rfl (fun ls hl => ?_)
                  refine lv_aload_n hx hb dX5_tryGrow_138 rfl (lv_at hl 1 rfl) ?_
                  refine va_get (D := (dC, dI)) (ci := 3) (v := .ref A_te) (C := RX5) (T := TX5) (N := 12) hx hb hts hi_X5_tryGrow_X5 hown hK hP 0 rfl rfl 10 (by decide) (hts (Cond.fieldLink RX5 29 "BuddyFilesModel" "tryExtent" "[I") hk_X5_tryGrow_29) (fun _ h9 => h9) rfl dX5_tryGrow_139 ?_
                  refine lv_aload_n hx hb dX5_tryGrow_142 rfl (lv_at hl 1 rfl) ?_
                  refine va_get (D := (dC, dI)) (ci := 3) (v := .int f17) (C := RX5) (T := TX5) (N := 12) hx hb hts hi_X5_tryGrow_X5 hown hK hP 0 rfl rfl 9 (by decide) (hts (Cond.fieldLink RX5 79 "BuddyFilesModel" "tryCount" "I") hk_X5_tryGrow_79) (fun _ h9 => h9) rfl dX5_tryGrow_143 ?_
                  refine lv_iconst (v := 1) hx hb dX5_tryGrow_146 (by decide) ?_
                  refine lv_iload hx hb dX5_tryGrow_147 (lv_at hl 0 rfl) ?_
                  refine lv_iadd hx hb dX5_tryGrow_149 ?_
                  refine lv_bipush (v := 32) hx hb dX5_tryGrow_150 (by decide) ?_
                  refine lv_iload hx hb dX5_tryGrow_152 (lv_at hl 5 rfl) ?_
                  refine lv_imul hx hb dX5_tryGrow_154 ?_
                  refine lv_iadd hx hb dX5_tryGrow_155 ?_
                  obtain ⟨f37, ex, hm⟩ := g_bind hm
                  refine w_ast hx hb hK hP hD hS 7 6 rfl rfl ex dX5_tryGrow_156 (fun H38 locs38 hP hD hS => ?_)
                  have hP : va_P (dC, dI) vwCl (wM A_x A_da A_ma A_ha A_ho A_ti A_be A_te A_ch K_da K_ma K_ha K_ho K_ti K_be K_te K_ch c_da c_ma c_ha c_ho c_ti c_be f37 c_ch c_up c_fu f16 f17) H38 := hP
                  have hD : va_D A (wM A_x A_da A_ma A_ha A_ho A_ti A_be A_te A_ch K_da K_ma K_ha K_ho K_ti K_be K_te K_ch c_da c_ma c_ha c_ho c_ti c_be f37 c_ch c_up c_fu f16 f17) := hD
                  refine lv_aload_n hx hb dX5_tryGrow_157 rfl (lv_at hl 1 rfl) ?_
                  refine lv_dup hx hb dX5_tryGrow_158 rfl ?_
                  refine va_get (D := (dC, dI)) (ci := 3) (v := .int f17) (C := RX5) (T := TX5) (N := 12) hx hb hts hi_X5_tryGrow_X5 hown hK hP 0 rfl rfl 9 (by decide) (hts (Cond.fieldLink RX5 79 "BuddyFilesModel" "tryCount" "I") hk_X5_tryGrow_79) (fun _ h9 => h9) rfl dX5_tryGrow_159 ?_
                  refine lv_iconst (v := 1) hx hb dX5_tryGrow_162 (by decide) ?_
                  refine lv_iadd hx hb dX5_tryGrow_163 ?_
                  refine va_put (D := (dC, dI)) (ci := 3) (v := .int (f17 + (1 : Int32))) (ty := .int) (C := RX5) (T := TX5) (N := 12) hx hb hts hi_X5_tryGrow_X5 tyX5 tyX5_ok nmX5 hown hK hP hD hS 0 rfl rfl 9 (by decide) (hts (Cond.fieldLink RX5 79 "BuddyFilesModel" "tryCount" "I") hk_X5_tryGrow_79) (fun _ h9 => h9) rfl (by decide +kernel) rfl rfl (Nat.le_of_ble_eq_true rfl) dX5_tryGrow_164 (fun H39 locs39 hP hD hS => ?_)
                  have hP : va_P (dC, dI) vwCl (wM A_x A_da A_ma A_ha A_ho A_ti A_be A_te A_ch K_da K_ma K_ha K_ho K_ti K_be K_te K_ch c_da c_ma c_ha c_ho c_ti c_be f37 c_ch c_up c_fu f16 (f17 + (1 : Int32))) H39 := hP
                  have hD : va_D A (wM A_x A_da A_ma A_ha A_ho A_ti A_be A_te A_ch K_da K_ma K_ha K_ho K_ti K_be K_te K_ch c_da c_ma c_ha c_ho c_ti c_be f37 c_ch c_up c_fu f16 (f17 + (1 : Int32))) := hD
                  refine lv_aload_n hx hb dX5_tryGrow_167 rfl (lv_at hl 1 rfl) ?_
                  refine lv_aload_n hx hb dX5_tryGrow_168 rfl (lv_at hl 1 rfl) ?_
                  refine va_get (D := (dC, dI)) (ci := 3) (v := .int f16) (C := RX5) (T := TX5) (N := 12) hx hb hts hi_X5_tryGrow_X5 hown hK hP 0 rfl rfl 8 (by decide) (hts (Cond.fieldLink RX5 73 "BuddyFilesModel" "tryMap" "I") hk_X5_tryGrow_73) (fun _ h9 => h9) rfl dX5_tryGrow_169 ?_
                  refine lv_iload hx hb dX5_tryGrow_172 (lv_at hl 0 rfl) ?_
                  refine lv_iload hx hb dX5_tryGrow_174 (lv_at hl 5 rfl) ?_
                  obtain ⟨x40, ex, hm⟩ := g_bind hm
                  refine vp_callSi (W.runS (As := [.int x36, .int z29]) (rest := [.int f16, .ref A_x]) ⟨hx, hb, hml, hown, hts⟩ (k_X5_bits l  x36 z29 _ ex) (va_cwS 2 hts gX5_tryGrow_X5_bits rfl rfl rfl (by decide +kernel) ⟨Nat.le_of_ble_eq_true rfl, Nat.le_of_ble_eq_true rfl⟩) ⟨w_bl0, fun U hU hW => ⟨rfl, trivial⟩⟩ rfl rfl hl.1 rfl (lv_room (Nat.le_of_ble_eq_true rfl)) dX5_tryGrow_176 ⟨Nat.zero_le _, Nat.zero_le _⟩) (fun _ ey => ?_)
                  subst ey
                  refine lv_ior hx hb dX5_tryGrow_179 ?_
                  refine va_put (D := (dC, dI)) (ci := 3) (v := .int (f16 ||| x40)) (ty := .int) (C := RX5) (T := TX5) (N := 12) hx hb hts hi_X5_tryGrow_X5 tyX5 tyX5_ok nmX5 hown hK hP hD hS 0 rfl rfl 8 (by decide) (hts (Cond.fieldLink RX5 73 "BuddyFilesModel" "tryMap" "I") hk_X5_tryGrow_73) (fun _ h9 => h9) rfl (by decide +kernel) rfl rfl (Nat.le_of_ble_eq_true rfl) dX5_tryGrow_180 (fun H41 locs41 hP hD hS => ?_)
                  have hP : va_P (dC, dI) vwCl (wM A_x A_da A_ma A_ha A_ho A_ti A_be A_te A_ch K_da K_ma K_ha K_ho K_ti K_be K_te K_ch c_da c_ma c_ha c_ho c_ti c_be f37 c_ch c_up c_fu (f16 ||| x40) (f17 + (1 : Int32))) H41 := hP
                  have hD : va_D A (wM A_x A_da A_ma A_ha A_ho A_ti A_be A_te A_ch K_da K_ma K_ha K_ho K_ti K_be K_te K_ch c_da c_ma c_ha c_ho c_ti c_be f37 c_ch c_up c_fu (f16 ||| x40) (f17 + (1 : Int32))) := hD
                  refine lv_iload hx hb dX5_tryGrow_183 (lv_at hl 4 rfl) ?_
                  refine lv_iconst (v := 1) hx hb dX5_tryGrow_185 (by decide) ?_
                  refine lv_iload hx hb dX5_tryGrow_186 (lv_at hl 5 rfl) ?_
                  refine lv_ishl hx hb dX5_tryGrow_188 ?_
                  show W _ _ _ _ _ _ _ _ _ _ _ _ _ _ _ (F0 m 189 _ [.int (g_shl (1 : Int32) z29), .int y14])
                  refine lv_iadd hx hb dX5_tryGrow_189 ?_
                  refine lv_istore (lv' := [(4, .int (y14 + (g_shl (1 : Int32) z29))), (6, .int x36), (0, .ref A_x), (1, .int p1), (3, .int ((p2 + (1 : Int32)) / (2 : Int32))), (5, .int z29)]) hx hb dX5_tryGrow_190 hl (by decide) rfl (fun ls hl => ?_)
                  refine lv_goto (tgt := 62) hx hb dX5_tryGrow_192 (by decide) ?_
                  cases hm
                  exact ih _ _ _ _ hy _ _ hP hD hS _ (lv_sub hl [2, 3, 4, 0] rfl)
                · have hm := g_f c35 hm
                  refine lv_bipush (v := -8) hx hb dX5_tryGrow_124 (by decide) ?_
                  cases hm
                  have hq := hV22 _ hy
                  cases hq
                  subst hQ
                  exact W.iret hx hb hr (fun t ht hW => ⟨⟨_, (), rfl, rfl, by rw [ht]; exact hP, hD⟩, hS.F ht⟩) hS.2.2 dX5_tryGrow_126
            have hL30 : ∀ (n : Nat) (y28 : Int32), g_loop (fun q => m_X5_tryGrow_L88 f16 q) n y28 = some rl30 → ∀ (H30b : Heap) (locs30b : List Loc), va_P (dC, dI) vwCl (wM A_x A_da A_ma A_ha A_ho A_ti A_be A_te A_ch K_da K_ma K_ha K_ho K_ti K_be K_te K_ch c_da c_ma c_ha c_ho c_ti c_be f15 c_ch c_up c_fu f16 f17) H30b → va_D A (wM A_x A_da A_ma A_ha A_ho A_ti A_be A_te A_ch K_da K_ma K_ha K_ho K_ti K_be K_te K_ch c_da c_ma c_ha c_ho c_ti c_be f15 c_ch c_up c_fu f16 f17) → va_S A s.heap H30b locs30b → ∀ (ls : Array Slot), lv_has ls 7 [(0, .ref A_x), (1, .int p1), (3, .int ((p2 + (1 : Int32)) / (2 : Int32))), (4, .int y14), (5, .int y28)] → W p l e (headSpec wsX5_tryGrow rm_X5_tryGrow).room s m (([.ref A_x, .int p1, .int p2] : List Value).toArray) below meth c H30b locs30b 0 0 Q (F0 m 88 ls []) := by
              intro n
              induction n with
              | zero =>
                intro y28 hm
                exact g_loop_z hm
              | succ n ih =>
                intro y28 hm H30b locs30b hP hD hS ls hl
                obtain ⟨q, hm, hy⟩ := g_loop_s hm
                have hm : m_X5_tryGrow_L88 f16 y28 = some q := hm
                unfold m_X5_tryGrow_L88 at hm
                refine lv_iload hx hb dX5_tryGrow_88 (lv_at hl 4 rfl) ?_
                refine lv_if_lt (tgt := 111) hx hb dX5_tryGrow_90 (by decide) (fun c31 => ?_) (fun c31 => ?_)
                · have hm := g_t c31 hm
                  cases hm
                  exact hE30 _ hy _ _ hP hD hS _ (lv_sub hl [0, 1, 2, 3, 4] rfl)
                · have hm := g_f c31 hm
                  refine lv_aload_n hx hb dX5_tryGrow_93 rfl (lv_at hl 0 rfl) ?_
                  refine va_get (D := (dC, dI)) (ci := 3) (v := .int f16) (C := RX5) (T := TX5) (N := 12) hx hb hts hi_X5_tryGrow_X5 hown hK hP 0 rfl rfl 8 (by decide) (hts (Cond.fieldLink RX5 73 "BuddyFilesModel" "tryMap" "I") hk_X5_tryGrow_73) (fun _ h9 => h9) rfl dX5_tryGrow_94 ?_
                  refine lv_iload hx hb dX5_tryGrow_97 (lv_at hl 4 rfl) ?_
                  obtain ⟨x32, ex, hm⟩ := g_bind hm
                  refine vp_callSi (W.runS (As := [.int f16, .int y28]) (rest := []) ⟨hx, hb, hml, hown, hts⟩ (k_X5_place l  f16 y28 _ ex) (va_cwS 2 hts gX5_tryGrow_X5_place rfl rfl rfl (by decide +kernel) ⟨Nat.le_of_ble_eq_true rfl, Nat.le_of_ble_eq_true rfl⟩) ⟨w_bl0, fun U hU hW => ⟨rfl, trivial⟩⟩ rfl rfl hl.1 rfl (lv_room (Nat.le_of_ble_eq_true rfl)) dX5_tryGrow_99 ⟨Nat.zero_le _, Nat.zero_le _⟩) (fun _ ey => ?_)
                  subst ey
                  refine lv_if_ge (tgt := 111) hx hb dX5_tryGrow_102 (by decide) (fun c33 => ?_) (fun c33 => ?_)
                  · have hm := g_t c33 hm
                    cases hm
                    exact hE30 _ hy _ _ hP hD hS _ (lv_sub hl [0, 1, 2, 3, 4] rfl)
                  · have hm := g_f c33 hm
                    refine lv_iinc (v := (y28 + (-1 : Int32))) (lv' := [(5, .int (y28 + (-1 : Int32))), (0, .ref A_x), (1, .int p1), (3, .int ((p2 + (1 : Int32)) / (2 : Int32))), (4, .int y14)]) hx hb dX5_tryGrow_105 hl (k := 4) rfl rfl (by decide) rfl (fun ls hl => ?_)
                    refine lv_goto (tgt := 88) hx hb dX5_tryGrow_108 (by decide) ?_
                    cases hm
                    exact ih _ hy _ _ hP hD hS _ (lv_sub hl [1, 2, 3, 4, 0] rfl)
            exact hL30 _ _ hlp _ _ hP hD hS _ (lv_sub hl [0, 1, 2, 3, 4] rfl)
          have hL26 : ∀ (n : Nat) (y24 : Int32), g_loop (fun q => m_X5_tryGrow_L71 p2 y14 q) n y24 = some rl26 → ∀ (H26b : Heap) (locs26b : List Loc), va_P (dC, dI) vwCl (wM A_x A_da A_ma A_ha A_ho A_ti A_be A_te A_ch K_da K_ma K_ha K_ho K_ti K_be K_te K_ch c_da c_ma c_ha c_ho c_ti c_be f15 c_ch c_up c_fu f16 f17) H26b → va_D A (wM A_x A_da A_ma A_ha A_ho A_ti A_be A_te A_ch K_da K_ma K_ha K_ho K_ti K_be K_te K_ch c_da c_ma c_ha c_ho c_ti c_be f15 c_ch c_up c_fu f16 f17) → va_S A s.heap H26b locs26b → ∀ (ls : Array Slot), lv_has ls 7 [(0, .ref A_x), (1, .int p1), (3, .int ((p2 + (1 : Int32)) / (2 : Int32))), (4, .int y14), (5, .int y24)] → W p l e (headSpec wsX5_tryGrow rm_X5_tryGrow).room s m (([.ref A_x, .int p1, .int p2] : List Value).toArray) below meth c H26b locs26b 0 0 Q (F0 m 71 ls []) := by
            intro n
            induction n with
            | zero =>
              intro y24 hm
              exact g_loop_z hm
            | succ n ih =>
              intro y24 hm H26b locs26b hP hD hS ls hl
              obtain ⟨q, hm, hy⟩ := g_loop_s hm
              have hm : m_X5_tryGrow_L71 p2 y14 y24 = some q := hm
              unfold m_X5_tryGrow_L71 at hm
              refine lv_iconst (v := 1) hx hb dX5_tryGrow_71 (by decide) ?_
              refine lv_iload hx hb dX5_tryGrow_72 (lv_at hl 4 rfl) ?_
              refine lv_ishl hx hb dX5_tryGrow_74 ?_
              show W _ _ _ _ _ _ _ _ _ _ _ _ _ _ _ (F0 m 75 _ [.int (g_shl (1 : Int32) y24)])
              refine lv_iload_n hx hb dX5_tryGrow_75 rfl (lv_at hl 2 rfl) ?_
              refine lv_iload hx hb dX5_tryGrow_76 (lv_at hl 3 rfl) ?_
              refine lv_isub hx hb dX5_tryGrow_78 ?_
              refine lv_icmp_ge (tgt := 88) hx hb dX5_tryGrow_79 (by decide) (fun c27 => ?_) (fun c27 => ?_)
              · have hm := g_t c27 hm
                cases hm
                exact hE26 _ hy _ _ hP hD hS _ (lv_sub hl [0, 1, 2, 3, 4] rfl)
              · have hm := g_f c27 hm
                refine lv_iinc (v := (y24 + (1 : Int32))) (lv' := [(5, .int (y24 + (1 : Int32))), (0, .ref A_x), (1, .int p1), (3, .int ((p2 + (1 : Int32)) / (2 : Int32))), (4, .int y14)]) hx hb dX5_tryGrow_82 hl (k := 4) rfl rfl (by decide) rfl (fun ls hl => ?_)
                refine lv_goto (tgt := 71) hx hb dX5_tryGrow_85 (by decide) ?_
                cases hm
                exact ih _ hy _ _ hP hD hS _ (lv_sub hl [1, 2, 3, 4, 0] rfl)
          exact hL26 _ _ hlp _ _ hP hD hS _ (lv_sub hl [1, 2, 3, 4, 0] rfl)
    exact hL22 _ _ _ _ _ hlp _ _ hP hD hS _ (lv_sub hl [0, 1, 2, 3] rfl)
  have hL9 : ∀ (n : Nat) (y6 : Int32) (f7 : (Nat → Int32)), g_loop (fun q => m_X5_tryGrow_L36 p1 c_ma q.1 q.2) n (y6, f7) = some rl9 → ∀ (H9b : Heap) (locs9b : List Loc), va_P (dC, dI) vwCl (wM A_x A_da A_ma A_ha A_ho A_ti A_be A_te A_ch K_da K_ma K_ha K_ho K_ti K_be K_te K_ch c_da c_ma c_ha c_ho c_ti c_be f7 c_ch c_up c_fu x2 x4) H9b → va_D A (wM A_x A_da A_ma A_ha A_ho A_ti A_be A_te A_ch K_da K_ma K_ha K_ho K_ti K_be K_te K_ch c_da c_ma c_ha c_ho c_ti c_be f7 c_ch c_up c_fu x2 x4) → va_S A s.heap H9b locs9b → ∀ (ls : Array Slot), lv_has ls 7 [(0, .ref A_x), (1, .int p1), (3, .int ((p2 + (1 : Int32)) / (2 : Int32))), (4, .int x1), (5, .int y6)] → W p l e (headSpec wsX5_tryGrow rm_X5_tryGrow).room s m (([.ref A_x, .int p1, .int p2] : List Value).toArray) below meth c H9b locs9b 0 0 Q (F0 m 36 ls []) := by
    intro n
    induction n with
    | zero =>
      intro y6 f7 hm
      exact g_loop_z hm
    | succ n ih =>
      intro y6 f7 hm H9b locs9b hP hD hS ls hl
      obtain ⟨q, hm, hy⟩ := g_loop_s hm
      have hm : m_X5_tryGrow_L36 p1 c_ma y6 f7 = some q := hm
      unfold m_X5_tryGrow_L36 at hm
      refine lv_iload hx hb dX5_tryGrow_36 (lv_at hl 4 rfl) ?_
      refine lv_iconst (v := 4) hx hb dX5_tryGrow_38 (by decide) ?_
      refine lv_icmp_ge (tgt := 62) hx hb dX5_tryGrow_39 (by decide) (fun c10 => ?_) (fun c10 => ?_)
      · have hm := g_t c10 hm
        cases hm
        exact hE9 _ hy _ _ hP hD hS _ (lv_sub hl [0, 1, 2, 3] rfl)
      · have hm := g_f c10 hm
        refine lv_aload_n hx hb dX5_tryGrow_42 rfl (lv_at hl 0 rfl) ?_
        refine va_get (D := (dC, dI)) (ci := 3) (v := .ref A_te) (C := RX5) (T := TX5) (N := 12) hx hb hts hi_X5_tryGrow_X5 hown hK hP 0 rfl rfl 10 (by decide) (hts (Cond.fieldLink RX5 29 "BuddyFilesModel" "tryExtent" "[I") hk_X5_tryGrow_29) (fun _ h9 => h9) rfl dX5_tryGrow_43 ?_
        refine lv_iload hx hb dX5_tryGrow_46 (lv_at hl 4 rfl) ?_
        refine lv_aload_n hx hb dX5_tryGrow_48 rfl (lv_at hl 0 rfl) ?_
        refine lv_iload_n hx hb dX5_tryGrow_49 rfl (lv_at hl 1 rfl) ?_
        refine lv_iload hx hb dX5_tryGrow_50 (lv_at hl 4 rfl) ?_
        obtain ⟨x11, ex, hm⟩ := g_bind hm
        refine vp_callSi (W.runV (As := [.int p1, .int y6]) (rest := [.int y6, .ref A_te]) ⟨hx, hb, hml, hown, hts⟩ (k_X5_extentOf l dC dI A_x A_da A_ma A_ha A_ho A_ti A_be A_te A_ch K_da K_ma K_ha K_ho K_ti K_be K_te K_ch c_da c_ma c_ha c_ho c_ti c_be f7 c_ch c_up c_fu x2 x4 p1 y6 _ ex) (cwV 2 hts gX5_tryGrow_X5_extentOf rfl rfl rfl (by decide +kernel) ⟨Nat.le_of_ble_eq_true rfl, Nat.le_of_ble_eq_true rfl⟩) ⟨w_blR, va_recv hK hP (ci := 3) (q0 := 0) rfl rfl, fun U hU hW => ⟨rfl, by rw [hU]; exact hP.sub [0, 1, 2, 3, 4, 5, 6, 7, 8] rfl, va_K.moved hW.alike (hK.sub [0, 1, 2, 3, 4, 5, 6, 7] rfl)⟩⟩ rfl rfl hl.1 rfl (lv_room (Nat.le_of_ble_eq_true rfl)) dX5_tryGrow_52 ⟨Nat.zero_le _, Nat.zero_le _⟩) (fun _ ey => ?_)
        subst ey
        obtain ⟨f12, ex, hm⟩ := g_bind hm
        refine w_ast hx hb hK hP hD hS 7 6 rfl rfl ex dX5_tryGrow_55 (fun H13 locs13 hP hD hS => ?_)
        have hP : va_P (dC, dI) vwCl (wM A_x A_da A_ma A_ha A_ho A_ti A_be A_te A_ch K_da K_ma K_ha K_ho K_ti K_be K_te K_ch c_da c_ma c_ha c_ho c_ti c_be f12 c_ch c_up c_fu x2 x4) H13 := hP
        have hD : va_D A (wM A_x A_da A_ma A_ha A_ho A_ti A_be A_te A_ch K_da K_ma K_ha K_ho K_ti K_be K_te K_ch c_da c_ma c_ha c_ho c_ti c_be f12 c_ch c_up c_fu x2 x4) := hD
        refine lv_iinc (v := (y6 + (1 : Int32))) (lv' := [(5, .int (y6 + (1 : Int32))), (0, .ref A_x), (1, .int p1), (3, .int ((p2 + (1 : Int32)) / (2 : Int32))), (4, .int x1)]) hx hb dX5_tryGrow_56 hl (k := 4) rfl rfl (by decide) rfl (fun ls hl => ?_)
        refine lv_goto (tgt := 36) hx hb dX5_tryGrow_59 (by decide) ?_
        cases hm
        exact ih _ _ hy _ _ hP hD hS _ (lv_sub hl [1, 2, 3, 4, 0] rfl)
  exact hL9 _ _ _ hlp _ _ hP hD hS _ (lv_sub hl [3, 4, 2, 1, 0] rfl)
theorem hi_X5_grow_X5 : ∀ w ∈ wsX50, w ∈ wsX5_grow := by decide +kernel
theorem hk_X5_grow_13 : Cond.fieldLink RX5 13 "BuddyFilesModel" "mem" "[I" ∈ wsX5_grow := by decide +kernel
theorem hk_X5_grow_29 : Cond.fieldLink RX5 29 "BuddyFilesModel" "tryExtent" "[I" ∈ wsX5_grow := by decide +kernel
theorem hk_X5_grow_73 : Cond.fieldLink RX5 73 "BuddyFilesModel" "tryMap" "I" ∈ wsX5_grow := by decide +kernel
abbrev rm_X5_grow : Room := { frames := 5, cells := 0, slots := 0, locals := 112 }
set_option maxHeartbeats 4000000 in
set_option maxRecDepth 100000 in
theorem k_X5_grow (l : Launch) (dC : Nat → ClassId) (dI : Nat → Nat → Nat) (A_x A_da A_ma A_ha A_ho A_ti A_be A_te A_ch : Nat) (K_da K_ma K_ha K_ho K_ti K_be K_te K_ch : ClassId) (c_da c_ma c_ha c_ho c_ti c_be c_te c_ch : Nat → Int32) (c_up c_fu c_tm c_tc : Int32) (sz : Nat) (p1 : Int32) (p2 : Int32) (r0 : Int32) (o_ma : (Nat → Int32)) (o_te : (Nat → Int32)) (o_tm : Int32) (o_tc : Int32) (hm : m_X5_grow c_ma c_te c_tm c_tc p1 p2 = some (r0, o_ma, o_te, o_tm, o_tc)) : Met l yX5_grow wsX5_grow rm_X5_grow (va_Pc [.ref A_x, .int p1, .int p2] (fun U => U.heap.size = sz ∧ va_P (dC, dI) vwCl (wM A_x A_da A_ma A_ha A_ho A_ti A_be A_te A_ch K_da K_ma K_ha K_ho K_ti K_be K_te K_ch c_da c_ma c_ha c_ho c_ti c_be c_te c_ch c_up c_fu c_tm c_tc) U.heap ∧ va_K (dC, dI) vwCl (tM K_da K_ma K_ha K_ho K_ti K_be K_te K_ch) U ∧ va_D (fun _ => True) (wM A_x A_da A_ma A_ha A_ho A_ti A_be A_te A_ch K_da K_ma K_ha K_ho K_ti K_be K_te K_ch c_da c_ma c_ha c_ho c_ti c_be c_te c_ch c_up c_fu c_tm c_tc))) (va_Qi (fun (r : Int32) (_ : Unit) => r0 = r) (fun _ t => va_P (dC, dI) vwCl (wM A_x A_da A_ma A_ha A_ho A_ti A_be A_te A_ch K_da K_ma K_ha K_ho K_ti K_be K_te K_ch c_da o_ma c_ha c_ho c_ti c_be o_te c_ch c_up c_fu o_tm o_tc) t.heap ∧ va_D (va_A (wM A_x A_da A_ma A_ha A_ho A_ti A_be A_te A_ch K_da K_ma K_ha K_ho K_ti K_be K_te K_ch c_da c_ma c_ha c_ho c_ti c_be c_te c_ch c_up c_fu c_tm c_tc) sz) (wM A_x A_da A_ma A_ha A_ho A_ti A_be A_te A_ch K_da K_ma K_ha K_ho K_ti K_be K_te K_ch c_da o_ma c_ha c_ho c_ti c_be o_te c_ch c_up c_fu o_tm o_tc)) (va_A (wM A_x A_da A_ma A_ha A_ho A_ti A_be A_te A_ch K_da K_ma K_ha K_ho K_ti K_be K_te K_ch c_da c_ma c_ha c_ho c_ti c_be c_te c_ch c_up c_fu c_tm c_tc) sz)) 0 0 (va_A (wM A_x A_da A_ma A_ha A_ho A_ti A_be A_te A_ch K_da K_ma K_ha K_ho K_ti K_be K_te K_ch c_da c_ma c_ha c_ho c_ti c_be c_te c_ch c_up c_fu c_tm c_tc) sz) := by
  refine Met.ofW (cc := cX5_grow) (maxL := 5) (ret := (some .int)) (by decide) rfl ?_
  intro p e s m args below meth c s₁ B hml hv
  obtain ⟨rfl, hsz, hP, hK, hD0⟩ := hv
  have hx := B.exec
  have hb := B.bytes
  have hr := B.returns
  have hts := atoms_spec (ws := wsX5_grow) B.pre
  have hown : s.vm.findClass RX5 = some m.cls := findClass_of_methodNamed B.named
  have hlocks := B.notSynchronized
  subst hsz
  have hD := hD0.self (sz := s.heap.size)
  generalize hAe : va_A (wM A_x A_da A_ma A_ha A_ho A_ti A_be A_te A_ch K_da K_ma K_ha K_ho K_ti K_be K_te K_ch c_da c_ma c_ha c_ho c_ti c_be c_te c_ch c_up c_fu c_tm c_tc) s.heap.size = A at hD ⊢
  have hA : ∀ q : Nat, s.heap.size ≤ q → A q := fun q h => by rw [← hAe]; exact Or.inr h
  have hS : va_S A s.heap s.heap [] := va_S.rf
  have hP : va_P (dC, dI) vwCl (wM A_x A_da A_ma A_ha A_ho A_ti A_be A_te A_ch K_da K_ma K_ha K_ho K_ti K_be K_te K_ch c_da c_ma c_ha c_ho c_ti c_be c_te c_ch c_up c_fu c_tm c_tc) s.heap := hP
  have hl := lv_entry ([.ref A_x, .int p1, .int p2]) (n := 5) (Nat.le_of_ble_eq_true rfl)
  rw [lg_entry_eq]
  generalize (lg_sl ([.ref A_x, .int p1, .int p2]) ++ List.replicate (5 - (lg_sl ([.ref A_x, .int p1, .int p2])).length) Slot.unset).toArray = ls at hl ⊢
  have hl : lv_has ls 5 [(0, .ref A_x), (1, .int p1), (2, .int p2)] := hl
  refine w_name (fun Q hQ => ?_)
  unfold m_X5_grow at hm
  refine lv_aload_n hx hb dX5_grow_0 rfl (lv_at hl 0 rfl) ?_
  refine lv_iload_n hx hb dX5_grow_1 rfl (lv_at hl 1 rfl) ?_
  refine lv_iload_n hx hb dX5_grow_2 rfl (lv_at hl 2 rfl) ?_
  obtain ⟨⟨x1, f2, f3, f4⟩, ex, hm⟩ := g_bind hm
  have hm := g_k4_s hm
  have hPc := hP.sub (ws' := (wM A_x A_da A_ma A_ha A_ho A_ti A_be A_te A_ch K_da K_ma K_ha K_ho K_ti K_be K_te K_ch c_da c_ma c_ha c_ho c_ti c_be c_te c_ch c_up c_fu c_tm c_tc)) [0, 1, 2, 3, 4, 5, 6, 7, 8] rfl
  have hDc := hD.sub (ws' := (wM A_x A_da A_ma A_ha A_ho A_ti A_be A_te A_ch K_da K_ma K_ha K_ho K_ti K_be K_te K_ch c_da c_ma c_ha c_ho c_ti c_be c_te c_ch c_up c_fu c_tm c_tc)) [0, 1, 2, 3, 4, 5, 6, 7, 8] (by decide) rfl
  have hKc := hK.sub (tys' := (tM K_da K_ma K_ha K_ho K_ti K_be K_te K_ch)) [0, 1, 2, 3, 4, 5, 6, 7] rfl
  have hFc := va_free (wc := (wM A_x A_da A_ma A_ha A_ho A_ti A_be A_te A_ch K_da K_ma K_ha K_ho K_ti K_be K_te K_ch c_da c_ma c_ha c_ho c_ti c_be c_te c_ch c_up c_fu c_tm c_tc)) hD hS hA [0, 1, 2, 3, 4, 5, 6, 7, 8] rfl
  refine va_calli (va_runV (As := [.int p1, .int p2]) (rest := []) ⟨hx, hb, hml, hown, hts⟩ (k_X5_tryGrow l dC dI A_x A_da A_ma A_ha A_ho A_ti A_be A_te A_ch K_da K_ma K_ha K_ho K_ti K_be K_te K_ch c_da c_ma c_ha c_ho c_ti c_be c_te c_ch c_up c_fu c_tm c_tc s.heap.size p1 p2 _ _ _ _ ex) (cwV 2 hts gX5_grow_X5_tryGrow rfl rfl rfl (by decide +kernel) ⟨Nat.le_of_ble_eq_true rfl, Nat.le_of_ble_eq_true rfl⟩) ⟨w_blW, va_recv hKc hPc (ci := 3) (q0 := 0) rfl rfl, fun U hU hW => ⟨rfl, by rw [hU], by rw [hU]; exact hPc, va_K.moved hW.alike hKc, hDc.weaken (fun _ _ _ _ => trivial)⟩⟩ rfl rfl hl.1 rfl (lv_room (Nat.le_of_ble_eq_true rfl)) dX5_grow_3 ⟨Nat.zero_le _, Nat.zero_le _⟩) hS (fun q _ h => hFc q h) hFc (fun _ _ t H5 locs5 ht hvm hw hB hz1 hk1 hS => ?_)
  subst hw
  refine W.widen (k := 0) (n := 0) (Nat.le_refl 0) (Nat.le_refl 0) ?_
  obtain ⟨hP1, hD1⟩ := hB
  rw [ht] at hP1
  obtain ⟨hP, hD⟩ := va_join (wr := []) (w1 := (wM A_x A_da A_ma A_ha A_ho A_ti A_be A_te A_ch K_da K_ma K_ha K_ho K_ti K_be K_te K_ch c_da c_ma c_ha c_ho c_ti c_be f2 c_ch c_up c_fu f3 f4)) hP hD [0, 1, 2, 3, 4, 5, 6, 7, 8] [] rfl rfl (by decide) (by decide) hk1 hFc hP1 hD1
  have hP : va_P (dC, dI) vwCl (wM A_x A_da A_ma A_ha A_ho A_ti A_be A_te A_ch K_da K_ma K_ha K_ho K_ti K_be K_te K_ch c_da c_ma c_ha c_ho c_ti c_be f2 c_ch c_up c_fu f3 f4) H5 := hP.sub [0, 1, 2, 3, 4, 5, 6, 7, 8] rfl
  have hD : va_D A (wM A_x A_da A_ma A_ha A_ho A_ti A_be A_te A_ch K_da K_ma K_ha K_ho K_ti K_be K_te K_ch c_da c_ma c_ha c_ho c_ti c_be f2 c_ch c_up c_fu f3 f4) := hD.sub [0, 1, 2, 3, 4, 5, 6, 7, 8] (by decide) rfl
  refine lv_istore_n (lv' := [(3, .int x1), (0, .ref A_x), (1, .int p1), (2, .int p2)]) hx hb dX5_grow_6 rfl hl (by decide) rfl (fun ls hl => ?_)
  refine lv_iload_n hx hb dX5_grow_7 rfl (lv_at hl 0 rfl) ?_
  refine lv_if_ne (tgt := 70) hx hb dX5_grow_8 (by decide) (fun c6 => ?_) (fun c6 => ?_)
  · have hm := g_f c6 hm
    refine lv_iload_n hx hb dX5_grow_70 rfl (lv_at hl 0 rfl) ?_
    cases hm
    subst hQ
    exact W.iret hx hb hr (fun t ht hW => ⟨⟨_, (), rfl, rfl, by rw [ht]; exact hP, hD⟩, hS.F ht⟩) hS.2.2 dX5_grow_71
  · have hm := g_t c6 hm
    refine lv_iconst (v := 0) hx hb dX5_grow_11 (by decide) ?_
    refine lv_istore (lv' := [(4, .int (0 : Int32)), (3, .int x1), (0, .ref A_x), (1, .int p1), (2, .int p2)]) hx hb dX5_grow_12 hl (by decide) rfl (fun ls hl => ?_)
    obtain ⟨rl10, hlp, hm⟩ := g_bind hm
    have hE10 : ∀ (f9 : (Nat → Int32)), f9 = rl10 → ∀ (H10e : Heap) (locs10e : List Loc), va_P (dC, dI) vwCl (wM A_x A_da A_ma A_ha A_ho A_ti A_be A_te A_ch K_da K_ma K_ha K_ho K_ti K_be K_te K_ch c_da f9 c_ha c_ho c_ti c_be f2 c_ch c_up c_fu f3 f4) H10e → va_D A (wM A_x A_da A_ma A_ha A_ho A_ti A_be A_te A_ch K_da K_ma K_ha K_ho K_ti K_be K_te K_ch c_da f9 c_ha c_ho c_ti c_be f2 c_ch c_up c_fu f3 f4) → va_S A s.heap H10e locs10e → ∀ (ls : Array Slot), lv_has ls 5 [(0, .ref A_x), (1, .int p1), (2, .int p2), (3, .int x1)] → W p l e (headSpec wsX5_grow rm_X5_grow).room s m (([.ref A_x, .int p1, .int p2] : List Value).toArray) below meth c H10e locs10e 0 0 Q (F0 m 47 ls []) := by
      intro f9 hq H10e locs10e hP hD hS ls hl
      subst hq
      have hm := g_k1_s hm
      refine lv_aload_n hx hb dX5_grow_47 rfl (lv_at hl 0 rfl) ?_
      refine va_get (D := (dC, dI)) (ci := 3) (v := .ref A_ma) (C := RX5) (T := TX5) (N := 12) hx hb hts hi_X5_grow_X5 hown hK hP 0 rfl rfl 3 (by decide) (hts (Cond.fieldLink RX5 13 "BuddyFilesModel" "mem" "[I") hk_X5_grow_13) (fun _ h9 => h9) rfl dX5_grow_48 ?_
      refine lv_bipush (v := 45) hx hb dX5_grow_51 (by decide) ?_
      refine lv_aload_n hx hb dX5_grow_53 rfl (lv_at hl 0 rfl) ?_
      refine va_get (D := (dC, dI)) (ci := 3) (v := .int f3) (C := RX5) (T := TX5) (N := 12) hx hb hts hi_X5_grow_X5 hown hK hP 0 rfl rfl 8 (by decide) (hts (Cond.fieldLink RX5 73 "BuddyFilesModel" "tryMap" "I") hk_X5_grow_73) (fun _ h9 => h9) rfl dX5_grow_54 ?_
      obtain ⟨f15, ex, hm⟩ := g_bind hm
      refine w_ast hx hb hK hP hD hS 2 1 rfl rfl ex dX5_grow_57 (fun H16 locs16 hP hD hS => ?_)
      have hP : va_P (dC, dI) vwCl (wM A_x A_da A_ma A_ha A_ho A_ti A_be A_te A_ch K_da K_ma K_ha K_ho K_ti K_be K_te K_ch c_da f15 c_ha c_ho c_ti c_be f2 c_ch c_up c_fu f3 f4) H16 := hP
      have hD : va_D A (wM A_x A_da A_ma A_ha A_ho A_ti A_be A_te A_ch K_da K_ma K_ha K_ho K_ti K_be K_te K_ch c_da f15 c_ha c_ho c_ti c_be f2 c_ch c_up c_fu f3 f4) := hD
      refine lv_aload_n hx hb dX5_grow_58 rfl (lv_at hl 0 rfl) ?_
      refine va_get (D := (dC, dI)) (ci := 3) (v := .ref A_ma) (C := RX5) (T := TX5) (N := 12) hx hb hts hi_X5_grow_X5 hown hK hP 0 rfl rfl 3 (by decide) (hts (Cond.fieldLink RX5 13 "BuddyFilesModel" "mem" "[I") hk_X5_grow_13) (fun _ h9 => h9) rfl dX5_grow_59 ?_
      refine lv_bipush (v := 7) hx hb dX5_grow_62 (by decide) ?_
      refine lv_iload_n hx hb dX5_grow_64 rfl (lv_at hl 1 rfl) ?_
      refine lv_imul hx hb dX5_grow_65 ?_
      refine lv_iconst (v := 2) hx hb dX5_grow_66 (by decide) ?_
      refine lv_iadd hx hb dX5_grow_67 ?_
      refine lv_iload_n hx hb dX5_grow_68 rfl (lv_at hl 2 rfl) ?_
      obtain ⟨f17, ex, hm⟩ := g_bind hm
      refine w_ast hx hb hK hP hD hS 2 1 rfl rfl ex dX5_grow_69 (fun H18 locs18 hP hD hS => ?_)
      have hP : va_P (dC, dI) vwCl (wM A_x A_da A_ma A_ha A_ho A_ti A_be A_te A_ch K_da K_ma K_ha K_ho K_ti K_be K_te K_ch c_da f17 c_ha c_ho c_ti c_be f2 c_ch c_up c_fu f3 f4) H18 := hP
      have hD : va_D A (wM A_x A_da A_ma A_ha A_ho A_ti A_be A_te A_ch K_da K_ma K_ha K_ho K_ti K_be K_te K_ch c_da f17 c_ha c_ho c_ti c_be f2 c_ch c_up c_fu f3 f4) := hD
      refine lv_iload_n hx hb dX5_grow_70 rfl (lv_at hl 3 rfl) ?_
      cases hm
      subst hQ
      exact W.iret hx hb hr (fun t ht hW => ⟨⟨_, (), rfl, rfl, by rw [ht]; exact hP, hD⟩, hS.F ht⟩) hS.2.2 dX5_grow_71
    have hL10 : ∀ (n : Nat) (y7 : Int32) (f8 : (Nat → Int32)), g_loop (fun q => m_X5_grow_L14 p1 f2 q.1 q.2) n (y7, f8) = some rl10 → ∀ (H10b : Heap) (locs10b : List Loc), va_P (dC, dI) vwCl (wM A_x A_da A_ma A_ha A_ho A_ti A_be A_te A_ch K_da K_ma K_ha K_ho K_ti K_be K_te K_ch c_da f8 c_ha c_ho c_ti c_be f2 c_ch c_up c_fu f3 f4) H10b → va_D A (wM A_x A_da A_ma A_ha A_ho A_ti A_be A_te A_ch K_da K_ma K_ha K_ho K_ti K_be K_te K_ch c_da f8 c_ha c_ho c_ti c_be f2 c_ch c_up c_fu f3 f4) → va_S A s.heap H10b locs10b → ∀ (ls : Array Slot), lv_has ls 5 [(0, .ref A_x), (1, .int p1), (2, .int p2), (3, .int x1), (4, .int y7)] → W p l e (headSpec wsX5_grow rm_X5_grow).room s m (([.ref A_x, .int p1, .int p2] : List Value).toArray) below meth c H10b locs10b 0 0 Q (F0 m 14 ls []) := by
      intro n
      induction n with
      | zero =>
        intro y7 f8 hm
        exact g_loop_z hm
      | succ n ih =>
        intro y7 f8 hm H10b locs10b hP hD hS ls hl
        obtain ⟨q, hm, hy⟩ := g_loop_s hm
        have hm : m_X5_grow_L14 p1 f2 y7 f8 = some q := hm
        unfold m_X5_grow_L14 at hm
        refine lv_iload hx hb dX5_grow_14 (lv_at hl 4 rfl) ?_
        refine lv_iconst (v := 4) hx hb dX5_grow_16 (by decide) ?_
        refine lv_icmp_ge (tgt := 47) hx hb dX5_grow_17 (by decide) (fun c11 => ?_) (fun c11 => ?_)
        · have hm := g_t c11 hm
          cases hm
          exact hE10 _ hy _ _ hP hD hS _ (lv_sub hl [0, 1, 2, 3] rfl)
        · have hm := g_f c11 hm
          refine lv_aload_n hx hb dX5_grow_20 rfl (lv_at hl 0 rfl) ?_
          refine va_get (D := (dC, dI)) (ci := 3) (v := .ref A_ma) (C := RX5) (T := TX5) (N := 12) hx hb hts hi_X5_grow_X5 hown hK hP 0 rfl rfl 3 (by decide) (hts (Cond.fieldLink RX5 13 "BuddyFilesModel" "mem" "[I") hk_X5_grow_13) (fun _ h9 => h9) rfl dX5_grow_21 ?_
          refine lv_bipush (v := 7) hx hb dX5_grow_24 (by decide) ?_
          refine lv_iload_n hx hb dX5_grow_26 rfl (lv_at hl 1 rfl) ?_
          refine lv_imul hx hb dX5_grow_27 ?_
          refine lv_iconst (v := 3) hx hb dX5_grow_28 (by decide) ?_
          refine lv_iadd hx hb dX5_grow_29 ?_
          refine lv_iload hx hb dX5_grow_30 (lv_at hl 4 rfl) ?_
          refine lv_iadd hx hb dX5_grow_32 ?_
          refine lv_aload_n hx hb dX5_grow_33 rfl (lv_at hl 0 rfl) ?_
          refine va_get (D := (dC, dI)) (ci := 3) (v := .ref A_te) (C := RX5) (T := TX5) (N := 12) hx hb hts hi_X5_grow_X5 hown hK hP 0 rfl rfl 10 (by decide) (hts (Cond.fieldLink RX5 29 "BuddyFilesModel" "tryExtent" "[I") hk_X5_grow_29) (fun _ h9 => h9) rfl dX5_grow_34 ?_
          refine lv_iload hx hb dX5_grow_37 (lv_at hl 4 rfl) ?_
          obtain ⟨x12, ex, hm⟩ := g_bind hm
          refine w_ald hx hb hK hP 7 6 rfl rfl ex dX5_grow_39 ?_
          obtain ⟨f13, ex, hm⟩ := g_bind hm
          refine w_ast hx hb hK hP hD hS 2 1 rfl rfl ex dX5_grow_40 (fun H14 locs14 hP hD hS => ?_)
          have hP : va_P (dC, dI) vwCl (wM A_x A_da A_ma A_ha A_ho A_ti A_be A_te A_ch K_da K_ma K_ha K_ho K_ti K_be K_te K_ch c_da f13 c_ha c_ho c_ti c_be f2 c_ch c_up c_fu f3 f4) H14 := hP
          have hD : va_D A (wM A_x A_da A_ma A_ha A_ho A_ti A_be A_te A_ch K_da K_ma K_ha K_ho K_ti K_be K_te K_ch c_da f13 c_ha c_ho c_ti c_be f2 c_ch c_up c_fu f3 f4) := hD
          refine lv_iinc (v := (y7 + (1 : Int32))) (lv' := [(4, .int (y7 + (1 : Int32))), (0, .ref A_x), (1, .int p1), (2, .int p2), (3, .int x1)]) hx hb dX5_grow_41 hl (k := 4) rfl rfl (by decide) rfl (fun ls hl => ?_)
          refine lv_goto (tgt := 14) hx hb dX5_grow_44 (by decide) ?_
          cases hm
          exact ih _ _ hy _ _ hP hD hS _ (lv_sub hl [1, 2, 3, 4, 0] rfl)
    exact hL10 _ _ _ hlp _ _ hP hD hS _ (lv_sub hl [2, 3, 4, 1, 0] rfl)
