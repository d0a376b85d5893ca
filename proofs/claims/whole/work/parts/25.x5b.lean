theorem hi_X5_giveBack_X5 : ∀ w ∈ wsX50, w ∈ wsX5_giveBack := by decide +kernel
theorem hk_X5_giveBack_13 : Cond.fieldLink RX5 13 "BuddyFilesModel" "mem" "[I" ∈ wsX5_giveBack := by decide +kernel
abbrev rm_X5_giveBack : Room := { frames := 2, cells := 0, slots := 0, locals := 44 }
set_option maxHeartbeats 4000000 in
set_option maxRecDepth 100000 in
theorem k_X5_giveBack (l : Launch) (dC : Nat → ClassId) (dI : Nat → Nat → Nat) (A_x A_da A_ma A_ha A_ho A_ti A_be A_te A_ch : Nat) (K_da K_ma K_ha K_ho K_ti K_be K_te K_ch : ClassId) (c_da c_ma c_ha c_ho c_ti c_be c_te c_ch : Nat → Int32) (c_up c_fu c_tm c_tc : Int32) (sz : Nat) (p1 : Int32) (o_ma : (Nat → Int32)) (hm : m_X5_giveBack c_ma p1 = some o_ma) : Met l yX5_giveBack wsX5_giveBack rm_X5_giveBack (va_Pc [.ref A_x, .int p1] (fun U => U.heap.size = sz ∧ va_P (dC, dI) vwCl (wM A_x A_da A_ma A_ha A_ho A_ti A_be A_te A_ch K_da K_ma K_ha K_ho K_ti K_be K_te K_ch c_da c_ma c_ha c_ho c_ti c_be c_te c_ch c_up c_fu c_tm c_tc) U.heap ∧ va_K (dC, dI) vwCl (tM K_da K_ma K_ha K_ho K_ti K_be K_te K_ch) U ∧ va_D (fun _ => True) (wM A_x A_da A_ma A_ha A_ho A_ti A_be A_te A_ch K_da K_ma K_ha K_ho K_ti K_be K_te K_ch c_da c_ma c_ha c_ho c_ti c_be c_te c_ch c_up c_fu c_tm c_tc))) (va_Qv (fun (_ : Unit) => True) (fun _ t => va_P (dC, dI) vwCl (wM A_x A_da A_ma A_ha A_ho A_ti A_be A_te A_ch K_da K_ma K_ha K_ho K_ti K_be K_te K_ch c_da o_ma c_ha c_ho c_ti c_be c_te c_ch c_up c_fu c_tm c_tc) t.heap ∧ va_D (va_A (wM A_x A_da A_ma A_ha A_ho A_ti A_be A_te A_ch K_da K_ma K_ha K_ho K_ti K_be K_te K_ch c_da c_ma c_ha c_ho c_ti c_be c_te c_ch c_up c_fu c_tm c_tc) sz) (wM A_x A_da A_ma A_ha A_ho A_ti A_be A_te A_ch K_da K_ma K_ha K_ho K_ti K_be K_te K_ch c_da o_ma c_ha c_ho c_ti c_be c_te c_ch c_up c_fu c_tm c_tc)) (va_A (wM A_x A_da A_ma A_ha A_ho A_ti A_be A_te A_ch K_da K_ma K_ha K_ho K_ti K_be K_te K_ch c_da c_ma c_ha c_ho c_ti c_be c_te c_ch c_up c_fu c_tm c_tc) sz)) 0 0 (va_A (wM A_x A_da A_ma A_ha A_ho A_ti A_be A_te A_ch K_da K_ma K_ha K_ho K_ti K_be K_te K_ch c_da c_ma c_ha c_ho c_ti c_be c_te c_ch c_up c_fu c_tm c_tc) sz) := by
  refine Met.ofW (cc := cX5_giveBack) (maxL := 5) (ret := (none)) (by decide) rfl ?_
  intro p e s m args below meth c s₁ B hml hv
  obtain ⟨rfl, hsz, hP, hK, hD0⟩ := hv
  have hx := B.exec
  have hb := B.bytes
  have hr := B.returns
  have hts := atoms_spec (ws := wsX5_giveBack) B.pre
  have hown : s.vm.findClass RX5 = some m.cls := findClass_of_methodNamed B.named
  have hlocks := B.notSynchronized
  subst hsz
  have hD := hD0.self (sz := s.heap.size)
  generalize hAe : va_A (wM A_x A_da A_ma A_ha A_ho A_ti A_be A_te A_ch K_da K_ma K_ha K_ho K_ti K_be K_te K_ch c_da c_ma c_ha c_ho c_ti c_be c_te c_ch c_up c_fu c_tm c_tc) s.heap.size = A at hD ⊢
  have hA : ∀ q : Nat, s.heap.size ≤ q → A q := fun q h => by rw [← hAe]; exact Or.inr h
  have hS : va_S A s.heap s.heap [] := va_S.rf
  have hP : va_P (dC, dI) vwCl (wM A_x A_da A_ma A_ha A_ho A_ti A_be A_te A_ch K_da K_ma K_ha K_ho K_ti K_be K_te K_ch c_da c_ma c_ha c_ho c_ti c_be c_te c_ch c_up c_fu c_tm c_tc) s.heap := hP
  have hl := lv_entry ([.ref A_x, .int p1]) (n := 5) (Nat.le_of_ble_eq_true rfl)
  rw [lg_entry_eq]
  generalize (lg_sl ([.ref A_x, .int p1]) ++ List.replicate (5 - (lg_sl ([.ref A_x, .int p1])).length) Slot.unset).toArray = ls at hl ⊢
  have hl : lv_has ls 5 [(0, .ref A_x), (1, .int p1)] := hl
  refine w_name (fun Q hQ => ?_)
  unfold m_X5_giveBack at hm
  refine lv_bipush (v := 7) hx hb dX5_giveBack_0 (by decide) ?_
  refine lv_iload_n hx hb dX5_giveBack_2 rfl (lv_at hl 1 rfl) ?_
  refine lv_imul hx hb dX5_giveBack_3 ?_
  refine lv_iconst (v := 2) hx hb dX5_giveBack_4 (by decide) ?_
  refine lv_iadd hx hb dX5_giveBack_5 ?_
  refine lv_aload_n hx hb dX5_giveBack_6 rfl (lv_at hl 0 rfl) ?_
  refine lv_iload_n hx hb dX5_giveBack_7 rfl (lv_at hl 1 rfl) ?_
  obtain ⟨x1, ex, hm⟩ := g_bind hm
  refine vp_callSi (W.runV (As := [.int p1]) (rest := [.int (((7 : Int32) * p1) + (2 : Int32))]) ⟨hx, hb, hml, hown, hts⟩ (k_X5_runs l dC dI A_x A_da A_ma A_ha A_ho A_ti A_be A_te A_ch K_da K_ma K_ha K_ho K_ti K_be K_te K_ch c_da c_ma c_ha c_ho c_ti c_be c_te c_ch c_up c_fu c_tm c_tc p1 _ ex) (cwV 1 hts gX5_giveBack_X5_runs rfl rfl rfl (by decide +kernel) ⟨Nat.le_of_ble_eq_true rfl, Nat.le_of_ble_eq_true rfl⟩) ⟨w_blR, va_recv hK hP (ci := 3) (q0 := 0) rfl rfl, fun U hU hW => ⟨rfl, by rw [hU]; exact hP.sub [0, 1, 2, 3, 4, 5, 6, 7, 8] rfl, va_K.moved hW.alike (hK.sub [0, 1, 2, 3, 4, 5, 6, 7] rfl)⟩⟩ rfl rfl hl.1 rfl (lv_room (Nat.le_of_ble_eq_true rfl)) dX5_giveBack_8 ⟨Nat.zero_le _, Nat.zero_le _⟩) (fun _ ey => ?_)
  subst ey
  refine lv_iadd hx hb dX5_giveBack_11 ?_
  refine lv_istore_n (lv' := [(2, .int ((((7 : Int32) * p1) + (2 : Int32)) + x1)), (0, .ref A_x), (1, .int p1)]) hx hb dX5_giveBack_12 rfl hl (by decide) rfl (fun ls hl => ?_)
  refine lv_aload_n hx hb dX5_giveBack_13 rfl (lv_at hl 1 rfl) ?_
  refine va_get (D := (dC, dI)) (ci := 3) (v := .ref A_ma) (C := RX5) (T := TX5) (N := 12) hx hb hts hi_X5_giveBack_X5 hown hK hP 0 rfl rfl 3 (by decide) (hts (Cond.fieldLink RX5 13 "BuddyFilesModel" "mem" "[I") hk_X5_giveBack_13) (fun _ h9 => h9) rfl dX5_giveBack_14 ?_
  refine lv_iload_n hx hb dX5_giveBack_17 rfl (lv_at hl 0 rfl) ?_
  obtain ⟨x2, ex, hm⟩ := g_bind hm
  refine w_ald hx hb hK hP 2 1 rfl rfl ex dX5_giveBack_18 ?_
  refine lv_istore_n (lv' := [(3, .int x2), (2, .int ((((7 : Int32) * p1) + (2 : Int32)) + x1)), (0, .ref A_x), (1, .int p1)]) hx hb dX5_giveBack_19 rfl hl (by decide) rfl (fun ls hl => ?_)
  refine lv_iconst (v := 2) hx hb dX5_giveBack_20 (by decide) ?_
  refine lv_iload_n hx hb dX5_giveBack_21 rfl (lv_at hl 0 rfl) ?_
  obtain ⟨x3, ex, hm⟩ := g_bind hm
  refine vp_callSi (W.runS (As := [.int x2]) (rest := [.int (2 : Int32)]) ⟨hx, hb, hml, hown, hts⟩ (k_X5_start l  x2 _ ex) (va_cwS 1 hts gX5_giveBack_X5_start rfl rfl rfl (by decide +kernel) ⟨Nat.le_of_ble_eq_true rfl, Nat.le_of_ble_eq_true rfl⟩) ⟨w_bl0, fun U hU hW => ⟨rfl, trivial⟩⟩ rfl rfl hl.1 rfl (lv_room (Nat.le_of_ble_eq_true rfl)) dX5_giveBack_22 ⟨Nat.zero_le _, Nat.zero_le _⟩) (fun _ ey => ?_)
  subst ey
  refine lv_imul hx hb dX5_giveBack_25 ?_
  refine lv_istore (lv' := [(4, .int ((2 : Int32) * x3)), (3, .int x2), (2, .int ((((7 : Int32) * p1) + (2 : Int32)) + x1)), (0, .ref A_x), (1, .int p1)]) hx hb dX5_giveBack_26 hl (by decide) rfl (fun ls hl => ?_)
  obtain ⟨rl7, hlp, hm⟩ := g_bind hm
  have hE7 : ∀ (f6 : (Nat → Int32)), f6 = rl7 → ∀ (H7e : Heap) (locs7e : List Loc), va_P (dC, dI) vwCl (wM A_x A_da A_ma A_ha A_ho A_ti A_be A_te A_ch K_da K_ma K_ha K_ho K_ti K_be K_te K_ch c_da f6 c_ha c_ho c_ti c_be c_te c_ch c_up c_fu c_tm c_tc) H7e → va_D A (wM A_x A_da A_ma A_ha A_ho A_ti A_be A_te A_ch K_da K_ma K_ha K_ho K_ti K_be K_te K_ch c_da f6 c_ha c_ho c_ti c_be c_te c_ch c_up c_fu c_tm c_tc) → va_S A s.heap H7e locs7e → ∀ (ls : Array Slot), lv_has ls 5 [(0, .ref A_x), (2, .int ((((7 : Int32) * p1) + (2 : Int32)) + x1)), (3, .int x2)] → W p l e (headSpec wsX5_giveBack rm_X5_giveBack).room s m (([.ref A_x, .int p1] : List Value).toArray) below meth c H7e locs7e 0 0 Q (F0 m 61 ls []) := by
    intro f6 hq H7e locs7e hP hD hS ls hl
    subst hq
    have hm := g_k1_s hm
    refine lv_aload_n hx hb dX5_giveBack_61 rfl (lv_at hl 0 rfl) ?_
    refine va_get (D := (dC, dI)) (ci := 3) (v := .ref A_ma) (C := RX5) (T := TX5) (N := 12) hx hb hts hi_X5_giveBack_X5 hown hK hP 0 rfl rfl 3 (by decide) (hts (Cond.fieldLink RX5 13 "BuddyFilesModel" "mem" "[I") hk_X5_giveBack_13) (fun _ h9 => h9) rfl dX5_giveBack_62 ?_
    refine lv_bipush (v := 45) hx hb dX5_giveBack_65 (by decide) ?_
    refine lv_aload_n hx hb dX5_giveBack_67 rfl (lv_at hl 0 rfl) ?_
    refine va_get (D := (dC, dI)) (ci := 3) (v := .ref A_ma) (C := RX5) (T := TX5) (N := 12) hx hb hts hi_X5_giveBack_X5 hown hK hP 0 rfl rfl 3 (by decide) (hts (Cond.fieldLink RX5 13 "BuddyFilesModel" "mem" "[I") hk_X5_giveBack_13) (fun _ h9 => h9) rfl dX5_giveBack_68 ?_
    refine lv_bipush (v := 45) hx hb dX5_giveBack_71 (by decide) ?_
    obtain ⟨x13, ex, hm⟩ := g_bind hm
    refine w_ald hx hb hK hP 2 1 rfl rfl ex dX5_giveBack_73 ?_
    refine lv_iload_n hx hb dX5_giveBack_74 rfl (lv_at hl 2 rfl) ?_
    obtain ⟨x14, ex, hm⟩ := g_bind hm
    refine vp_callSi (W.runS (As := [.int x2]) (rest := [.int x13, .int (45 : Int32), .ref A_ma]) ⟨hx, hb, hml, hown, hts⟩ (k_X5_start l  x2 _ ex) (va_cwS 1 hts gX5_giveBack_X5_start rfl rfl rfl (by decide +kernel) ⟨Nat.le_of_ble_eq_true rfl, Nat.le_of_ble_eq_true rfl⟩) ⟨w_bl0, fun U hU hW => ⟨rfl, trivial⟩⟩ rfl rfl hl.1 rfl (lv_room (Nat.le_of_ble_eq_true rfl)) dX5_giveBack_75 ⟨Nat.zero_le _, Nat.zero_le _⟩) (fun _ ey => ?_)
    subst ey
    refine lv_iload_n hx hb dX5_giveBack_78 rfl (lv_at hl 2 rfl) ?_
    obtain ⟨x15, ex, hm⟩ := g_bind hm
    refine vp_callSi (W.runS (As := [.int x2]) (rest := [.int x14, .int x13, .int (45 : Int32), .ref A_ma]) ⟨hx, hb, hml, hown, hts⟩ (k_X5_order l  x2 _ ex) (va_cwS 1 hts gX5_giveBack_X5_order rfl rfl rfl (by decide +kernel) ⟨Nat.le_of_ble_eq_true rfl, Nat.le_of_ble_eq_true rfl⟩) ⟨w_bl0, fun U hU hW => ⟨rfl, trivial⟩⟩ rfl rfl hl.1 rfl (lv_room (Nat.le_of_ble_eq_true rfl)) dX5_giveBack_79 ⟨Nat.zero_le _, Nat.zero_le _⟩) (fun _ ey => ?_)
    subst ey
    obtain ⟨x16, ex, hm⟩ := g_bind hm
    refine vp_callSi (W.runS (As := [.int x14, .int x15]) (rest := [.int x13, .int (45 : Int32), .ref A_ma]) ⟨hx, hb, hml, hown, hts⟩ (k_X5_bits l  x14 x15 _ ex) (va_cwS 2 hts gX5_giveBack_X5_bits rfl rfl rfl (by decide +kernel) ⟨Nat.le_of_ble_eq_true rfl, Nat.le_of_ble_eq_true rfl⟩) ⟨w_bl0, fun U hU hW => ⟨rfl, trivial⟩⟩ rfl rfl hl.1 rfl (lv_room (Nat.le_of_ble_eq_true rfl)) dX5_giveBack_82 ⟨Nat.zero_le _, Nat.zero_le _⟩) (fun _ ey => ?_)
    subst ey
    refine lv_iconst (v := -1) hx hb dX5_giveBack_85 (by decide) ?_
    refine lv_ixor hx hb dX5_giveBack_86 ?_
    refine lv_iand hx hb dX5_giveBack_87 ?_
    obtain ⟨f17, ex, hm⟩ := g_bind hm
    refine w_ast hx hb hK hP hD hS 2 1 rfl rfl ex dX5_giveBack_88 (fun H18 locs18 hP hD hS => ?_)
    have hP : va_P (dC, dI) vwCl (wM A_x A_da A_ma A_ha A_ho A_ti A_be A_te A_ch K_da K_ma K_ha K_ho K_ti K_be K_te K_ch c_da f17 c_ha c_ho c_ti c_be c_te c_ch c_up c_fu c_tm c_tc) H18 := hP
    have hD : va_D A (wM A_x A_da A_ma A_ha A_ho A_ti A_be A_te A_ch K_da K_ma K_ha K_ho K_ti K_be K_te K_ch c_da f17 c_ha c_ho c_ti c_be c_te c_ch c_up c_fu c_tm c_tc) := hD
    refine lv_aload_n hx hb dX5_giveBack_89 rfl (lv_at hl 0 rfl) ?_
    refine va_get (D := (dC, dI)) (ci := 3) (v := .ref A_ma) (C := RX5) (T := TX5) (N := 12) hx hb hts hi_X5_giveBack_X5 hown hK hP 0 rfl rfl 3 (by decide) (hts (Cond.fieldLink RX5 13 "BuddyFilesModel" "mem" "[I") hk_X5_giveBack_13) (fun _ h9 => h9) rfl dX5_giveBack_90 ?_
    refine lv_iload_n hx hb dX5_giveBack_93 rfl (lv_at hl 1 rfl) ?_
    refine lv_iconst (v := 0) hx hb dX5_giveBack_94 (by decide) ?_
    obtain ⟨f19, ex, hm⟩ := g_bind hm
    refine w_ast hx hb hK hP hD hS 2 1 rfl rfl ex dX5_giveBack_95 (fun H20 locs20 hP hD hS => ?_)
    have hP : va_P (dC, dI) vwCl (wM A_x A_da A_ma A_ha A_ho A_ti A_be A_te A_ch K_da K_ma K_ha K_ho K_ti K_be K_te K_ch c_da f19 c_ha c_ho c_ti c_be c_te c_ch c_up c_fu c_tm c_tc) H20 := hP
    have hD : va_D A (wM A_x A_da A_ma A_ha A_ho A_ti A_be A_te A_ch K_da K_ma K_ha K_ho K_ti K_be K_te K_ch c_da f19 c_ha c_ho c_ti c_be c_te c_ch c_up c_fu c_tm c_tc) := hD
    cases hm
    subst hQ
    exact W.vret hx hb hr (fun t ht hW => ⟨⟨(), rfl, trivial, by rw [ht]; exact hP, hD⟩, hS.F ht⟩) hS.2.2 dX5_giveBack_96
  have hL7 : ∀ (n : Nat) (y4 : Int32) (f5 : (Nat → Int32)), g_loop (fun q => m_X5_giveBack_L28 x2 q.1 q.2) n (y4, f5) = some rl7 → ∀ (H7b : Heap) (locs7b : List Loc), va_P (dC, dI) vwCl (wM A_x A_da A_ma A_ha A_ho A_ti A_be A_te A_ch K_da K_ma K_ha K_ho K_ti K_be K_te K_ch c_da f5 c_ha c_ho c_ti c_be c_te c_ch c_up c_fu c_tm c_tc) H7b → va_D A (wM A_x A_da A_ma A_ha A_ho A_ti A_be A_te A_ch K_da K_ma K_ha K_ho K_ti K_be K_te K_ch c_da f5 c_ha c_ho c_ti c_be c_te c_ch c_up c_fu c_tm c_tc) → va_S A s.heap H7b locs7b → ∀ (ls : Array Slot), lv_has ls 5 [(0, .ref A_x), (2, .int ((((7 : Int32) * p1) + (2 : Int32)) + x1)), (3, .int x2), (4, .int y4)] → W p l e (headSpec wsX5_giveBack rm_X5_giveBack).room s m (([.ref A_x, .int p1] : List Value).toArray) below meth c H7b locs7b 0 0 Q (F0 m 28 ls []) := by
    intro n
    induction n with
    | zero =>
      intro y4 f5 hm
      exact g_loop_z hm
    | succ n ih =>
      intro y4 f5 hm H7b locs7b hP hD hS ls hl
      obtain ⟨q, hm, hy⟩ := g_loop_s hm
      have hm : m_X5_giveBack_L28 x2 y4 f5 = some q := hm
      unfold m_X5_giveBack_L28 at hm
      refine lv_iload hx hb dX5_giveBack_28 (lv_at hl 3 rfl) ?_
      refine lv_iconst (v := 2) hx hb dX5_giveBack_30 (by decide) ?_
      refine lv_iload_n hx hb dX5_giveBack_31 rfl (lv_at hl 2 rfl) ?_
      obtain ⟨x8, ex, hm⟩ := g_bind hm
      refine vp_callSi (W.runS (As := [.int x2]) (rest := [.int (2 : Int32), .int y4]) ⟨hx, hb, hml, hown, hts⟩ (k_X5_start l  x2 _ ex) (va_cwS 1 hts gX5_giveBack_X5_start rfl rfl rfl (by decide +kernel) ⟨Nat.le_of_ble_eq_true rfl, Nat.le_of_ble_eq_true rfl⟩) ⟨w_bl0, fun U hU hW => ⟨rfl, trivial⟩⟩ rfl rfl hl.1 rfl (lv_room (Nat.le_of_ble_eq_true rfl)) dX5_giveBack_32 ⟨Nat.zero_le _, Nat.zero_le _⟩) (fun _ ey => ?_)
      subst ey
      refine lv_iload_n hx hb dX5_giveBack_35 rfl (lv_at hl 2 rfl) ?_
      obtain ⟨x9, ex, hm⟩ := g_bind hm
      refine vp_callSi (W.runS (As := [.int x2]) (rest := [.int x8, .int (2 : Int32), .int y4]) ⟨hx, hb, hml, hown, hts⟩ (k_X5_size l  x2 _ ex) (va_cwS 1 hts gX5_giveBack_X5_size rfl rfl rfl (by decide +kernel) ⟨Nat.le_of_ble_eq_true rfl, Nat.le_of_ble_eq_true rfl⟩) ⟨w_bl0, fun U hU hW => ⟨rfl, trivial⟩⟩ rfl rfl hl.1 rfl (lv_room (Nat.le_of_ble_eq_true rfl)) dX5_giveBack_36 ⟨Nat.zero_le _, Nat.zero_le _⟩) (fun _ ey => ?_)
      subst ey
      refine lv_iadd hx hb dX5_giveBack_39 ?_
      refine lv_imul hx hb dX5_giveBack_40 ?_
      refine lv_icmp_ge (tgt := 61) hx hb dX5_giveBack_41 (by decide) (fun c10 => ?_) (fun c10 => ?_)
      · have hm := g_t c10 hm
        cases hm
        exact hE7 _ hy _ _ hP hD hS _ (lv_sub hl [0, 1, 2] rfl)
      · have hm := g_f c10 hm
        refine lv_aload_n hx hb dX5_giveBack_44 rfl (lv_at hl 0 rfl) ?_
        refine va_get (D := (dC, dI)) (ci := 3) (v := .ref A_ma) (C := RX5) (T := TX5) (N := 12) hx hb hts hi_X5_giveBack_X5 hown hK hP 0 rfl rfl 3 (by decide) (hts (Cond.fieldLink RX5 13 "BuddyFilesModel" "mem" "[I") hk_X5_giveBack_13) (fun _ h9 => h9) rfl dX5_giveBack_45 ?_
        refine lv_bipush (v := 46) hx hb dX5_giveBack_48 (by decide) ?_
        refine lv_iload hx hb dX5_giveBack_50 (lv_at hl 3 rfl) ?_
        refine lv_iadd hx hb dX5_giveBack_52 ?_
        refine lv_iconst (v := 0) hx hb dX5_giveBack_53 (by decide) ?_
        obtain ⟨f11, ex, hm⟩ := g_bind hm
        refine w_ast hx hb hK hP hD hS 2 1 rfl rfl ex dX5_giveBack_54 (fun H12 locs12 hP hD hS => ?_)
        have hP : va_P (dC, dI) vwCl (wM A_x A_da A_ma A_ha A_ho A_ti A_be A_te A_ch K_da K_ma K_ha K_ho K_ti K_be K_te K_ch c_da f11 c_ha c_ho c_ti c_be c_te c_ch c_up c_fu c_tm c_tc) H12 := hP
        have hD : va_D A (wM A_x A_da A_ma A_ha A_ho A_ti A_be A_te A_ch K_da K_ma K_ha K_ho K_ti K_be K_te K_ch c_da f11 c_ha c_ho c_ti c_be c_te c_ch c_up c_fu c_tm c_tc) := hD
        refine lv_iinc (v := (y4 + (1 : Int32))) (lv' := [(4, .int (y4 + (1 : Int32))), (0, .ref A_x), (2, .int ((((7 : Int32) * p1) + (2 : Int32)) + x1)), (3, .int x2)]) hx hb dX5_giveBack_55 hl (k := 3) rfl rfl (by decide) rfl (fun ls hl => ?_)
        refine lv_goto (tgt := 28) hx hb dX5_giveBack_58 (by decide) ?_
        cases hm
        exact ih _ _ hy _ _ hP hD hS _ (lv_sub hl [1, 2, 3, 0] rfl)
  exact hL7 _ _ _ hlp _ _ hP hD hS _ (lv_sub hl [3, 2, 1, 0] rfl)
theorem hi_X5_shrink_X5 : ∀ w ∈ wsX50, w ∈ wsX5_shrink := by decide +kernel
theorem hk_X5_shrink_13 : Cond.fieldLink RX5 13 "BuddyFilesModel" "mem" "[I" ∈ wsX5_shrink := by decide +kernel
abbrev rm_X5_shrink : Room := { frames := 3, cells := 0, slots := 0, locals := 68 }
set_option maxHeartbeats 4000000 in
set_option maxRecDepth 100000 in
theorem k_X5_shrink (l : Launch) (dC : Nat → ClassId) (dI : Nat → Nat → Nat) (A_x A_da A_ma A_ha A_ho A_ti A_be A_te A_ch : Nat) (K_da K_ma K_ha K_ho K_ti K_be K_te K_ch : ClassId) (c_da c_ma c_ha c_ho c_ti c_be c_te c_ch : Nat → Int32) (c_up c_fu c_tm c_tc : Int32) (sz : Nat) (p1 : Int32) (p2 : Int32) (o_ma : (Nat → Int32)) (hm : m_X5_shrink c_ma p1 p2 = some o_ma) : Met l yX5_shrink wsX5_shrink rm_X5_shrink (va_Pc [.ref A_x, .int p1, .int p2] (fun U => U.heap.size = sz ∧ va_P (dC, dI) vwCl (wM A_x A_da A_ma A_ha A_ho A_ti A_be A_te A_ch K_da K_ma K_ha K_ho K_ti K_be K_te K_ch c_da c_ma c_ha c_ho c_ti c_be c_te c_ch c_up c_fu c_tm c_tc) U.heap ∧ va_K (dC, dI) vwCl (tM K_da K_ma K_ha K_ho K_ti K_be K_te K_ch) U ∧ va_D (fun _ => True) (wM A_x A_da A_ma A_ha A_ho A_ti A_be A_te A_ch K_da K_ma K_ha K_ho K_ti K_be K_te K_ch c_da c_ma c_ha c_ho c_ti c_be c_te c_ch c_up c_fu c_tm c_tc))) (va_Qv (fun (_ : Unit) => True) (fun _ t => va_P (dC, dI) vwCl (wM A_x A_da A_ma A_ha A_ho A_ti A_be A_te A_ch K_da K_ma K_ha K_ho K_ti K_be K_te K_ch c_da o_ma c_ha c_ho c_ti c_be c_te c_ch c_up c_fu c_tm c_tc) t.heap ∧ va_D (va_A (wM A_x A_da A_ma A_ha A_ho A_ti A_be A_te A_ch K_da K_ma K_ha K_ho K_ti K_be K_te K_ch c_da c_ma c_ha c_ho c_ti c_be c_te c_ch c_up c_fu c_tm c_tc) sz) (wM A_x A_da A_ma A_ha A_ho A_ti A_be A_te A_ch K_da K_ma K_ha K_ho K_ti K_be K_te K_ch c_da o_ma c_ha c_ho c_ti c_be c_te c_ch c_up c_fu c_tm c_tc)) (va_A (wM A_x A_da A_ma A_ha A_ho A_ti A_be A_te A_ch K_da K_ma K_ha K_ho K_ti K_be K_te K_ch c_da c_ma c_ha c_ho c_ti c_be c_te c_ch c_up c_fu c_tm c_tc) sz)) 0 0 (va_A (wM A_x A_da A_ma A_ha A_ho A_ti A_be A_te A_ch K_da K_ma K_ha K_ho K_ti K_be K_te K_ch c_da c_ma c_ha c_ho c_ti c_be c_te c_ch c_up c_fu c_tm c_tc) sz) := by
  refine Met.ofW (cc := cX5_shrink) (maxL := 5) (ret := (none)) (by decide) rfl ?_
  intro p e s m args below meth c s₁ B hml hv
  obtain ⟨rfl, hsz, hP, hK, hD0⟩ := hv
  have hx := B.exec
  have hb := B.bytes
  have hr := B.returns
  have hts := atoms_spec (ws := wsX5_shrink) B.pre
  have hown : s.vm.findClass RX5 = some m.cls := findClass_of_methodNamed B.named
  have hlocks := B.notSynchronized
  subst hsz
  have hD := hD0.self (sz := s.heap.size)
  generalize hAe : va_A (wM A_x A_da A_ma A_ha A_ho A_ti A_be A_te A_ch K_da K_ma K_ha K_ho K_ti K_be K_te K_ch c_da c_ma c_ha c_ho c_ti c_be c_te c_ch c_up c_fu c_tm c_tc) s.heap.size = A at hD ⊢
  have hA : ∀ q : Nat, s.heap.size ≤ q → A q := fun q h => by rw [← hAe]; exact Or.inr h
  have hS : va_S A s.heap s.heap [] := va_S.rf
  have hP : va_P (dC, dI) vwCl (wM A_x A_da A_ma A_ha A_ho A_ti A_be A_te A_ch K_da K_ma K_ha K_ho K_ti K_be K_te K_ch c_da c_ma c_ha c_ho c_ti c_be c_te c_ch c_up c_fu c_tm c_tc) s.heap := hP
  have hl := lv_entry ([.ref A_x, .int p1, .int p2]) (n := 5) (Nat.le_of_ble_eq_true rfl)
  rw [lg_entry_eq]
  generalize (lg_sl ([.ref A_x, .int p1, .int p2]) ++ List.replicate (5 - (lg_sl ([.ref A_x, .int p1, .int p2])).length) Slot.unset).toArray = ls at hl ⊢
  have hl : lv_has ls 5 [(0, .ref A_x), (1, .int p1), (2, .int p2)] := hl
  refine w_name (fun Q hQ => ?_)
  unfold m_X5_shrink at hm
  refine lv_iload_n hx hb dX5_shrink_0 rfl (lv_at hl 2 rfl) ?_
  refine lv_iconst (v := 1) hx hb dX5_shrink_1 (by decide) ?_
  refine lv_iadd hx hb dX5_shrink_2 ?_
  refine lv_iconst (v := 2) hx hb dX5_shrink_3 (by decide) ?_
  refine lv_idiv hx hb dX5_shrink_4 (by decide) ?_
  refine lv_istore_n (lv' := [(3, .int ((p2 + (1 : Int32)) / (2 : Int32))), (0, .ref A_x), (1, .int p1), (2, .int p2)]) hx hb dX5_shrink_5 rfl hl (by decide) rfl (fun ls hl => ?_)
  obtain ⟨rl3, hlp, hm⟩ := g_bind hm
  have hE3 : ∀ (f2 : (Nat → Int32)), f2 = rl3 → ∀ (H3e : Heap) (locs3e : List Loc), va_P (dC, dI) vwCl (wM A_x A_da A_ma A_ha A_ho A_ti A_be A_te A_ch K_da K_ma K_ha K_ho K_ti K_be K_te K_ch c_da f2 c_ha c_ho c_ti c_be c_te c_ch c_up c_fu c_tm c_tc) H3e → va_D A (wM A_x A_da A_ma A_ha A_ho A_ti A_be A_te A_ch K_da K_ma K_ha K_ho K_ti K_be K_te K_ch c_da f2 c_ha c_ho c_ti c_be c_te c_ch c_up c_fu c_tm c_tc) → va_S A s.heap H3e locs3e → ∀ (ls : Array Slot), lv_has ls 5 [(0, .ref A_x), (1, .int p1), (2, .int p2)] → W p l e (headSpec wsX5_shrink rm_X5_shrink).room s m (([.ref A_x, .int p1, .int p2] : List Value).toArray) below meth c H3e locs3e 0 0 Q (F0 m 47 ls []) := by
    intro f2 hq H3e locs3e hP hD hS ls hl
    subst hq
    have hm := g_k1_s hm
    refine lv_aload_n hx hb dX5_shrink_47 rfl (lv_at hl 0 rfl) ?_
    refine va_get (D := (dC, dI)) (ci := 3) (v := .ref A_ma) (C := RX5) (T := TX5) (N := 12) hx hb hts hi_X5_shrink_X5 hown hK hP 0 rfl rfl 3 (by decide) (hts (Cond.fieldLink RX5 13 "BuddyFilesModel" "mem" "[I") hk_X5_shrink_13) (fun _ h9 => h9) rfl dX5_shrink_48 ?_
    refine lv_bipush (v := 7) hx hb dX5_shrink_51 (by decide) ?_
    refine lv_iload_n hx hb dX5_shrink_53 rfl (lv_at hl 1 rfl) ?_
    refine lv_imul hx hb dX5_shrink_54 ?_
    refine lv_iconst (v := 2) hx hb dX5_shrink_55 (by decide) ?_
    refine lv_iadd hx hb dX5_shrink_56 ?_
    refine lv_iload_n hx hb dX5_shrink_57 rfl (lv_at hl 2 rfl) ?_
    obtain ⟨f13, ex, hm⟩ := g_bind hm
    refine w_ast hx hb hK hP hD hS 2 1 rfl rfl ex dX5_shrink_58 (fun H14 locs14 hP hD hS => ?_)
    have hP : va_P (dC, dI) vwCl (wM A_x A_da A_ma A_ha A_ho A_ti A_be A_te A_ch K_da K_ma K_ha K_ho K_ti K_be K_te K_ch c_da f13 c_ha c_ho c_ti c_be c_te c_ch c_up c_fu c_tm c_tc) H14 := hP
    have hD : va_D A (wM A_x A_da A_ma A_ha A_ho A_ti A_be A_te A_ch K_da K_ma K_ha K_ho K_ti K_be K_te K_ch c_da f13 c_ha c_ho c_ti c_be c_te c_ch c_up c_fu c_tm c_tc) := hD
    refine lv_iload_n hx hb dX5_shrink_59 rfl (lv_at hl 2 rfl) ?_
    refine lv_istore (lv' := [(4, .int p2), (0, .ref A_x), (1, .int p1), (2, .int p2)]) hx hb dX5_shrink_60 hl (by decide) rfl (fun ls hl => ?_)
    obtain ⟨rl18, hlp, hm⟩ := g_bind hm
    have hE18 : ∀ (f17 : (Nat → Int32)), f17 = rl18 → ∀ (H18e : Heap) (locs18e : List Loc), va_P (dC, dI) vwCl (wM A_x A_da A_ma A_ha A_ho A_ti A_be A_te A_ch K_da K_ma K_ha K_ho K_ti K_be K_te K_ch c_da f17 c_ha c_ho c_ti c_be c_te c_ch c_up c_fu c_tm c_tc) H18e → va_D A (wM A_x A_da A_ma A_ha A_ho A_ti A_be A_te A_ch K_da K_ma K_ha K_ho K_ti K_be K_te K_ch c_da f17 c_ha c_ho c_ti c_be c_te c_ch c_up c_fu c_tm c_tc) → va_S A s.heap H18e locs18e → ∀ (ls : Array Slot), lv_has ls 5 [] → W p l e (headSpec wsX5_shrink rm_X5_shrink).room s m (([.ref A_x, .int p1, .int p2] : List Value).toArray) below meth c H18e locs18e 0 0 Q (F0 m 93 ls []) := by
      intro f17 hq H18e locs18e hP hD hS ls hl
      subst hq
      have hm := g_k1_s hm
      cases hm
      subst hQ
      exact W.vret hx hb hr (fun t ht hW => ⟨⟨(), rfl, trivial, by rw [ht]; exact hP, hD⟩, hS.F ht⟩) hS.2.2 dX5_shrink_93
    have hL18 : ∀ (n : Nat) (y15 : Int32) (f16 : (Nat → Int32)), g_loop (fun q => m_X5_shrink_L62 p1 q.1 q.2) n (y15, f16) = some rl18 → ∀ (H18b : Heap) (locs18b : List Loc), va_P (dC, dI) vwCl (wM A_x A_da A_ma A_ha A_ho A_ti A_be A_te A_ch K_da K_ma K_ha K_ho K_ti K_be K_te K_ch c_da f16 c_ha c_ho c_ti c_be c_te c_ch c_up c_fu c_tm c_tc) H18b → va_D A (wM A_x A_da A_ma A_ha A_ho A_ti A_be A_te A_ch K_da K_ma K_ha K_ho K_ti K_be K_te K_ch c_da f16 c_ha c_ho c_ti c_be c_te c_ch c_up c_fu c_tm c_tc) → va_S A s.heap H18b locs18b → ∀ (ls : Array Slot), lv_has ls 5 [(0, .ref A_x), (1, .int p1), (4, .int y15)] → W p l e (headSpec wsX5_shrink rm_X5_shrink).room s m (([.ref A_x, .int p1, .int p2] : List Value).toArray) below meth c H18b locs18b 0 0 Q (F0 m 62 ls []) := by
      intro n
      induction n with
      | zero =>
        intro y15 f16 hm
        exact g_loop_z hm
      | succ n ih =>
        intro y15 f16 hm H18b locs18b hP hD hS ls hl
        obtain ⟨q, hm, hy⟩ := g_loop_s hm
        have hm : m_X5_shrink_L62 p1 y15 f16 = some q := hm
        unfold m_X5_shrink_L62 at hm
        refine lv_iload hx hb dX5_shrink_62 (lv_at hl 2 rfl) ?_
        refine lv_iconst (v := 2) hx hb dX5_shrink_64 (by decide) ?_
        refine lv_aload_n hx hb dX5_shrink_65 rfl (lv_at hl 0 rfl) ?_
        refine lv_iload_n hx hb dX5_shrink_66 rfl (lv_at hl 1 rfl) ?_
        obtain ⟨x19, ex, hm⟩ := g_bind hm
        refine vp_callSi (W.runV (As := [.int p1]) (rest := [.int (2 : Int32), .int y15]) ⟨hx, hb, hml, hown, hts⟩ (k_X5_blocks l dC dI A_x A_da A_ma A_ha A_ho A_ti A_be A_te A_ch K_da K_ma K_ha K_ho K_ti K_be K_te K_ch c_da f16 c_ha c_ho c_ti c_be c_te c_ch c_up c_fu c_tm c_tc p1 _ ex) (cwV 1 hts gX5_shrink_X5_blocks rfl rfl rfl (by decide +kernel) ⟨Nat.le_of_ble_eq_true rfl, Nat.le_of_ble_eq_true rfl⟩) ⟨w_blR, va_recv hK hP (ci := 3) (q0 := 0) rfl rfl, fun U hU hW => ⟨rfl, by rw [hU]; exact hP.sub [0, 1, 2, 3, 4, 5, 6, 7, 8] rfl, va_K.moved hW.alike (hK.sub [0, 1, 2, 3, 4, 5, 6, 7] rfl)⟩⟩ rfl rfl hl.1 rfl (lv_room (Nat.le_of_ble_eq_true rfl)) dX5_shrink_67 ⟨Nat.zero_le _, Nat.zero_le _⟩) (fun _ ey => ?_)
        subst ey
        refine lv_imul hx hb dX5_shrink_70 ?_
        refine lv_icmp_ge (tgt := 93) hx hb dX5_shrink_71 (by decide) (fun c20 => ?_) (fun c20 => ?_)
        · have hm := g_t c20 hm
          cases hm
          exact hE18 _ hy _ _ hP hD hS _ (lv_sub hl [] rfl)
        · have hm := g_f c20 hm
          refine lv_aload_n hx hb dX5_shrink_74 rfl (lv_at hl 0 rfl) ?_
          refine va_get (D := (dC, dI)) (ci := 3) (v := .ref A_ma) (C := RX5) (T := TX5) (N := 12) hx hb hts hi_X5_shrink_X5 hown hK hP 0 rfl rfl 3 (by decide) (hts (Cond.fieldLink RX5 13 "BuddyFilesModel" "mem" "[I") hk_X5_shrink_13) (fun _ h9 => h9) rfl dX5_shrink_75 ?_
          refine lv_aload_n hx hb dX5_shrink_78 rfl (lv_at hl 0 rfl) ?_
          refine lv_iload_n hx hb dX5_shrink_79 rfl (lv_at hl 1 rfl) ?_
          refine lv_iload hx hb dX5_shrink_80 (lv_at hl 2 rfl) ?_
          obtain ⟨x21, ex, hm⟩ := g_bind hm
          refine vp_callSi (W.runV (As := [.int p1, .int y15]) (rest := [.ref A_ma]) ⟨hx, hb, hml, hown, hts⟩ (k_X5_wordCell l dC dI A_x A_da A_ma A_ha A_ho A_ti A_be A_te A_ch K_da K_ma K_ha K_ho K_ti K_be K_te K_ch c_da f16 c_ha c_ho c_ti c_be c_te c_ch c_up c_fu c_tm c_tc p1 y15 _ ex) (cwV 2 hts gX5_shrink_X5_wordCell rfl rfl rfl (by decide +kernel) ⟨Nat.le_of_ble_eq_true rfl, Nat.le_of_ble_eq_true rfl⟩) ⟨w_blR, va_recv hK hP (ci := 3) (q0 := 0) rfl rfl, fun U hU hW => ⟨rfl, by rw [hU]; exact hP.sub [0, 1, 2, 3, 4, 5, 6, 7, 8] rfl, va_K.moved hW.alike (hK.sub [0, 1, 2, 3, 4, 5, 6, 7] rfl)⟩⟩ rfl rfl hl.1 rfl (lv_room (Nat.le_of_ble_eq_true rfl)) dX5_shrink_82 ⟨Nat.zero_le _, Nat.zero_le _⟩) (fun _ ey => ?_)
          subst ey
          refine lv_iconst (v := 0) hx hb dX5_shrink_85 (by decide) ?_
          obtain ⟨f22, ex, hm⟩ := g_bind hm
          refine w_ast hx hb hK hP hD hS 2 1 rfl rfl ex dX5_shrink_86 (fun H23 locs23 hP hD hS => ?_)
          have hP : va_P (dC, dI) vwCl (wM A_x A_da A_ma A_ha A_ho A_ti A_be A_te A_ch K_da K_ma K_ha K_ho K_ti K_be K_te K_ch c_da f22 c_ha c_ho c_ti c_be c_te c_ch c_up c_fu c_tm c_tc) H23 := hP
          have hD : va_D A (wM A_x A_da A_ma A_ha A_ho A_ti A_be A_te A_ch K_da K_ma K_ha K_ho K_ti K_be K_te K_ch c_da f22 c_ha c_ho c_ti c_be c_te c_ch c_up c_fu c_tm c_tc) := hD
          refine lv_iinc (v := (y15 + (1 : Int32))) (lv' := [(4, .int (y15 + (1 : Int32))), (0, .ref A_x), (1, .int p1)]) hx hb dX5_shrink_87 hl (k := 2) rfl rfl (by decide) rfl (fun ls hl => ?_)
          refine lv_goto (tgt := 62) hx hb dX5_shrink_90 (by decide) ?_
          cases hm
          exact ih _ _ hy _ _ hP hD hS _ (lv_sub hl [1, 2, 0] rfl)
    exact hL18 _ _ _ hlp _ _ hP hD hS _ (lv_sub hl [1, 2, 0] rfl)
  have hL3 : ∀ (n : Nat) (f1 : (Nat → Int32)), g_loop (fun q => m_X5_shrink_L6 p1 p2 q) n f1 = some rl3 → ∀ (H3b : Heap) (locs3b : List Loc), va_P (dC, dI) vwCl (wM A_x A_da A_ma A_ha A_ho A_ti A_be A_te A_ch K_da K_ma K_ha K_ho K_ti K_be K_te K_ch c_da f1 c_ha c_ho c_ti c_be c_te c_ch c_up c_fu c_tm c_tc) H3b → va_D A (wM A_x A_da A_ma A_ha A_ho A_ti A_be A_te A_ch K_da K_ma K_ha K_ho K_ti K_be K_te K_ch c_da f1 c_ha c_ho c_ti c_be c_te c_ch c_up c_fu c_tm c_tc) → va_S A s.heap H3b locs3b → ∀ (ls : Array Slot), lv_has ls 5 [(0, .ref A_x), (1, .int p1), (2, .int p2), (3, .int ((p2 + (1 : Int32)) / (2 : Int32)))] → W p l e (headSpec wsX5_shrink rm_X5_shrink).room s m (([.ref A_x, .int p1, .int p2] : List Value).toArray) below meth c H3b locs3b 0 0 Q (F0 m 6 ls []) := by
    intro n
    induction n with
    | zero =>
      intro f1 hm
      exact g_loop_z hm
    | succ n ih =>
      intro f1 hm H3b locs3b hP hD hS ls hl
      obtain ⟨q, hm, hy⟩ := g_loop_s hm
      have hm : m_X5_shrink_L6 p1 p2 f1 = some q := hm
      unfold m_X5_shrink_L6 at hm
      refine lv_aload_n hx hb dX5_shrink_6 rfl (lv_at hl 0 rfl) ?_
      refine lv_iload_n hx hb dX5_shrink_7 rfl (lv_at hl 1 rfl) ?_
      obtain ⟨x4, ex, hm⟩ := g_bind hm
      refine vp_callSi (W.runV (As := [.int p1]) (rest := []) ⟨hx, hb, hml, hown, hts⟩ (k_X5_runs l dC dI A_x A_da A_ma A_ha A_ho A_ti A_be A_te A_ch K_da K_ma K_ha K_ho K_ti K_be K_te K_ch c_da f1 c_ha c_ho c_ti c_be c_te c_ch c_up c_fu c_tm c_tc p1 _ ex) (cwV 1 hts gX5_shrink_X5_runs rfl rfl rfl (by decide +kernel) ⟨Nat.le_of_ble_eq_true rfl, Nat.le_of_ble_eq_true rfl⟩) ⟨w_blR, va_recv hK hP (ci := 3) (q0 := 0) rfl rfl, fun U hU hW => ⟨rfl, by rw [hU]; exact hP.sub [0, 1, 2, 3, 4, 5, 6, 7, 8] rfl, va_K.moved hW.alike (hK.sub [0, 1, 2, 3, 4, 5, 6, 7] rfl)⟩⟩ rfl rfl hl.1 rfl (lv_room (Nat.le_of_ble_eq_true rfl)) dX5_shrink_8 ⟨Nat.zero_le _, Nat.zero_le _⟩) (fun _ ey => ?_)
      subst ey
      refine lv_if_le (tgt := 47) hx hb dX5_shrink_11 (by decide) (fun c5 => ?_) (fun c5 => ?_)
      · have hm := g_t c5 hm
        cases hm
        exact hE3 _ hy _ _ hP hD hS _ (lv_sub hl [0, 1, 2] rfl)
      · have hm := g_f c5 hm
        refine lv_aload_n hx hb dX5_shrink_14 rfl (lv_at hl 0 rfl) ?_
        refine lv_iload_n hx hb dX5_shrink_15 rfl (lv_at hl 1 rfl) ?_
        obtain ⟨x6, ex, hm⟩ := g_bind hm
        refine vp_callSi (W.runV (As := [.int p1]) (rest := []) ⟨hx, hb, hml, hown, hts⟩ (k_X5_blocks l dC dI A_x A_da A_ma A_ha A_ho A_ti A_be A_te A_ch K_da K_ma K_ha K_ho K_ti K_be K_te K_ch c_da f1 c_ha c_ho c_ti c_be c_te c_ch c_up c_fu c_tm c_tc p1 _ ex) (cwV 1 hts gX5_shrink_X5_blocks rfl rfl rfl (by decide +kernel) ⟨Nat.le_of_ble_eq_true rfl, Nat.le_of_ble_eq_true rfl⟩) ⟨w_blR, va_recv hK hP (ci := 3) (q0 := 0) rfl rfl, fun U hU hW => ⟨rfl, by rw [hU]; exact hP.sub [0, 1, 2, 3, 4, 5, 6, 7, 8] rfl, va_K.moved hW.alike (hK.sub [0, 1, 2, 3, 4, 5, 6, 7] rfl)⟩⟩ rfl rfl hl.1 rfl (lv_room (Nat.le_of_ble_eq_true rfl)) dX5_shrink_16 ⟨Nat.zero_le _, Nat.zero_le _⟩) (fun _ ey => ?_)
        subst ey
        refine lv_aload_n hx hb dX5_shrink_19 rfl (lv_at hl 0 rfl) ?_
        refine lv_iload_n hx hb dX5_shrink_20 rfl (lv_at hl 1 rfl) ?_
        refine lv_aload_n hx hb dX5_shrink_21 rfl (lv_at hl 0 rfl) ?_
        refine lv_iload_n hx hb dX5_shrink_22 rfl (lv_at hl 1 rfl) ?_
        obtain ⟨x7, ex, hm⟩ := g_bind hm
        refine vp_callSi (W.runV (As := [.int p1]) (rest := [.int p1, .ref A_x, .int x6]) ⟨hx, hb, hml, hown, hts⟩ (k_X5_runs l dC dI A_x A_da A_ma A_ha A_ho A_ti A_be A_te A_ch K_da K_ma K_ha K_ho K_ti K_be K_te K_ch c_da f1 c_ha c_ho c_ti c_be c_te c_ch c_up c_fu c_tm c_tc p1 _ ex) (cwV 1 hts gX5_shrink_X5_runs rfl rfl rfl (by decide +kernel) ⟨Nat.le_of_ble_eq_true rfl, Nat.le_of_ble_eq_true rfl⟩) ⟨w_blR, va_recv hK hP (ci := 3) (q0 := 0) rfl rfl, fun U hU hW => ⟨rfl, by rw [hU]; exact hP.sub [0, 1, 2, 3, 4, 5, 6, 7, 8] rfl, va_K.moved hW.alike (hK.sub [0, 1, 2, 3, 4, 5, 6, 7] rfl)⟩⟩ rfl rfl hl.1 rfl (lv_room (Nat.le_of_ble_eq_true rfl)) dX5_shrink_23 ⟨Nat.zero_le _, Nat.zero_le _⟩) (fun _ ey => ?_)
        subst ey
        refine lv_iconst (v := 1) hx hb dX5_shrink_26 (by decide) ?_
        refine lv_isub hx hb dX5_shrink_27 ?_
        obtain ⟨x8, ex, hm⟩ := g_bind hm
        refine vp_callSi (W.runV (As := [.int p1, .int (x7 - (1 : Int32))]) (rest := [.int x6]) ⟨hx, hb, hml, hown, hts⟩ (k_X5_extentOf l dC dI A_x A_da A_ma A_ha A_ho A_ti A_be A_te A_ch K_da K_ma K_ha K_ho K_ti K_be K_te K_ch c_da f1 c_ha c_ho c_ti c_be c_te c_ch c_up c_fu c_tm c_tc p1 (x7 - (1 : Int32)) _ ex) (cwV 2 hts gX5_shrink_X5_extentOf rfl rfl rfl (by decide +kernel) ⟨Nat.le_of_ble_eq_true rfl, Nat.le_of_ble_eq_true rfl⟩) ⟨w_blR, va_recv hK hP (ci := 3) (q0 := 0) rfl rfl, fun U hU hW => ⟨rfl, by rw [hU]; exact hP.sub [0, 1, 2, 3, 4, 5, 6, 7, 8] rfl, va_K.moved hW.alike (hK.sub [0, 1, 2, 3, 4, 5, 6, 7] rfl)⟩⟩ rfl rfl hl.1 rfl (lv_room (Nat.le_of_ble_eq_true rfl)) dX5_shrink_28 ⟨Nat.zero_le _, Nat.zero_le _⟩) (fun _ ey => ?_)
        subst ey
        obtain ⟨x9, ex, hm⟩ := g_bind hm
        refine vp_callSi (W.runS (As := [.int x8]) (rest := [.int x6]) ⟨hx, hb, hml, hown, hts⟩ (k_X5_size l  x8 _ ex) (va_cwS 1 hts gX5_shrink_X5_size rfl rfl rfl (by decide +kernel) ⟨Nat.le_of_ble_eq_true rfl, Nat.le_of_ble_eq_true rfl⟩) ⟨w_bl0, fun U hU hW => ⟨rfl, trivial⟩⟩ rfl rfl hl.1 rfl (lv_room (Nat.le_of_ble_eq_true rfl)) dX5_shrink_31 ⟨Nat.zero_le _, Nat.zero_le _⟩) (fun _ ey => ?_)
        subst ey
        refine lv_isub hx hb dX5_shrink_34 ?_
        refine lv_iload_n hx hb dX5_shrink_35 rfl (lv_at hl 3 rfl) ?_
        refine lv_icmp_lt (tgt := 47) hx hb dX5_shrink_36 (by decide) (fun c10 => ?_) (fun c10 => ?_)
        · have hm := g_t c10 hm
          cases hm
          exact hE3 _ hy _ _ hP hD hS _ (lv_sub hl [0, 1, 2] rfl)
        · have hm := g_f c10 hm
          refine lv_aload_n hx hb dX5_shrink_39 rfl (lv_at hl 0 rfl) ?_
          refine lv_iload_n hx hb dX5_shrink_40 rfl (lv_at hl 1 rfl) ?_
          obtain ⟨f11, ex, hm⟩ := g_bind hm
          have hPc := hP.sub (ws' := (wM A_x A_da A_ma A_ha A_ho A_ti A_be A_te A_ch K_da K_ma K_ha K_ho K_ti K_be K_te K_ch c_da f1 c_ha c_ho c_ti c_be c_te c_ch c_up c_fu c_tm c_tc)) [0, 1, 2, 3, 4, 5, 6, 7, 8] rfl
          have hDc := hD.sub (ws' := (wM A_x A_da A_ma A_ha A_ho A_ti A_be A_te A_ch K_da K_ma K_ha K_ho K_ti K_be K_te K_ch c_da f1 c_ha c_ho c_ti c_be c_te c_ch c_up c_fu c_tm c_tc)) [0, 1, 2, 3, 4, 5, 6, 7, 8] (by decide) rfl
          have hKc := hK.sub (tys' := (tM K_da K_ma K_ha K_ho K_ti K_be K_te K_ch)) [0, 1, 2, 3, 4, 5, 6, 7] rfl
          have hFc := va_free (wc := (wM A_x A_da A_ma A_ha A_ho A_ti A_be A_te A_ch K_da K_ma K_ha K_ho K_ti K_be K_te K_ch c_da f1 c_ha c_ho c_ti c_be c_te c_ch c_up c_fu c_tm c_tc)) hD hS hA [0, 1, 2, 3, 4, 5, 6, 7, 8] rfl
          refine va_callv (va_runV (As := [.int p1]) (rest := []) ⟨hx, hb, hml, hown, hts⟩ (k_X5_giveBack l dC dI A_x A_da A_ma A_ha A_ho A_ti A_be A_te A_ch K_da K_ma K_ha K_ho K_ti K_be K_te K_ch c_da f1 c_ha c_ho c_ti c_be c_te c_ch c_up c_fu c_tm c_tc H3b.size p1 _ ex) (cwV 1 hts gX5_shrink_X5_giveBack rfl rfl rfl (by decide +kernel) ⟨Nat.le_of_ble_eq_true rfl, Nat.le_of_ble_eq_true rfl⟩) ⟨w_blW, va_recv hKc hPc (ci := 3) (q0 := 0) rfl rfl, fun U hU hW => ⟨rfl, by rw [hU], by rw [hU]; exact hPc, va_K.moved hW.alike hKc, hDc.weaken (fun _ _ _ _ => trivial)⟩⟩ rfl rfl hl.1 rfl (lv_room (Nat.le_of_ble_eq_true rfl)) dX5_shrink_41 ⟨Nat.zero_le _, Nat.zero_le _⟩) hS (fun q _ h => hFc q h) hFc (fun _ t H12 locs12 ht hvm hw hB hz1 hk1 hS => ?_)
          refine W.widen (k := 0) (n := 0) (Nat.le_refl 0) (Nat.le_refl 0) ?_
          obtain ⟨hP1, hD1⟩ := hB
          rw [ht] at hP1
          obtain ⟨hP, hD⟩ := va_join (wr := []) (w1 := (wM A_x A_da A_ma A_ha A_ho A_ti A_be A_te A_ch K_da K_ma K_ha K_ho K_ti K_be K_te K_ch c_da f11 c_ha c_ho c_ti c_be c_te c_ch c_up c_fu c_tm c_tc)) hP hD [0, 1, 2, 3, 4, 5, 6, 7, 8] [] rfl rfl (by decide) (by decide) hk1 hFc hP1 hD1
          have hP : va_P (dC, dI) vwCl (wM A_x A_da A_ma A_ha A_ho A_ti A_be A_te A_ch K_da K_ma K_ha K_ho K_ti K_be K_te K_ch c_da f11 c_ha c_ho c_ti c_be c_te c_ch c_up c_fu c_tm c_tc) H12 := hP.sub [0, 1, 2, 3, 4, 5, 6, 7, 8] rfl
          have hD : va_D A (wM A_x A_da A_ma A_ha A_ho A_ti A_be A_te A_ch K_da K_ma K_ha K_ho K_ti K_be K_te K_ch c_da f11 c_ha c_ho c_ti c_be c_te c_ch c_up c_fu c_tm c_tc) := hD.sub [0, 1, 2, 3, 4, 5, 6, 7, 8] (by decide) rfl
          refine lv_goto (tgt := 6) hx hb dX5_shrink_44 (by decide) ?_
          cases hm
          exact ih _ hy _ _ hP hD hS _ (lv_sub hl [0, 1, 2, 3] rfl)
  exact hL3 _ _ hlp _ _ hP hD hS _ (lv_sub hl [1, 2, 3, 0] rfl)
theorem hi_X5_takeAway_X5 : ∀ w ∈ wsX50, w ∈ wsX5_takeAway := by decide +kernel
theorem hk_X5_takeAway_13 : Cond.fieldLink RX5 13 "BuddyFilesModel" "mem" "[I" ∈ wsX5_takeAway := by decide +kernel
abbrev rm_X5_takeAway : Room := { frames := 3, cells := 0, slots := 0, locals := 68 }
set_option maxHeartbeats 4000000 in
set_option maxRecDepth 100000 in
theorem k_X5_takeAway (l : Launch) (dC : Nat → ClassId) (dI : Nat → Nat → Nat) (A_x A_da A_ma A_ha A_ho A_ti A_be A_te A_ch : Nat) (K_da K_ma K_ha K_ho K_ti K_be K_te K_ch : ClassId) (c_da c_ma c_ha c_ho c_ti c_be c_te c_ch : Nat → Int32) (c_up c_fu c_tm c_tc : Int32) (sz : Nat) (p1 : Int32) (o_ma : (Nat → Int32)) (hm : m_X5_takeAway c_ma p1 = some o_ma) : Met l yX5_takeAway wsX5_takeAway rm_X5_takeAway (va_Pc [.ref A_x, .int p1] (fun U => U.heap.size = sz ∧ va_P (dC, dI) vwCl (wM A_x A_da A_ma A_ha A_ho A_ti A_be A_te A_ch K_da K_ma K_ha K_ho K_ti K_be K_te K_ch c_da c_ma c_ha c_ho c_ti c_be c_te c_ch c_up c_fu c_tm c_tc) U.heap ∧ va_K (dC, dI) vwCl (tM K_da K_ma K_ha K_ho K_ti K_be K_te K_ch) U ∧ va_D (fun _ => True) (wM A_x A_da A_ma A_ha A_ho A_ti A_be A_te A_ch K_da K_ma K_ha K_ho K_ti K_be K_te K_ch c_da c_ma c_ha c_ho c_ti c_be c_te c_ch c_up c_fu c_tm c_tc))) (va_Qv (fun (_ : Unit) => True) (fun _ t => va_P (dC, dI) vwCl (wM A_x A_da A_ma A_ha A_ho A_ti A_be A_te A_ch K_da K_ma K_ha K_ho K_ti K_be K_te K_ch c_da o_ma c_ha c_ho c_ti c_be c_te c_ch c_up c_fu c_tm c_tc) t.heap ∧ va_D (va_A (wM A_x A_da A_ma A_ha A_ho A_ti A_be A_te A_ch K_da K_ma K_ha K_ho K_ti K_be K_te K_ch c_da c_ma c_ha c_ho c_ti c_be c_te c_ch c_up c_fu c_tm c_tc) sz) (wM A_x A_da A_ma A_ha A_ho A_ti A_be A_te A_ch K_da K_ma K_ha K_ho K_ti K_be K_te K_ch c_da o_ma c_ha c_ho c_ti c_be c_te c_ch c_up c_fu c_tm c_tc)) (va_A (wM A_x A_da A_ma A_ha A_ho A_ti A_be A_te A_ch K_da K_ma K_ha K_ho K_ti K_be K_te K_ch c_da c_ma c_ha c_ho c_ti c_be c_te c_ch c_up c_fu c_tm c_tc) sz)) 0 0 (va_A (wM A_x A_da A_ma A_ha A_ho A_ti A_be A_te A_ch K_da K_ma K_ha K_ho K_ti K_be K_te K_ch c_da c_ma c_ha c_ho c_ti c_be c_te c_ch c_up c_fu c_tm c_tc) sz) := by
  refine Met.ofW (cc := cX5_takeAway) (maxL := 3) (ret := (none)) (by decide) rfl ?_
  intro p e s m args below meth c s₁ B hml hv
  obtain ⟨rfl, hsz, hP, hK, hD0⟩ := hv
  have hx := B.exec
  have hb := B.bytes
  have hr := B.returns
  have hts := atoms_spec (ws := wsX5_takeAway) B.pre
  have hown : s.vm.findClass RX5 = some m.cls := findClass_of_methodNamed B.named
  have hlocks := B.notSynchronized
  subst hsz
  have hD := hD0.self (sz := s.heap.size)
  generalize hAe : va_A (wM A_x A_da A_ma A_ha A_ho A_ti A_be A_te A_ch K_da K_ma K_ha K_ho K_ti K_be K_te K_ch c_da c_ma c_ha c_ho c_ti c_be c_te c_ch c_up c_fu c_tm c_tc) s.heap.size = A at hD ⊢
  have hA : ∀ q : Nat, s.heap.size ≤ q → A q := fun q h => by rw [← hAe]; exact Or.inr h
  have hS : va_S A s.heap s.heap [] := va_S.rf
  have hP : va_P (dC, dI) vwCl (wM A_x A_da A_ma A_ha A_ho A_ti A_be A_te A_ch K_da K_ma K_ha K_ho K_ti K_be K_te K_ch c_da c_ma c_ha c_ho c_ti c_be c_te c_ch c_up c_fu c_tm c_tc) s.heap := hP
  have hl := lv_entry ([.ref A_x, .int p1]) (n := 3) (Nat.le_of_ble_eq_true rfl)
  rw [lg_entry_eq]
  generalize (lg_sl ([.ref A_x, .int p1]) ++ List.replicate (3 - (lg_sl ([.ref A_x, .int p1])).length) Slot.unset).toArray = ls at hl ⊢
  have hl : lv_has ls 3 [(0, .ref A_x), (1, .int p1)] := hl
  refine w_name (fun Q hQ => ?_)
  unfold m_X5_takeAway at hm
  obtain ⟨rl3, hlp, hm⟩ := g_bind hm
  have hE3 : ∀ (f2 : (Nat → Int32)), f2 = rl3 → ∀ (H3e : Heap) (locs3e : List Loc), va_P (dC, dI) vwCl (wM A_x A_da A_ma A_ha A_ho A_ti A_be A_te A_ch K_da K_ma K_ha K_ho K_ti K_be K_te K_ch c_da f2 c_ha c_ho c_ti c_be c_te c_ch c_up c_fu c_tm c_tc) H3e → va_D A (wM A_x A_da A_ma A_ha A_ho A_ti A_be A_te A_ch K_da K_ma K_ha K_ho K_ti K_be K_te K_ch c_da f2 c_ha c_ho c_ti c_be c_te c_ch c_up c_fu c_tm c_tc) → va_S A s.heap H3e locs3e → ∀ (ls : Array Slot), lv_has ls 3 [(0, .ref A_x), (1, .int p1)] → W p l e (headSpec wsX5_takeAway rm_X5_takeAway).room s m (([.ref A_x, .int p1] : List Value).toArray) below meth c H3e locs3e 0 0 Q (F0 m 16 ls []) := by
    intro f2 hq H3e locs3e hP hD hS ls hl
    subst hq
    have hm := g_k1_s hm
    refine lv_bipush (v := 7) hx hb dX5_takeAway_16 (by decide) ?_
    refine lv_iload_n hx hb dX5_takeAway_18 rfl (lv_at hl 1 rfl) ?_
    refine lv_imul hx hb dX5_takeAway_19 ?_
    refine lv_istore_n (lv' := [(2, .int ((7 : Int32) * p1)), (0, .ref A_x), (1, .int p1)]) hx hb dX5_takeAway_20 rfl hl (by decide) rfl (fun ls hl => ?_)
    obtain ⟨rl11, hlp, hm⟩ := g_bind hm
    have hE11 : ∀ (f10 : (Nat → Int32)), f10 = rl11 → ∀ (H11e : Heap) (locs11e : List Loc), va_P (dC, dI) vwCl (wM A_x A_da A_ma A_ha A_ho A_ti A_be A_te A_ch K_da K_ma K_ha K_ho K_ti K_be K_te K_ch c_da f10 c_ha c_ho c_ti c_be c_te c_ch c_up c_fu c_tm c_tc) H11e → va_D A (wM A_x A_da A_ma A_ha A_ho A_ti A_be A_te A_ch K_da K_ma K_ha K_ho K_ti K_be K_te K_ch c_da f10 c_ha c_ho c_ti c_be c_te c_ch c_up c_fu c_tm c_tc) → va_S A s.heap H11e locs11e → ∀ (ls : Array Slot), lv_has ls 3 [] → W p l e (headSpec wsX5_takeAway rm_X5_takeAway).room s m (([.ref A_x, .int p1] : List Value).toArray) below meth c H11e locs11e 0 0 Q (F0 m 45 ls []) := by
      intro f10 hq H11e locs11e hP hD hS ls hl
      subst hq
      have hm := g_k1_s hm
      cases hm
      subst hQ
      exact W.vret hx hb hr (fun t ht hW => ⟨⟨(), rfl, trivial, by rw [ht]; exact hP, hD⟩, hS.F ht⟩) hS.2.2 dX5_takeAway_45
    have hL11 : ∀ (n : Nat) (y8 : Int32) (f9 : (Nat → Int32)), g_loop (fun q => m_X5_takeAway_L21 p1 q.1 q.2) n (y8, f9) = some rl11 → ∀ (H11b : Heap) (locs11b : List Loc), va_P (dC, dI) vwCl (wM A_x A_da A_ma A_ha A_ho A_ti A_be A_te A_ch K_da K_ma K_ha K_ho K_ti K_be K_te K_ch c_da f9 c_ha c_ho c_ti c_be c_te c_ch c_up c_fu c_tm c_tc) H11b → va_D A (wM A_x A_da A_ma A_ha A_ho A_ti A_be A_te A_ch K_da K_ma K_ha K_ho K_ti K_be K_te K_ch c_da f9 c_ha c_ho c_ti c_be c_te c_ch c_up c_fu c_tm c_tc) → va_S A s.heap H11b locs11b → ∀ (ls : Array Slot), lv_has ls 3 [(0, .ref A_x), (1, .int p1), (2, .int y8)] → W p l e (headSpec wsX5_takeAway rm_X5_takeAway).room s m (([.ref A_x, .int p1] : List Value).toArray) below meth c H11b locs11b 0 0 Q (F0 m 21 ls []) := by
      intro n
      induction n with
      | zero =>
        intro y8 f9 hm
        exact g_loop_z hm
      | succ n ih =>
        intro y8 f9 hm H11b locs11b hP hD hS ls hl
        obtain ⟨q, hm, hy⟩ := g_loop_s hm
        have hm : m_X5_takeAway_L21 p1 y8 f9 = some q := hm
        unfold m_X5_takeAway_L21 at hm
        refine lv_iload_n hx hb dX5_takeAway_21 rfl (lv_at hl 2 rfl) ?_
        refine lv_bipush (v := 7) hx hb dX5_takeAway_22 (by decide) ?_
        refine lv_iload_n hx hb dX5_takeAway_24 rfl (lv_at hl 1 rfl) ?_
        refine lv_imul hx hb dX5_takeAway_25 ?_
        refine lv_bipush (v := 7) hx hb dX5_takeAway_26 (by decide) ?_
        refine lv_iadd hx hb dX5_takeAway_28 ?_
        refine lv_icmp_ge (tgt := 45) hx hb dX5_takeAway_29 (by decide) (fun c12 => ?_) (fun c12 => ?_)
        · have hm := g_t c12 hm
          cases hm
          exact hE11 _ hy _ _ hP hD hS _ (lv_sub hl [] rfl)
        · have hm := g_f c12 hm
          refine lv_aload_n hx hb dX5_takeAway_32 rfl (lv_at hl 0 rfl) ?_
          refine va_get (D := (dC, dI)) (ci := 3) (v := .ref A_ma) (C := RX5) (T := TX5) (N := 12) hx hb hts hi_X5_takeAway_X5 hown hK hP 0 rfl rfl 3 (by decide) (hts (Cond.fieldLink RX5 13 "BuddyFilesModel" "mem" "[I") hk_X5_takeAway_13) (fun _ h9 => h9) rfl dX5_takeAway_33 ?_
          refine lv_iload_n hx hb dX5_takeAway_36 rfl (lv_at hl 2 rfl) ?_
          refine lv_iconst (v := 0) hx hb dX5_takeAway_37 (by decide) ?_
          obtain ⟨f13, ex, hm⟩ := g_bind hm
          refine w_ast hx hb hK hP hD hS 2 1 rfl rfl ex dX5_takeAway_38 (fun H14 locs14 hP hD hS => ?_)
          have hP : va_P (dC, dI) vwCl (wM A_x A_da A_ma A_ha A_ho A_ti A_be A_te A_ch K_da K_ma K_ha K_ho K_ti K_be K_te K_ch c_da f13 c_ha c_ho c_ti c_be c_te c_ch c_up c_fu c_tm c_tc) H14 := hP
          have hD : va_D A (wM A_x A_da A_ma A_ha A_ho A_ti A_be A_te A_ch K_da K_ma K_ha K_ho K_ti K_be K_te K_ch c_da f13 c_ha c_ho c_ti c_be c_te c_ch c_up c_fu c_tm c_tc) := hD
          refine lv_iinc (v := (y8 + (1 : Int32))) (lv' := [(2, .int (y8 + (1 : Int32))), (0, .ref A_x), (1, .int p1)]) hx hb dX5_takeAway_39 hl (k := 2) rfl rfl (by decide) rfl (fun ls hl => ?_)
          refine lv_goto (tgt := 21) hx hb dX5_takeAway_42 (by decide) ?_
          cases hm
          exact ih _ _ hy _ _ hP hD hS _ (lv_sub hl [1, 2, 0] rfl)
    exact hL11 _ _ _ hlp _ _ hP hD hS _ (lv_sub hl [1, 2, 0] rfl)
  have hL3 : ∀ (n : Nat) (f1 : (Nat → Int32)), g_loop (fun q => m_X5_takeAway_L0 p1 q) n f1 = some rl3 → ∀ (H3b : Heap) (locs3b : List Loc), va_P (dC, dI) vwCl (wM A_x A_da A_ma A_ha A_ho A_ti A_be A_te A_ch K_da K_ma K_ha K_ho K_ti K_be K_te K_ch c_da f1 c_ha c_ho c_ti c_be c_te c_ch c_up c_fu c_tm c_tc) H3b → va_D A (wM A_x A_da A_ma A_ha A_ho A_ti A_be A_te A_ch K_da K_ma K_ha K_ho K_ti K_be K_te K_ch c_da f1 c_ha c_ho c_ti c_be c_te c_ch c_up c_fu c_tm c_tc) → va_S A s.heap H3b locs3b → ∀ (ls : Array Slot), lv_has ls 3 [(0, .ref A_x), (1, .int p1)] → W p l e (headSpec wsX5_takeAway rm_X5_takeAway).room s m (([.ref A_x, .int p1] : List Value).toArray) below meth c H3b locs3b 0 0 Q (F0 m 0 ls []) := by
    intro n
    induction n with
    | zero =>
      intro f1 hm
      exact g_loop_z hm
    | succ n ih =>
      intro f1 hm H3b locs3b hP hD hS ls hl
      obtain ⟨q, hm, hy⟩ := g_loop_s hm
      have hm : m_X5_takeAway_L0 p1 f1 = some q := hm
      unfold m_X5_takeAway_L0 at hm
      refine lv_aload_n hx hb dX5_takeAway_0 rfl (lv_at hl 0 rfl) ?_
      refine lv_iload_n hx hb dX5_takeAway_1 rfl (lv_at hl 1 rfl) ?_
      obtain ⟨x4, ex, hm⟩ := g_bind hm
      refine vp_callSi (W.runV (As := [.int p1]) (rest := []) ⟨hx, hb, hml, hown, hts⟩ (k_X5_runs l dC dI A_x A_da A_ma A_ha A_ho A_ti A_be A_te A_ch K_da K_ma K_ha K_ho K_ti K_be K_te K_ch c_da f1 c_ha c_ho c_ti c_be c_te c_ch c_up c_fu c_tm c_tc p1 _ ex) (cwV 1 hts gX5_takeAway_X5_runs rfl rfl rfl (by decide +kernel) ⟨Nat.le_of_ble_eq_true rfl, Nat.le_of_ble_eq_true rfl⟩) ⟨w_blR, va_recv hK hP (ci := 3) (q0 := 0) rfl rfl, fun U hU hW => ⟨rfl, by rw [hU]; exact hP.sub [0, 1, 2, 3, 4, 5, 6, 7, 8] rfl, va_K.moved hW.alike (hK.sub [0, 1, 2, 3, 4, 5, 6, 7] rfl)⟩⟩ rfl rfl hl.1 rfl (lv_room (Nat.le_of_ble_eq_true rfl)) dX5_takeAway_2 ⟨Nat.zero_le _, Nat.zero_le _⟩) (fun _ ey => ?_)
      subst ey
      refine lv_if_le (tgt := 16) hx hb dX5_takeAway_5 (by decide) (fun c5 => ?_) (fun c5 => ?_)
      · have hm := g_t c5 hm
        cases hm
        exact hE3 _ hy _ _ hP hD hS _ (lv_sub hl [0, 1] rfl)
      · have hm := g_f c5 hm
        refine lv_aload_n hx hb dX5_takeAway_8 rfl (lv_at hl 0 rfl) ?_
        refine lv_iload_n hx hb dX5_takeAway_9 rfl (lv_at hl 1 rfl) ?_
        obtain ⟨f6, ex, hm⟩ := g_bind hm
        have hPc := hP.sub (ws' := (wM A_x A_da A_ma A_ha A_ho A_ti A_be A_te A_ch K_da K_ma K_ha K_ho K_ti K_be K_te K_ch c_da f1 c_ha c_ho c_ti c_be c_te c_ch c_up c_fu c_tm c_tc)) [0, 1, 2, 3, 4, 5, 6, 7, 8] rfl
        have hDc := hD.sub (ws' := (wM A_x A_da A_ma A_ha A_ho A_ti A_be A_te A_ch K_da K_ma K_ha K_ho K_ti K_be K_te K_ch c_da f1 c_ha c_ho c_ti c_be c_te c_ch c_up c_fu c_tm c_tc)) [0, 1, 2, 3, 4, 5, 6, 7, 8] (by decide) rfl
        have hKc := hK.sub (tys' := (tM K_da K_ma K_ha K_ho K_ti K_be K_te K_ch)) [0, 1, 2, 3, 4, 5, 6, 7] rfl
        have hFc := va_free (wc := (wM A_x A_da A_ma A_ha A_ho A_ti A_be A_te A_ch K_da K_ma K_ha K_ho K_ti K_be K_te K_ch c_da f1 c_ha c_ho c_ti c_be c_te c_ch c_up c_fu c_tm c_tc)) hD hS hA [0, 1, 2, 3, 4, 5, 6, 7, 8] rfl
        refine va_callv (va_runV (As := [.int p1]) (rest := []) ⟨hx, hb, hml, hown, hts⟩ (k_X5_giveBack l dC dI A_x A_da A_ma A_ha A_ho A_ti A_be A_te A_ch K_da K_ma K_ha K_ho K_ti K_be K_te K_ch c_da f1 c_ha c_ho c_ti c_be c_te c_ch c_up c_fu c_tm c_tc H3b.size p1 _ ex) (cwV 1 hts gX5_takeAway_X5_giveBack rfl rfl rfl (by decide +kernel) ⟨Nat.le_of_ble_eq_true rfl, Nat.le_of_ble_eq_true rfl⟩) ⟨w_blW, va_recv hKc hPc (ci := 3) (q0 := 0) rfl rfl, fun U hU hW => ⟨rfl, by rw [hU], by rw [hU]; exact hPc, va_K.moved hW.alike hKc, hDc.weaken (fun _ _ _ _ => trivial)⟩⟩ rfl rfl hl.1 rfl (lv_room (Nat.le_of_ble_eq_true rfl)) dX5_takeAway_10 ⟨Nat.zero_le _, Nat.zero_le _⟩) hS (fun q _ h => hFc q h) hFc (fun _ t H7 locs7 ht hvm hw hB hz1 hk1 hS => ?_)
        refine W.widen (k := 0) (n := 0) (Nat.le_refl 0) (Nat.le_refl 0) ?_
        obtain ⟨hP1, hD1⟩ := hB
        rw [ht] at hP1
        obtain ⟨hP, hD⟩ := va_join (wr := []) (w1 := (wM A_x A_da A_ma A_ha A_ho A_ti A_be A_te A_ch K_da K_ma K_ha K_ho K_ti K_be K_te K_ch c_da f6 c_ha c_ho c_ti c_be c_te c_ch c_up c_fu c_tm c_tc)) hP hD [0, 1, 2, 3, 4, 5, 6, 7, 8] [] rfl rfl (by decide) (by decide) hk1 hFc hP1 hD1
        have hP : va_P (dC, dI) vwCl (wM A_x A_da A_ma A_ha A_ho A_ti A_be A_te A_ch K_da K_ma K_ha K_ho K_ti K_be K_te K_ch c_da f6 c_ha c_ho c_ti c_be c_te c_ch c_up c_fu c_tm c_tc) H7 := hP.sub [0, 1, 2, 3, 4, 5, 6, 7, 8] rfl
        have hD : va_D A (wM A_x A_da A_ma A_ha A_ho A_ti A_be A_te A_ch K_da K_ma K_ha K_ho K_ti K_be K_te K_ch c_da f6 c_ha c_ho c_ti c_be c_te c_ch c_up c_fu c_tm c_tc) := hD.sub [0, 1, 2, 3, 4, 5, 6, 7, 8] (by decide) rfl
        refine lv_goto (tgt := 0) hx hb dX5_takeAway_13 (by decide) ?_
        cases hm
        exact ih _ hy _ _ hP hD hS _ (lv_sub hl [0, 1] rfl)
  exact hL3 _ _ hlp _ _ hP hD hS _ (lv_sub hl [0, 1] rfl)
theorem hi_X5_isOpen_X5 : ∀ w ∈ wsX50, w ∈ wsX5_isOpen := by decide +kernel
theorem hk_X5_isOpen_16 : Cond.fieldLink RX5 16 "BuddyFilesModel" "handle" "[I" ∈ wsX5_isOpen := by decide +kernel
abbrev rm_X5_isOpen : Room := { frames := 0, cells := 0, slots := 0, locals := 0 }
set_option maxHeartbeats 4000000 in
set_option maxRecDepth 100000 in
theorem k_X5_isOpen (l : Launch) (dC : Nat → ClassId) (dI : Nat → Nat → Nat) (A_x A_da A_ma A_ha A_ho A_ti A_be A_te A_ch : Nat) (K_da K_ma K_ha K_ho K_ti K_be K_te K_ch : ClassId) (c_da c_ma c_ha c_ho c_ti c_be c_te c_ch : Nat → Int32) (c_up c_fu c_tm c_tc : Int32) (p1 : Int32) (r0 : Int32) (hm : m_X5_isOpen c_ha p1 = some r0) : Met l yX5_isOpen wsX5_isOpen rm_X5_isOpen (va_Pc [.ref A_x, .int p1] (fun U => va_P (dC, dI) vwCl (wM A_x A_da A_ma A_ha A_ho A_ti A_be A_te A_ch K_da K_ma K_ha K_ho K_ti K_be K_te K_ch c_da c_ma c_ha c_ho c_ti c_be c_te c_ch c_up c_fu c_tm c_tc) U.heap ∧ va_K (dC, dI) vwCl (tM K_da K_ma K_ha K_ho K_ti K_be K_te K_ch) U)) (vp_Si (fun r => r0 = r)) 0 0 (fun _ => False) := by
  refine Met.ofW (cc := cX5_isOpen) (maxL := 4) (ret := (some .boolean)) (by decide) rfl ?_
  intro p e s m args below meth c s₁ B hml hv
  obtain ⟨rfl, hP, hK⟩ := hv
  have hx := B.exec
  have hb := B.bytes
  have hr := B.returns
  have hts := atoms_spec (ws := wsX5_isOpen) B.pre
  have hown : s.vm.findClass RX5 = some m.cls := findClass_of_methodNamed B.named
  have hlocks := B.notSynchronized
  have hl := lv_entry ([.ref A_x, .int p1]) (n := 4) (Nat.le_of_ble_eq_true rfl)
  rw [lg_entry_eq]
  generalize (lg_sl ([.ref A_x, .int p1]) ++ List.replicate (4 - (lg_sl ([.ref A_x, .int p1])).length) Slot.unset).toArray = ls at hl ⊢
  have hl : lv_has ls 4 [(0, .ref A_x), (1, .int p1)] := hl
  refine w_name (fun Q hQ => ?_)
  unfold m_X5_isOpen at hm
  refine lv_iconst (v := 0) hx hb dX5_isOpen_0 (by decide) ?_
  refine lv_istore_n (lv' := [(2, .int (0 : Int32)), (0, .ref A_x), (1, .int p1)]) hx hb dX5_isOpen_1 rfl hl (by decide) rfl (fun ls hl => ?_)
  refine lv_iconst (v := 0) hx hb dX5_isOpen_2 (by decide) ?_
  refine lv_istore_n (lv' := [(3, .int (0 : Int32)), (2, .int (0 : Int32)), (0, .ref A_x), (1, .int p1)]) hx hb dX5_isOpen_3 rfl hl (by decide) rfl (fun ls hl => ?_)
  obtain ⟨rl4, hlp, hm⟩ := g_bind hm
  have hE4 : ∀ (z3 : Int32), z3 = rl4 → ∀ (ls : Array Slot), lv_has ls 4 [(2, .int z3)] → W p l e (headSpec wsX5_isOpen rm_X5_isOpen).room s m (([.ref A_x, .int p1] : List Value).toArray) below meth c s.heap [] 0 0 Q (F0 m 37 ls []) := by
    intro z3 hq ls hl
    subst hq
    have hm := g_k1_s hm
    refine lv_iload_n hx hb dX5_isOpen_37 rfl (lv_at hl 0 rfl) ?_
    obtain ⟨x9, ex, hm⟩ := g_bind hm
    obtain ⟨hn, ex⟩ := g_bool_s ex
    subst ex
    cases hm
    subst hQ
    exact W.zret hx hb hr hn (fun t ht hW => ⟨_, rfl, rfl, ht⟩) (fun _ h => nomatch h) dX5_isOpen_38
  have hL4 : ∀ (n : Nat) (y1 : Int32) (y2 : Int32), g_loop (fun q => m_X5_isOpen_L4 p1 c_ha q.1 q.2) n (y1, y2) = some rl4 → ∀ (ls : Array Slot), lv_has ls 4 [(0, .ref A_x), (1, .int p1), (2, .int y1), (3, .int y2)] → W p l e (headSpec wsX5_isOpen rm_X5_isOpen).room s m (([.ref A_x, .int p1] : List Value).toArray) below meth c s.heap [] 0 0 Q (F0 m 4 ls []) := by
    intro n
    induction n with
    | zero =>
      intro y1 y2 hm
      exact g_loop_z hm
    | succ n ih =>
      intro y1 y2 hm ls hl
      obtain ⟨q, hm, hy⟩ := g_loop_s hm
      have hm : m_X5_isOpen_L4 p1 c_ha y1 y2 = some q := hm
      unfold m_X5_isOpen_L4 at hm
      refine lv_iload_n hx hb dX5_isOpen_4 rfl (lv_at hl 3 rfl) ?_
      refine lv_iconst (v := 4) hx hb dX5_isOpen_5 (by decide) ?_
      refine lv_icmp_ge (tgt := 37) hx hb dX5_isOpen_6 (by decide) (fun c5 => ?_) (fun c5 => ?_)
      · have hm := g_t c5 hm
        cases hm
        exact hE4 _ hy _ (lv_sub hl [2] rfl)
      · have hm := g_f c5 hm
        refine lv_iload_n hx hb dX5_isOpen_9 rfl (lv_at hl 2 rfl) ?_
        refine lv_if_ne (tgt := 25) hx hb dX5_isOpen_10 (by decide) (fun c6 => ?_) (fun c6 => ?_)
        · have hm := g_f c6 hm
          refine lv_iconst (v := 1) hx hb dX5_isOpen_25 (by decide) ?_
          refine lv_goto (tgt := 30) hx hb dX5_isOpen_26 (by decide) ?_
          refine lv_istore_n (lv' := [(2, .int (1 : Int32)), (0, .ref A_x), (1, .int p1), (3, .int y2)]) hx hb dX5_isOpen_30 rfl hl (by decide) rfl (fun ls hl => ?_)
          refine lv_iinc (v := (y2 + (1 : Int32))) (lv' := [(3, .int (y2 + (1 : Int32))), (2, .int (1 : Int32)), (0, .ref A_x), (1, .int p1)]) hx hb dX5_isOpen_31 hl (k := 3) rfl rfl (by decide) rfl (fun ls hl => ?_)
          refine lv_goto (tgt := 4) hx hb dX5_isOpen_34 (by decide) ?_
          cases hm
          exact ih _ _ hy _ (lv_sub hl [2, 3, 1, 0] rfl)
        · have hm := g_t c6 hm
          refine lv_aload_n hx hb dX5_isOpen_13 rfl (lv_at hl 0 rfl) ?_
          refine va_get (D := (dC, dI)) (ci := 3) (v := .ref A_ha) (C := RX5) (T := TX5) (N := 12) hx hb hts hi_X5_isOpen_X5 hown hK hP 0 rfl rfl 4 (by decide) (hts (Cond.fieldLink RX5 16 "BuddyFilesModel" "handle" "[I") hk_X5_isOpen_16) (fun _ h9 => h9) rfl dX5_isOpen_14 ?_
          refine lv_iload_n hx hb dX5_isOpen_17 rfl (lv_at hl 3 rfl) ?_
          obtain ⟨x7, ex, hm⟩ := g_bind hm
          refine w_ald hx hb hK hP 3 2 rfl rfl ex dX5_isOpen_18 ?_
          refine lv_iload_n hx hb dX5_isOpen_19 rfl (lv_at hl 1 rfl) ?_
          refine lv_iconst (v := 1) hx hb dX5_isOpen_20 (by decide) ?_
          refine lv_iadd hx hb dX5_isOpen_21 ?_
          refine lv_icmp_ne (tgt := 29) hx hb dX5_isOpen_22 (by decide) (fun c8 => ?_) (fun c8 => ?_)
          · have hm := g_f c8 hm
            refine lv_iconst (v := 0) hx hb dX5_isOpen_29 (by decide) ?_
            refine lv_istore_n (lv' := [(2, .int (0 : Int32)), (0, .ref A_x), (1, .int p1), (3, .int y2)]) hx hb dX5_isOpen_30 rfl hl (by decide) rfl (fun ls hl => ?_)
            refine lv_iinc (v := (y2 + (1 : Int32))) (lv' := [(3, .int (y2 + (1 : Int32))), (2, .int (0 : Int32)), (0, .ref A_x), (1, .int p1)]) hx hb dX5_isOpen_31 hl (k := 3) rfl rfl (by decide) rfl (fun ls hl => ?_)
            refine lv_goto (tgt := 4) hx hb dX5_isOpen_34 (by decide) ?_
            cases hm
            exact ih _ _ hy _ (lv_sub hl [2, 3, 1, 0] rfl)
          · have hm := g_t c8 hm
            refine lv_iconst (v := 1) hx hb dX5_isOpen_25 (by decide) ?_
            refine lv_goto (tgt := 30) hx hb dX5_isOpen_26 (by decide) ?_
            refine lv_istore_n (lv' := [(2, .int (1 : Int32)), (0, .ref A_x), (1, .int p1), (3, .int y2)]) hx hb dX5_isOpen_30 rfl hl (by decide) rfl (fun ls hl => ?_)
            refine lv_iinc (v := (y2 + (1 : Int32))) (lv' := [(3, .int (y2 + (1 : Int32))), (2, .int (1 : Int32)), (0, .ref A_x), (1, .int p1)]) hx hb dX5_isOpen_31 hl (k := 3) rfl rfl (by decide) rfl (fun ls hl => ?_)
            refine lv_goto (tgt := 4) hx hb dX5_isOpen_34 (by decide) ?_
            cases hm
            exact ih _ _ hy _ (lv_sub hl [2, 3, 1, 0] rfl)
  exact hL4 _ _ _ hlp _ (lv_sub hl [2, 3, 1, 0] rfl)
theorem hi_X5_create_X5 : ∀ w ∈ wsX50, w ∈ wsX5_create := by decide +kernel
theorem hk_X5_create_42 : Cond.fieldLink RX5 42 "BuddyFilesModel" "up" "Z" ∈ wsX5_create := by decide +kernel
theorem hk_X5_create_13 : Cond.fieldLink RX5 13 "BuddyFilesModel" "mem" "[I" ∈ wsX5_create := by decide +kernel
abbrev rm_X5_create : Room := { frames := 1, cells := 0, slots := 0, locals := 22 }
set_option maxHeartbeats 4000000 in
set_option maxRecDepth 100000 in
theorem k_X5_create (l : Launch) (dC : Nat → ClassId) (dI : Nat → Nat → Nat) (A_x A_da A_ma A_ha A_ho A_ti A_be A_te A_ch : Nat) (K_da K_ma K_ha K_ho K_ti K_be K_te K_ch : ClassId) (c_da c_ma c_ha c_ho c_ti c_be c_te c_ch : Nat → Int32) (c_up c_fu c_tm c_tc : Int32) (sz : Nat) (p1 : Int32) (p2 : Int32) (r0 : Int32) (o_ma : (Nat → Int32)) (hm : m_X5_create c_ma c_up p1 p2 = some (r0, o_ma)) : Met l yX5_create wsX5_create rm_X5_create (va_Pc [.ref A_x, .int p1, .int p2] (fun U => U.heap.size = sz ∧ va_P (dC, dI) vwCl (wM A_x A_da A_ma A_ha A_ho A_ti A_be A_te A_ch K_da K_ma K_ha K_ho K_ti K_be K_te K_ch c_da c_ma c_ha c_ho c_ti c_be c_te c_ch c_up c_fu c_tm c_tc) U.heap ∧ va_K (dC, dI) vwCl (tM K_da K_ma K_ha K_ho K_ti K_be K_te K_ch) U ∧ va_D (fun _ => True) (wM A_x A_da A_ma A_ha A_ho A_ti A_be A_te A_ch K_da K_ma K_ha K_ho K_ti K_be K_te K_ch c_da c_ma c_ha c_ho c_ti c_be c_te c_ch c_up c_fu c_tm c_tc))) (va_Qi (fun (r : Int32) (_ : Unit) => r0 = r) (fun _ t => va_P (dC, dI) vwCl (wM A_x A_da A_ma A_ha A_ho A_ti A_be A_te A_ch K_da K_ma K_ha K_ho K_ti K_be K_te K_ch c_da o_ma c_ha c_ho c_ti c_be c_te c_ch c_up c_fu c_tm c_tc) t.heap ∧ va_D (va_A (wM A_x A_da A_ma A_ha A_ho A_ti A_be A_te A_ch K_da K_ma K_ha K_ho K_ti K_be K_te K_ch c_da c_ma c_ha c_ho c_ti c_be c_te c_ch c_up c_fu c_tm c_tc) sz) (wM A_x A_da A_ma A_ha A_ho A_ti A_be A_te A_ch K_da K_ma K_ha K_ho K_ti K_be K_te K_ch c_da o_ma c_ha c_ho c_ti c_be c_te c_ch c_up c_fu c_tm c_tc)) (va_A (wM A_x A_da A_ma A_ha A_ho A_ti A_be A_te A_ch K_da K_ma K_ha K_ho K_ti K_be K_te K_ch c_da c_ma c_ha c_ho c_ti c_be c_te c_ch c_up c_fu c_tm c_tc) sz)) 0 0 (va_A (wM A_x A_da A_ma A_ha A_ho A_ti A_be A_te A_ch K_da K_ma K_ha K_ho K_ti K_be K_te K_ch c_da c_ma c_ha c_ho c_ti c_be c_te c_ch c_up c_fu c_tm c_tc) sz) := by
  refine Met.ofW (cc := cX5_create) (maxL := 4) (ret := (some .int)) (by decide) rfl ?_
  intro p e s m args below meth c s₁ B hml hv
  obtain ⟨rfl, hsz, hP, hK, hD0⟩ := hv
  have hx := B.exec
  have hb := B.bytes
  have hr := B.returns
  have hts := atoms_spec (ws := wsX5_create) B.pre
  have hown : s.vm.findClass RX5 = some m.cls := findClass_of_methodNamed B.named
  have hlocks := B.notSynchronized
  subst hsz
  have hD := hD0.self (sz := s.heap.size)
  generalize hAe : va_A (wM A_x A_da A_ma A_ha A_ho A_ti A_be A_te A_ch K_da K_ma K_ha K_ho K_ti K_be K_te K_ch c_da c_ma c_ha c_ho c_ti c_be c_te c_ch c_up c_fu c_tm c_tc) s.heap.size = A at hD ⊢
  have hA : ∀ q : Nat, s.heap.size ≤ q → A q := fun q h => by rw [← hAe]; exact Or.inr h
  have hS : va_S A s.heap s.heap [] := va_S.rf
  have hP : va_P (dC, dI) vwCl (wM A_x A_da A_ma A_ha A_ho A_ti A_be A_te A_ch K_da K_ma K_ha K_ho K_ti K_be K_te K_ch c_da c_ma c_ha c_ho c_ti c_be c_te c_ch c_up c_fu c_tm c_tc) s.heap := hP
  have hl := lv_entry ([.ref A_x, .int p1, .int p2]) (n := 4) (Nat.le_of_ble_eq_true rfl)
  rw [lg_entry_eq]
  generalize (lg_sl ([.ref A_x, .int p1, .int p2]) ++ List.replicate (4 - (lg_sl ([.ref A_x, .int p1, .int p2])).length) Slot.unset).toArray = ls at hl ⊢
  have hl : lv_has ls 4 [(0, .ref A_x), (1, .int p1), (2, .int p2)] := hl
  refine w_name (fun Q hQ => ?_)
  unfold m_X5_create at hm
  refine lv_aload_n hx hb dX5_create_0 rfl (lv_at hl 0 rfl) ?_
  refine va_get (D := (dC, dI)) (ci := 3) (v := .int c_up) (C := RX5) (T := TX5) (N := 12) hx hb hts hi_X5_create_X5 hown hK hP 0 rfl rfl 1 (by decide) (hts (Cond.fieldLink RX5 42 "BuddyFilesModel" "up" "Z") hk_X5_create_42) (fun _ h9 => h9) rfl dX5_create_1 ?_
  refine lv_if_ne (tgt := 10) hx hb dX5_create_4 (by decide) (fun c1 => ?_) (fun c1 => ?_)
  · have hm := g_f c1 hm
    refine lv_iload_n hx hb dX5_create_10 rfl (lv_at hl 1 rfl) ?_
    refine lv_iconst (v := 1) hx hb dX5_create_11 (by decide) ?_
    refine lv_bipush (v := 99) hx hb dX5_create_12 (by decide) ?_
    obtain ⟨x2, ex, hm⟩ := g_bind hm
    refine vp_callSi (W.runS (As := [.int p1, .int (1 : Int32), .int (99 : Int32)]) (rest := []) ⟨hx, hb, hml, hown, hts⟩ (k_X5_within l  p1 (1 : Int32) (99 : Int32) _ ex) (va_cwS 3 hts gX5_create_X5_within rfl rfl rfl (by decide +kernel) ⟨Nat.le_of_ble_eq_true rfl, Nat.le_of_ble_eq_true rfl⟩) ⟨w_bl0, fun U hU hW => ⟨rfl, trivial⟩⟩ rfl rfl hl.1 rfl (lv_room (Nat.le_of_ble_eq_true rfl)) dX5_create_14 ⟨Nat.zero_le _, Nat.zero_le _⟩) (fun _ ey => ?_)
    subst ey
    refine lv_if_eq (tgt := 29) hx hb dX5_create_17 (by decide) (fun c3 => ?_) (fun c3 => ?_)
    · have hm := g_t c3 hm
      refine lv_bipush (v := -12) hx hb dX5_create_29 (by decide) ?_
      cases hm
      subst hQ
      exact W.iret hx hb hr (fun t ht hW => ⟨⟨_, (), rfl, rfl, by rw [ht]; exact hP, hD⟩, hS.F ht⟩) hS.2.2 dX5_create_31
    · have hm := g_f c3 hm
      refine lv_iload_n hx hb dX5_create_20 rfl (lv_at hl 2 rfl) ?_
      refine lv_iconst (v := 0) hx hb dX5_create_21 (by decide) ?_
      refine lv_iconst (v := 2) hx hb dX5_create_22 (by decide) ?_
      obtain ⟨x4, ex, hm⟩ := g_bind hm
      refine vp_callSi (W.runS (As := [.int p2, .int (0 : Int32), .int (2 : Int32)]) (rest := []) ⟨hx, hb, hml, hown, hts⟩ (k_X5_within l  p2 (0 : Int32) (2 : Int32) _ ex) (va_cwS 3 hts gX5_create_X5_within rfl rfl rfl (by decide +kernel) ⟨Nat.le_of_ble_eq_true rfl, Nat.le_of_ble_eq_true rfl⟩) ⟨w_bl0, fun U hU hW => ⟨rfl, trivial⟩⟩ rfl rfl hl.1 rfl (lv_room (Nat.le_of_ble_eq_true rfl)) dX5_create_23 ⟨Nat.zero_le _, Nat.zero_le _⟩) (fun _ ey => ?_)
      subst ey
      refine lv_if_ne (tgt := 32) hx hb dX5_create_26 (by decide) (fun c5 => ?_) (fun c5 => ?_)
      · have hm := g_f c5 hm
        refine lv_aload_n hx hb dX5_create_32 rfl (lv_at hl 0 rfl) ?_
        refine lv_iload_n hx hb dX5_create_33 rfl (lv_at hl 1 rfl) ?_
        obtain ⟨x6, ex, hm⟩ := g_bind hm
        refine vp_callSi (W.runV (As := [.int p1]) (rest := []) ⟨hx, hb, hml, hown, hts⟩ (k_X5_slotOf l dC dI A_x A_da A_ma A_ha A_ho A_ti A_be A_te A_ch K_da K_ma K_ha K_ho K_ti K_be K_te K_ch c_da c_ma c_ha c_ho c_ti c_be c_te c_ch c_up c_fu c_tm c_tc p1 _ ex) (cwV 1 hts gX5_create_X5_slotOf rfl rfl rfl (by decide +kernel) ⟨Nat.le_of_ble_eq_true rfl, Nat.le_of_ble_eq_true rfl⟩) ⟨w_blR, va_recv hK hP (ci := 3) (q0 := 0) rfl rfl, fun U hU hW => ⟨rfl, by rw [hU]; exact hP.sub [0, 1, 2, 3, 4, 5, 6, 7, 8] rfl, va_K.moved hW.alike (hK.sub [0, 1, 2, 3, 4, 5, 6, 7] rfl)⟩⟩ rfl rfl hl.1 rfl (lv_room (Nat.le_of_ble_eq_true rfl)) dX5_create_34 ⟨Nat.zero_le _, Nat.zero_le _⟩) (fun _ ey => ?_)
        subst ey
        refine lv_if_lt (tgt := 42) hx hb dX5_create_37 (by decide) (fun c7 => ?_) (fun c7 => ?_)
        · have hm := g_t c7 hm
          refine lv_iconst (v := 0) hx hb dX5_create_42 (by decide) ?_
          refine lv_istore_n (lv' := [(3, .int (0 : Int32)), (0, .ref A_x), (1, .int p1), (2, .int p2)]) hx hb dX5_create_43 rfl hl (by decide) rfl (fun ls hl => ?_)
          obtain ⟨rl9, hlp, hm⟩ := g_bind hm
          have hE9 : Sum.inr () = rl9 → ∀ (H9e : Heap) (locs9e : List Loc), va_P (dC, dI) vwCl (wM A_x A_da A_ma A_ha A_ho A_ti A_be A_te A_ch K_da K_ma K_ha K_ho K_ti K_be K_te K_ch c_da c_ma c_ha c_ho c_ti c_be c_te c_ch c_up c_fu c_tm c_tc) H9e → va_D A (wM A_x A_da A_ma A_ha A_ho A_ti A_be A_te A_ch K_da K_ma K_ha K_ho K_ti K_be K_te K_ch c_da c_ma c_ha c_ho c_ti c_be c_te c_ch c_up c_fu c_tm c_tc) → va_S A s.heap H9e locs9e → ∀ (ls : Array Slot), lv_has ls 4 [] → W p l e (headSpec wsX5_create rm_X5_create).room s m (([.ref A_x, .int p1, .int p2] : List Value).toArray) below meth c H9e locs9e 0 0 Q (F0 m 92 ls []) := by
            intro  hq H9e locs9e hP hD hS ls hl
            subst hq
            have hm := g_sk_r hm
            have hm := g_k0_s hm
            refine lv_bipush (v := -2) hx hb dX5_create_92 (by decide) ?_
            cases hm
            subst hQ
            exact W.iret hx hb hr (fun t ht hW => ⟨⟨_, (), rfl, rfl, by rw [ht]; exact hP, hD⟩, hS.F ht⟩) hS.2.2 dX5_create_94
          have hV9 : ∀ v, Sum.inl v = rl9 → v = (r0, o_ma) := by
            intro v hq
            subst hq
            have hm := g_sk_l hm
            exact Option.some.inj hm
          have hL9 : ∀ (n : Nat) (y8 : Int32), g_loop (fun q => m_X5_create_L44 p1 p2 c_ma q) n y8 = some rl9 → ∀ (H9b : Heap) (locs9b : List Loc), va_P (dC, dI) vwCl (wM A_x A_da A_ma A_ha A_ho A_ti A_be A_te A_ch K_da K_ma K_ha K_ho K_ti K_be K_te K_ch c_da c_ma c_ha c_ho c_ti c_be c_te c_ch c_up c_fu c_tm c_tc) H9b → va_D A (wM A_x A_da A_ma A_ha A_ho A_ti A_be A_te A_ch K_da K_ma K_ha K_ho K_ti K_be K_te K_ch c_da c_ma c_ha c_ho c_ti c_be c_te c_ch c_up c_fu c_tm c_tc) → va_S A s.heap H9b locs9b → ∀ (ls : Array Slot), lv_has ls 4 [(0, .ref A_x), (1, .int p1), (2, .int p2), (3, .int y8)] → W p l e (headSpec wsX5_create rm_X5_create).room s m (([.ref A_x, .int p1, .int p2] : List Value).toArray) below meth c H9b locs9b 0 0 Q (F0 m 44 ls []) := by
            intro n
            induction n with
            | zero =>
              intro y8 hm
              exact g_loop_z hm
            | succ n ih =>
              intro y8 hm H9b locs9b hP hD hS ls hl
              obtain ⟨q, hm, hy⟩ := g_loop_s hm
              have hm : m_X5_create_L44 p1 p2 c_ma y8 = some q := hm
              unfold m_X5_create_L44 at hm
              refine lv_iload_n hx hb dX5_create_44 rfl (lv_at hl 3 rfl) ?_
              refine lv_bipush (v := 6) hx hb dX5_create_45 (by decide) ?_
              refine lv_icmp_ge (tgt := 92) hx hb dX5_create_47 (by decide) (fun c10 => ?_) (fun c10 => ?_)
              · have hm := g_t c10 hm
                cases hm
                exact hE9 hy _ _ hP hD hS _ (lv_sub hl [] rfl)
              · have hm := g_f c10 hm
                refine lv_aload_n hx hb dX5_create_50 rfl (lv_at hl 0 rfl) ?_
                refine va_get (D := (dC, dI)) (ci := 3) (v := .ref A_ma) (C := RX5) (T := TX5) (N := 12) hx hb hts hi_X5_create_X5 hown hK hP 0 rfl rfl 3 (by decide) (hts (Cond.fieldLink RX5 13 "BuddyFilesModel" "mem" "[I") hk_X5_create_13) (fun _ h9 => h9) rfl dX5_create_51 ?_
                refine lv_bipush (v := 7) hx hb dX5_create_54 (by decide) ?_
                refine lv_iload_n hx hb dX5_create_56 rfl (lv_at hl 3 rfl) ?_
                refine lv_imul hx hb dX5_create_57 ?_
                obtain ⟨x11, ex, hm⟩ := g_bind hm
                refine w_ald hx hb hK hP 2 1 rfl rfl ex dX5_create_58 ?_
                refine lv_if_ne (tgt := 86) hx hb dX5_create_59 (by decide) (fun c12 => ?_) (fun c12 => ?_)
                · have hm := g_f c12 hm
                  refine lv_iinc (v := (y8 + (1 : Int32))) (lv' := [(3, .int (y8 + (1 : Int32))), (0, .ref A_x), (1, .int p1), (2, .int p2)]) hx hb dX5_create_86 hl (k := 3) rfl rfl (by decide) rfl (fun ls hl => ?_)
                  refine lv_goto (tgt := 44) hx hb dX5_create_89 (by decide) ?_
                  cases hm
                  exact ih _ hy _ _ hP hD hS _ (lv_sub hl [1, 2, 3, 0] rfl)
                · have hm := g_t c12 hm
                  refine lv_aload_n hx hb dX5_create_62 rfl (lv_at hl 0 rfl) ?_
                  refine va_get (D := (dC, dI)) (ci := 3) (v := .ref A_ma) (C := RX5) (T := TX5) (N := 12) hx hb hts hi_X5_create_X5 hown hK hP 0 rfl rfl 3 (by decide) (hts (Cond.fieldLink RX5 13 "BuddyFilesModel" "mem" "[I") hk_X5_create_13) (fun _ h9 => h9) rfl dX5_create_63 ?_
                  refine lv_bipush (v := 7) hx hb dX5_create_66 (by decide) ?_
                  refine lv_iload_n hx hb dX5_create_68 rfl (lv_at hl 3 rfl) ?_
                  refine lv_imul hx hb dX5_create_69 ?_
                  refine lv_iload_n hx hb dX5_create_70 rfl (lv_at hl 1 rfl) ?_
                  obtain ⟨f13, ex, hm⟩ := g_bind hm
                  refine w_ast hx hb hK hP hD hS 2 1 rfl rfl ex dX5_create_71 (fun H14 locs14 hP hD hS => ?_)
                  have hP : va_P (dC, dI) vwCl (wM A_x A_da A_ma A_ha A_ho A_ti A_be A_te A_ch K_da K_ma K_ha K_ho K_ti K_be K_te K_ch c_da f13 c_ha c_ho c_ti c_be c_te c_ch c_up c_fu c_tm c_tc) H14 := hP
                  have hD : va_D A (wM A_x A_da A_ma A_ha A_ho A_ti A_be A_te A_ch K_da K_ma K_ha K_ho K_ti K_be K_te K_ch c_da f13 c_ha c_ho c_ti c_be c_te c_ch c_up c_fu c_tm c_tc) := hD
                  refine lv_aload_n hx hb dX5_create_72 rfl (lv_at hl 0 rfl) ?_
                  refine va_get (D := (dC, dI)) (ci := 3) (v := .ref A_ma) (C := RX5) (T := TX5) (N := 12) hx hb hts hi_X5_create_X5 hown hK hP 0 rfl rfl 3 (by decide) (hts (Cond.fieldLink RX5 13 "BuddyFilesModel" "mem" "[I") hk_X5_create_13) (fun _ h9 => h9) rfl dX5_create_73 ?_
                  refine lv_bipush (v := 7) hx hb dX5_create_76 (by decide) ?_
                  refine lv_iload_n hx hb dX5_create_78 rfl (lv_at hl 3 rfl) ?_
                  refine lv_imul hx hb dX5_create_79 ?_
                  refine lv_iconst (v := 1) hx hb dX5_create_80 (by decide) ?_
                  refine lv_iadd hx hb dX5_create_81 ?_
                  refine lv_iload_n hx hb dX5_create_82 rfl (lv_at hl 2 rfl) ?_
                  obtain ⟨f15, ex, hm⟩ := g_bind hm
                  refine w_ast hx hb hK hP hD hS 2 1 rfl rfl ex dX5_create_83 (fun H16 locs16 hP hD hS => ?_)
                  have hP : va_P (dC, dI) vwCl (wM A_x A_da A_ma A_ha A_ho A_ti A_be A_te A_ch K_da K_ma K_ha K_ho K_ti K_be K_te K_ch c_da f15 c_ha c_ho c_ti c_be c_te c_ch c_up c_fu c_tm c_tc) H16 := hP
                  have hD : va_D A (wM A_x A_da A_ma A_ha A_ho A_ti A_be A_te A_ch K_da K_ma K_ha K_ho K_ti K_be K_te K_ch c_da f15 c_ha c_ho c_ti c_be c_te c_ch c_up c_fu c_tm c_tc) := hD
                  refine lv_iload_n hx hb dX5_create_84 rfl (lv_at hl 3 rfl) ?_
                  cases hm
                  have hq := hV9 _ hy
                  cases hq
                  subst hQ
                  exact W.iret hx hb hr (fun t ht hW => ⟨⟨_, (), rfl, rfl, by rw [ht]; exact hP, hD⟩, hS.F ht⟩) hS.2.2 dX5_create_85
          exact hL9 _ _ hlp _ _ hP hD hS _ (lv_sub hl [1, 2, 3, 0] rfl)
        · have hm := g_f c7 hm
          refine lv_iconst (v := -1) hx hb dX5_create_40 (by decide) ?_
          cases hm
          subst hQ
          exact W.iret hx hb hr (fun t ht hW => ⟨⟨_, (), rfl, rfl, by rw [ht]; exact hP, hD⟩, hS.F ht⟩) hS.2.2 dX5_create_41
      · have hm := g_t c5 hm
        refine lv_bipush (v := -12) hx hb dX5_create_29 (by decide) ?_
        cases hm
        subst hQ
        exact W.iret hx hb hr (fun t ht hW => ⟨⟨_, (), rfl, rfl, by rw [ht]; exact hP, hD⟩, hS.F ht⟩) hS.2.2 dX5_create_31
  · have hm := g_t c1 hm
    refine lv_bipush (v := -11) hx hb dX5_create_7 (by decide) ?_
    cases hm
    subst hQ
    exact W.iret hx hb hr (fun t ht hW => ⟨⟨_, (), rfl, rfl, by rw [ht]; exact hP, hD⟩, hS.F ht⟩) hS.2.2 dX5_create_9
theorem hi_X5_unlink_X5 : ∀ w ∈ wsX50, w ∈ wsX5_unlink := by decide +kernel
theorem hk_X5_unlink_42 : Cond.fieldLink RX5 42 "BuddyFilesModel" "up" "Z" ∈ wsX5_unlink := by decide +kernel
abbrev rm_X5_unlink : Room := { frames := 4, cells := 0, slots := 0, locals := 90 }
set_option maxHeartbeats 4000000 in
set_option maxRecDepth 100000 in
theorem k_X5_unlink (l : Launch) (dC : Nat → ClassId) (dI : Nat → Nat → Nat) (A_x A_da A_ma A_ha A_ho A_ti A_be A_te A_ch : Nat) (K_da K_ma K_ha K_ho K_ti K_be K_te K_ch : ClassId) (c_da c_ma c_ha c_ho c_ti c_be c_te c_ch : Nat → Int32) (c_up c_fu c_tm c_tc : Int32) (sz : Nat) (p1 : Int32) (r0 : Int32) (o_ma : (Nat → Int32)) (hm : m_X5_unlink c_ma c_ha c_up p1 = some (r0, o_ma)) : Met l yX5_unlink wsX5_unlink rm_X5_unlink (va_Pc [.ref A_x, .int p1] (fun U => U.heap.size = sz ∧ va_P (dC, dI) vwCl (wM A_x A_da A_ma A_ha A_ho A_ti A_be A_te A_ch K_da K_ma K_ha K_ho K_ti K_be K_te K_ch c_da c_ma c_ha c_ho c_ti c_be c_te c_ch c_up c_fu c_tm c_tc) U.heap ∧ va_K (dC, dI) vwCl (tM K_da K_ma K_ha K_ho K_ti K_be K_te K_ch) U ∧ va_D (fun _ => True) (wM A_x A_da A_ma A_ha A_ho A_ti A_be A_te A_ch K_da K_ma K_ha K_ho K_ti K_be K_te K_ch c_da c_ma c_ha c_ho c_ti c_be c_te c_ch c_up c_fu c_tm c_tc))) (va_Qi (fun (r : Int32) (_ : Unit) => r0 = r) (fun _ t => va_P (dC, dI) vwCl (wM A_x A_da A_ma A_ha A_ho A_ti A_be A_te A_ch K_da K_ma K_ha K_ho K_ti K_be K_te K_ch c_da o_ma c_ha c_ho c_ti c_be c_te c_ch c_up c_fu c_tm c_tc) t.heap ∧ va_D (va_A (wM A_x A_da A_ma A_ha A_ho A_ti A_be A_te A_ch K_da K_ma K_ha K_ho K_ti K_be K_te K_ch c_da c_ma c_ha c_ho c_ti c_be c_te c_ch c_up c_fu c_tm c_tc) sz) (wM A_x A_da A_ma A_ha A_ho A_ti A_be A_te A_ch K_da K_ma K_ha K_ho K_ti K_be K_te K_ch c_da o_ma c_ha c_ho c_ti c_be c_te c_ch c_up c_fu c_tm c_tc)) (va_A (wM A_x A_da A_ma A_ha A_ho A_ti A_be A_te A_ch K_da K_ma K_ha K_ho K_ti K_be K_te K_ch c_da c_ma c_ha c_ho c_ti c_be c_te c_ch c_up c_fu c_tm c_tc) sz)) 0 0 (va_A (wM A_x A_da A_ma A_ha A_ho A_ti A_be A_te A_ch K_da K_ma K_ha K_ho K_ti K_be K_te K_ch c_da c_ma c_ha c_ho c_ti c_be c_te c_ch c_up c_fu c_tm c_tc) sz) := by
  refine Met.ofW (cc := cX5_unlink) (maxL := 3) (ret := (some .int)) (by decide) rfl ?_
  intro p e s m args below meth c s₁ B hml hv
  obtain ⟨rfl, hsz, hP, hK, hD0⟩ := hv
  have hx := B.exec
  have hb := B.bytes
  have hr := B.returns
  have hts := atoms_spec (ws := wsX5_unlink) B.pre
  have hown : s.vm.findClass RX5 = some m.cls := findClass_of_methodNamed B.named
  have hlocks := B.notSynchronized
  subst hsz
  have hD := hD0.self (sz := s.heap.size)
  generalize hAe : va_A (wM A_x A_da A_ma A_ha A_ho A_ti A_be A_te A_ch K_da K_ma K_ha K_ho K_ti K_be K_te K_ch c_da c_ma c_ha c_ho c_ti c_be c_te c_ch c_up c_fu c_tm c_tc) s.heap.size = A at hD ⊢
  have hA : ∀ q : Nat, s.heap.size ≤ q → A q := fun q h => by rw [← hAe]; exact Or.inr h
  have hS : va_S A s.heap s.heap [] := va_S.rf
  have hP : va_P (dC, dI) vwCl (wM A_x A_da A_ma A_ha A_ho A_ti A_be A_te A_ch K_da K_ma K_ha K_ho K_ti K_be K_te K_ch c_da c_ma c_ha c_ho c_ti c_be c_te c_ch c_up c_fu c_tm c_tc) s.heap := hP
  have hl := lv_entry ([.ref A_x, .int p1]) (n := 3) (Nat.le_of_ble_eq_true rfl)
  rw [lg_entry_eq]
  generalize (lg_sl ([.ref A_x, .int p1]) ++ List.replicate (3 - (lg_sl ([.ref A_x, .int p1])).length) Slot.unset).toArray = ls at hl ⊢
  have hl : lv_has ls 3 [(0, .ref A_x), (1, .int p1)] := hl
  refine w_name (fun Q hQ => ?_)
  unfold m_X5_unlink at hm
  refine lv_aload_n hx hb dX5_unlink_0 rfl (lv_at hl 0 rfl) ?_
  refine va_get (D := (dC, dI)) (ci := 3) (v := .int c_up) (C := RX5) (T := TX5) (N := 12) hx hb hts hi_X5_unlink_X5 hown hK hP 0 rfl rfl 1 (by decide) (hts (Cond.fieldLink RX5 42 "BuddyFilesModel" "up" "Z") hk_X5_unlink_42) (fun _ h9 => h9) rfl dX5_unlink_1 ?_
  refine lv_if_ne (tgt := 10) hx hb dX5_unlink_4 (by decide) (fun c1 => ?_) (fun c1 => ?_)
  · have hm := g_f c1 hm
    refine lv_aload_n hx hb dX5_unlink_10 rfl (lv_at hl 0 rfl) ?_
    refine lv_iload_n hx hb dX5_unlink_11 rfl (lv_at hl 1 rfl) ?_
    obtain ⟨x2, ex, hm⟩ := g_bind hm
    refine vp_callSi (W.runV (As := [.int p1]) (rest := []) ⟨hx, hb, hml, hown, hts⟩ (k_X5_slotOf l dC dI A_x A_da A_ma A_ha A_ho A_ti A_be A_te A_ch K_da K_ma K_ha K_ho K_ti K_be K_te K_ch c_da c_ma c_ha c_ho c_ti c_be c_te c_ch c_up c_fu c_tm c_tc p1 _ ex) (cwV 1 hts gX5_unlink_X5_slotOf rfl rfl rfl (by decide +kernel) ⟨Nat.le_of_ble_eq_true rfl, Nat.le_of_ble_eq_true rfl⟩) ⟨w_blR, va_recv hK hP (ci := 3) (q0 := 0) rfl rfl, fun U hU hW => ⟨rfl, by rw [hU]; exact hP.sub [0, 1, 2, 3, 4, 5, 6, 7, 8] rfl, va_K.moved hW.alike (hK.sub [0, 1, 2, 3, 4, 5, 6, 7] rfl)⟩⟩ rfl rfl hl.1 rfl (lv_room (Nat.le_of_ble_eq_true rfl)) dX5_unlink_12 ⟨Nat.zero_le _, Nat.zero_le _⟩) (fun _ ey => ?_)
    subst ey
    refine lv_istore_n (lv' := [(2, .int x2), (0, .ref A_x), (1, .int p1)]) hx hb dX5_unlink_15 rfl hl (by decide) rfl (fun ls hl => ?_)
    refine lv_iload_n hx hb dX5_unlink_16 rfl (lv_at hl 0 rfl) ?_
    refine lv_if_ge (tgt := 23) hx hb dX5_unlink_17 (by decide) (fun c3 => ?_) (fun c3 => ?_)
    · have hm := g_t c3 hm
      refine lv_aload_n hx hb dX5_unlink_23 rfl (lv_at hl 1 rfl) ?_
      refine lv_iload_n hx hb dX5_unlink_24 rfl (lv_at hl 0 rfl) ?_
      obtain ⟨x4, ex, hm⟩ := g_bind hm
      refine vp_callSi (W.runV (As := [.int x2]) (rest := []) ⟨hx, hb, hml, hown, hts⟩ (k_X5_isOpen l dC dI A_x A_da A_ma A_ha A_ho A_ti A_be A_te A_ch K_da K_ma K_ha K_ho K_ti K_be K_te K_ch c_da c_ma c_ha c_ho c_ti c_be c_te c_ch c_up c_fu c_tm c_tc x2 _ ex) (cwV 1 hts gX5_unlink_X5_isOpen rfl rfl rfl (by decide +kernel) ⟨Nat.le_of_ble_eq_true rfl, Nat.le_of_ble_eq_true rfl⟩) ⟨w_blR, va_recv hK hP (ci := 3) (q0 := 0) rfl rfl, fun U hU hW => ⟨rfl, by rw [hU]; exact hP.sub [0, 1, 2, 3, 4, 5, 6, 7, 8] rfl, va_K.moved hW.alike (hK.sub [0, 1, 2, 3, 4, 5, 6, 7] rfl)⟩⟩ rfl rfl hl.1 rfl (lv_room (Nat.le_of_ble_eq_true rfl)) dX5_unlink_25 ⟨Nat.zero_le _, Nat.zero_le _⟩) (fun _ ey => ?_)
      subst ey
      refine lv_if_eq (tgt := 34) hx hb dX5_unlink_28 (by decide) (fun c5 => ?_) (fun c5 => ?_)
      · have hm := g_t c5 hm
        refine lv_aload_n hx hb dX5_unlink_34 rfl (lv_at hl 1 rfl) ?_
        refine lv_iload_n hx hb dX5_unlink_35 rfl (lv_at hl 0 rfl) ?_
        obtain ⟨f6, ex, hm⟩ := g_bind hm
        have hPc := hP.sub (ws' := (wM A_x A_da A_ma A_ha A_ho A_ti A_be A_te A_ch K_da K_ma K_ha K_ho K_ti K_be K_te K_ch c_da c_ma c_ha c_ho c_ti c_be c_te c_ch c_up c_fu c_tm c_tc)) [0, 1, 2, 3, 4, 5, 6, 7, 8] rfl
        have hDc := hD.sub (ws' := (wM A_x A_da A_ma A_ha A_ho A_ti A_be A_te A_ch K_da K_ma K_ha K_ho K_ti K_be K_te K_ch c_da c_ma c_ha c_ho c_ti c_be c_te c_ch c_up c_fu c_tm c_tc)) [0, 1, 2, 3, 4, 5, 6, 7, 8] (by decide) rfl
        have hKc := hK.sub (tys' := (tM K_da K_ma K_ha K_ho K_ti K_be K_te K_ch)) [0, 1, 2, 3, 4, 5, 6, 7] rfl
        have hFc := va_free (wc := (wM A_x A_da A_ma A_ha A_ho A_ti A_be A_te A_ch K_da K_ma K_ha K_ho K_ti K_be K_te K_ch c_da c_ma c_ha c_ho c_ti c_be c_te c_ch c_up c_fu c_tm c_tc)) hD hS hA [0, 1, 2, 3, 4, 5, 6, 7, 8] rfl
        refine va_callv (va_runV (As := [.int x2]) (rest := []) ⟨hx, hb, hml, hown, hts⟩ (k_X5_takeAway l dC dI A_x A_da A_ma A_ha A_ho A_ti A_be A_te A_ch K_da K_ma K_ha K_ho K_ti K_be K_te K_ch c_da c_ma c_ha c_ho c_ti c_be c_te c_ch c_up c_fu c_tm c_tc s.heap.size x2 _ ex) (cwV 1 hts gX5_unlink_X5_takeAway rfl rfl rfl (by decide +kernel) ⟨Nat.le_of_ble_eq_true rfl, Nat.le_of_ble_eq_true rfl⟩) ⟨w_blW, va_recv hKc hPc (ci := 3) (q0 := 0) rfl rfl, fun U hU hW => ⟨rfl, by rw [hU], by rw [hU]; exact hPc, va_K.moved hW.alike hKc, hDc.weaken (fun _ _ _ _ => trivial)⟩⟩ rfl rfl hl.1 rfl (lv_room (Nat.le_of_ble_eq_true rfl)) dX5_unlink_36 ⟨Nat.zero_le _, Nat.zero_le _⟩) hS (fun q _ h => hFc q h) hFc (fun _ t H7 locs7 ht hvm hw hB hz1 hk1 hS => ?_)
        refine W.widen (k := 0) (n := 0) (Nat.le_refl 0) (Nat.le_refl 0) ?_
        obtain ⟨hP1, hD1⟩ := hB
        rw [ht] at hP1
        obtain ⟨hP, hD⟩ := va_join (wr := []) (w1 := (wM A_x A_da A_ma A_ha A_ho A_ti A_be A_te A_ch K_da K_ma K_ha K_ho K_ti K_be K_te K_ch c_da f6 c_ha c_ho c_ti c_be c_te c_ch c_up c_fu c_tm c_tc)) hP hD [0, 1, 2, 3, 4, 5, 6, 7, 8] [] rfl rfl (by decide) (by decide) hk1 hFc hP1 hD1
        have hP : va_P (dC, dI) vwCl (wM A_x A_da A_ma A_ha A_ho A_ti A_be A_te A_ch K_da K_ma K_ha K_ho K_ti K_be K_te K_ch c_da f6 c_ha c_ho c_ti c_be c_te c_ch c_up c_fu c_tm c_tc) H7 := hP.sub [0, 1, 2, 3, 4, 5, 6, 7, 8] rfl
        have hD : va_D A (wM A_x A_da A_ma A_ha A_ho A_ti A_be A_te A_ch K_da K_ma K_ha K_ho K_ti K_be K_te K_ch c_da f6 c_ha c_ho c_ti c_be c_te c_ch c_up c_fu c_tm c_tc) := hD.sub [0, 1, 2, 3, 4, 5, 6, 7, 8] (by decide) rfl
        refine lv_iconst (v := 0) hx hb dX5_unlink_39 (by decide) ?_
        cases hm
        subst hQ
        exact W.iret hx hb hr (fun t ht hW => ⟨⟨_, (), rfl, rfl, by rw [ht]; exact hP, hD⟩, hS.F ht⟩) hS.2.2 dX5_unlink_40
      · have hm := g_f c5 hm
        refine lv_bipush (v := -4) hx hb dX5_unlink_31 (by decide) ?_
        cases hm
        subst hQ
        exact W.iret hx hb hr (fun t ht hW => ⟨⟨_, (), rfl, rfl, by rw [ht]; exact hP, hD⟩, hS.F ht⟩) hS.2.2 dX5_unlink_33
    · have hm := g_f c3 hm
      refine lv_bipush (v := -3) hx hb dX5_unlink_20 (by decide) ?_
      cases hm
      subst hQ
      exact W.iret hx hb hr (fun t ht hW => ⟨⟨_, (), rfl, rfl, by rw [ht]; exact hP, hD⟩, hS.F ht⟩) hS.2.2 dX5_unlink_22
  · have hm := g_t c1 hm
    refine lv_bipush (v := -11) hx hb dX5_unlink_7 (by decide) ?_
    cases hm
    subst hQ
    exact W.iret hx hb hr (fun t ht hW => ⟨⟨_, (), rfl, rfl, by rw [ht]; exact hP, hD⟩, hS.F ht⟩) hS.2.2 dX5_unlink_9
theorem hi_X5_rename_X5 : ∀ w ∈ wsX50, w ∈ wsX5_rename := by decide +kernel
theorem hk_X5_rename_42 : Cond.fieldLink RX5 42 "BuddyFilesModel" "up" "Z" ∈ wsX5_rename := by decide +kernel
theorem hk_X5_rename_13 : Cond.fieldLink RX5 13 "BuddyFilesModel" "mem" "[I" ∈ wsX5_rename := by decide +kernel
abbrev rm_X5_rename : Room := { frames := 4, cells := 0, slots := 0, locals := 90 }
set_option maxHeartbeats 4000000 in
set_option maxRecDepth 100000 in
theorem k_X5_rename (l : Launch) (dC : Nat → ClassId) (dI : Nat → Nat → Nat) (A_x A_da A_ma A_ha A_ho A_ti A_be A_te A_ch : Nat) (K_da K_ma K_ha K_ho K_ti K_be K_te K_ch : ClassId) (c_da c_ma c_ha c_ho c_ti c_be c_te c_ch : Nat → Int32) (c_up c_fu c_tm c_tc : Int32) (sz : Nat) (p1 : Int32) (p2 : Int32) (r0 : Int32) (o_ma : (Nat → Int32)) (hm : m_X5_rename c_ma c_ha c_up p1 p2 = some (r0, o_ma)) : Met l yX5_rename wsX5_rename rm_X5_rename (va_Pc [.ref A_x, .int p1, .int p2] (fun U => U.heap.size = sz ∧ va_P (dC, dI) vwCl (wM A_x A_da A_ma A_ha A_ho A_ti A_be A_te A_ch K_da K_ma K_ha K_ho K_ti K_be K_te K_ch c_da c_ma c_ha c_ho c_ti c_be c_te c_ch c_up c_fu c_tm c_tc) U.heap ∧ va_K (dC, dI) vwCl (tM K_da K_ma K_ha K_ho K_ti K_be K_te K_ch) U ∧ va_D (fun _ => True) (wM A_x A_da A_ma A_ha A_ho A_ti A_be A_te A_ch K_da K_ma K_ha K_ho K_ti K_be K_te K_ch c_da c_ma c_ha c_ho c_ti c_be c_te c_ch c_up c_fu c_tm c_tc))) (va_Qi (fun (r : Int32) (_ : Unit) => r0 = r) (fun _ t => va_P (dC, dI) vwCl (wM A_x A_da A_ma A_ha A_ho A_ti A_be A_te A_ch K_da K_ma K_ha K_ho K_ti K_be K_te K_ch c_da o_ma c_ha c_ho c_ti c_be c_te c_ch c_up c_fu c_tm c_tc) t.heap ∧ va_D (va_A (wM A_x A_da A_ma A_ha A_ho A_ti A_be A_te A_ch K_da K_ma K_ha K_ho K_ti K_be K_te K_ch c_da c_ma c_ha c_ho c_ti c_be c_te c_ch c_up c_fu c_tm c_tc) sz) (wM A_x A_da A_ma A_ha A_ho A_ti A_be A_te A_ch K_da K_ma K_ha K_ho K_ti K_be K_te K_ch c_da o_ma c_ha c_ho c_ti c_be c_te c_ch c_up c_fu c_tm c_tc)) (va_A (wM A_x A_da A_ma A_ha A_ho A_ti A_be A_te A_ch K_da K_ma K_ha K_ho K_ti K_be K_te K_ch c_da c_ma c_ha c_ho c_ti c_be c_te c_ch c_up c_fu c_tm c_tc) sz)) 0 0 (va_A (wM A_x A_da A_ma A_ha A_ho A_ti A_be A_te A_ch K_da K_ma K_ha K_ho K_ti K_be K_te K_ch c_da c_ma c_ha c_ho c_ti c_be c_te c_ch c_up c_fu c_tm c_tc) sz) := by
  refine Met.ofW (cc := cX5_rename) (maxL := 5) (ret := (some .int)) (by decide) rfl ?_
  intro p e s m args below meth c s₁ B hml hv
  obtain ⟨rfl, hsz, hP, hK, hD0⟩ := hv
  have hx := B.exec
  have hb := B.bytes
  have hr := B.returns
  have hts := atoms_spec (ws := wsX5_rename) B.pre
  have hown : s.vm.findClass RX5 = some m.cls := findClass_of_methodNamed B.named
  have hlocks := B.notSynchronized
  subst hsz
  have hD := hD0.self (sz := s.heap.size)
  generalize hAe : va_A (wM A_x A_da A_ma A_ha A_ho A_ti A_be A_te A_ch K_da K_ma K_ha K_ho K_ti K_be K_te K_ch c_da c_ma c_ha c_ho c_ti c_be c_te c_ch c_up c_fu c_tm c_tc) s.heap.size = A at hD ⊢
  have hA : ∀ q : Nat, s.heap.size ≤ q → A q := fun q h => by rw [← hAe]; exact Or.inr h
  have hS : va_S A s.heap s.heap [] := va_S.rf
  have hP : va_P (dC, dI) vwCl (wM A_x A_da A_ma A_ha A_ho A_ti A_be A_te A_ch K_da K_ma K_ha K_ho K_ti K_be K_te K_ch c_da c_ma c_ha c_ho c_ti c_be c_te c_ch c_up c_fu c_tm c_tc) s.heap := hP
  have hl := lv_entry ([.ref A_x, .int p1, .int p2]) (n := 5) (Nat.le_of_ble_eq_true rfl)
  rw [lg_entry_eq]
  generalize (lg_sl ([.ref A_x, .int p1, .int p2]) ++ List.replicate (5 - (lg_sl ([.ref A_x, .int p1, .int p2])).length) Slot.unset).toArray = ls at hl ⊢
  have hl : lv_has ls 5 [(0, .ref A_x), (1, .int p1), (2, .int p2)] := hl
  refine w_name (fun Q hQ => ?_)
  unfold m_X5_rename at hm
  refine lv_aload_n hx hb dX5_rename_0 rfl (lv_at hl 0 rfl) ?_
  refine va_get (D := (dC, dI)) (ci := 3) (v := .int c_up) (C := RX5) (T := TX5) (N := 12) hx hb hts hi_X5_rename_X5 hown hK hP 0 rfl rfl 1 (by decide) (hts (Cond.fieldLink RX5 42 "BuddyFilesModel" "up" "Z") hk_X5_rename_42) (fun _ h9 => h9) rfl dX5_rename_1 ?_
  refine lv_if_ne (tgt := 10) hx hb dX5_rename_4 (by decide) (fun c1 => ?_) (fun c1 => ?_)
  · have hm := g_f c1 hm
    refine lv_aload_n hx hb dX5_rename_10 rfl (lv_at hl 0 rfl) ?_
    refine lv_iload_n hx hb dX5_rename_11 rfl (lv_at hl 1 rfl) ?_
    obtain ⟨x2, ex, hm⟩ := g_bind hm
    refine vp_callSi (W.runV (As := [.int p1]) (rest := []) ⟨hx, hb, hml, hown, hts⟩ (k_X5_slotOf l dC dI A_x A_da A_ma A_ha A_ho A_ti A_be A_te A_ch K_da K_ma K_ha K_ho K_ti K_be K_te K_ch c_da c_ma c_ha c_ho c_ti c_be c_te c_ch c_up c_fu c_tm c_tc p1 _ ex) (cwV 1 hts gX5_rename_X5_slotOf rfl rfl rfl (by decide +kernel) ⟨Nat.le_of_ble_eq_true rfl, Nat.le_of_ble_eq_true rfl⟩) ⟨w_blR, va_recv hK hP (ci := 3) (q0 := 0) rfl rfl, fun U hU hW => ⟨rfl, by rw [hU]; exact hP.sub [0, 1, 2, 3, 4, 5, 6, 7, 8] rfl, va_K.moved hW.alike (hK.sub [0, 1, 2, 3, 4, 5, 6, 7] rfl)⟩⟩ rfl rfl hl.1 rfl (lv_room (Nat.le_of_ble_eq_true rfl)) dX5_rename_12 ⟨Nat.zero_le _, Nat.zero_le _⟩) (fun _ ey => ?_)
    subst ey
    refine lv_istore_n (lv' := [(3, .int x2), (0, .ref A_x), (1, .int p1), (2, .int p2)]) hx hb dX5_rename_15 rfl hl (by decide) rfl (fun ls hl => ?_)
    refine lv_iload_n hx hb dX5_rename_16 rfl (lv_at hl 0 rfl) ?_
    refine lv_if_ge (tgt := 23) hx hb dX5_rename_17 (by decide) (fun c3 => ?_) (fun c3 => ?_)
    · have hm := g_t c3 hm
      refine lv_iload_n hx hb dX5_rename_23 rfl (lv_at hl 3 rfl) ?_
      refine lv_iconst (v := 1) hx hb dX5_rename_24 (by decide) ?_
      refine lv_bipush (v := 99) hx hb dX5_rename_25 (by decide) ?_
      obtain ⟨x4, ex, hm⟩ := g_bind hm
      refine vp_callSi (W.runS (As := [.int p2, .int (1 : Int32), .int (99 : Int32)]) (rest := []) ⟨hx, hb, hml, hown, hts⟩ (k_X5_within l  p2 (1 : Int32) (99 : Int32) _ ex) (va_cwS 3 hts gX5_rename_X5_within rfl rfl rfl (by decide +kernel) ⟨Nat.le_of_ble_eq_true rfl, Nat.le_of_ble_eq_true rfl⟩) ⟨w_bl0, fun U hU hW => ⟨rfl, trivial⟩⟩ rfl rfl hl.1 rfl (lv_room (Nat.le_of_ble_eq_true rfl)) dX5_rename_27 ⟨Nat.zero_le _, Nat.zero_le _⟩) (fun _ ey => ?_)
      subst ey
      refine lv_if_ne (tgt := 36) hx hb dX5_rename_30 (by decide) (fun c5 => ?_) (fun c5 => ?_)
      · have hm := g_f c5 hm
        refine lv_aload_n hx hb dX5_rename_36 rfl (lv_at hl 1 rfl) ?_
        refine lv_iload_n hx hb dX5_rename_37 rfl (lv_at hl 3 rfl) ?_
        obtain ⟨x6, ex, hm⟩ := g_bind hm
        refine vp_callSi (W.runV (As := [.int p2]) (rest := []) ⟨hx, hb, hml, hown, hts⟩ (k_X5_slotOf l dC dI A_x A_da A_ma A_ha A_ho A_ti A_be A_te A_ch K_da K_ma K_ha K_ho K_ti K_be K_te K_ch c_da c_ma c_ha c_ho c_ti c_be c_te c_ch c_up c_fu c_tm c_tc p2 _ ex) (cwV 1 hts gX5_rename_X5_slotOf rfl rfl rfl (by decide +kernel) ⟨Nat.le_of_ble_eq_true rfl, Nat.le_of_ble_eq_true rfl⟩) ⟨w_blR, va_recv hK hP (ci := 3) (q0 := 0) rfl rfl, fun U hU hW => ⟨rfl, by rw [hU]; exact hP.sub [0, 1, 2, 3, 4, 5, 6, 7, 8] rfl, va_K.moved hW.alike (hK.sub [0, 1, 2, 3, 4, 5, 6, 7] rfl)⟩⟩ rfl rfl hl.1 rfl (lv_room (Nat.le_of_ble_eq_true rfl)) dX5_rename_38 ⟨Nat.zero_le _, Nat.zero_le _⟩) (fun _ ey => ?_)
        subst ey
        refine lv_istore (lv' := [(4, .int x6), (3, .int x2), (0, .ref A_x), (1, .int p1), (2, .int p2)]) hx hb dX5_rename_41 hl (by decide) rfl (fun ls hl => ?_)
        refine lv_iload hx hb dX5_rename_43 (lv_at hl 0 rfl) ?_
        refine lv_if_lt (tgt := 72) hx hb dX5_rename_45 (by decide) (fun c7 => ?_) (fun c7 => ?_)
        · have hm := g_t c7 hm
          refine lv_aload_n hx hb dX5_rename_72 rfl (lv_at hl 2 rfl) ?_
          refine va_get (D := (dC, dI)) (ci := 3) (v := .ref A_ma) (C := RX5) (T := TX5) (N := 12) hx hb hts hi_X5_rename_X5 hown hK hP 0 rfl rfl 3 (by decide) (hts (Cond.fieldLink RX5 13 "BuddyFilesModel" "mem" "[I") hk_X5_rename_13) (fun _ h9 => h9) rfl dX5_rename_73 ?_
          refine lv_bipush (v := 7) hx hb dX5_rename_76 (by decide) ?_
          refine lv_iload_n hx hb dX5_rename_78 rfl (lv_at hl 1 rfl) ?_
          refine lv_imul hx hb dX5_rename_79 ?_
          refine lv_iload_n hx hb dX5_rename_80 rfl (lv_at hl 4 rfl) ?_
          obtain ⟨f8, ex, hm⟩ := g_bind hm
          refine w_ast hx hb hK hP hD hS 2 1 rfl rfl ex dX5_rename_81 (fun H9 locs9 hP hD hS => ?_)
          have hP : va_P (dC, dI) vwCl (wM A_x A_da A_ma A_ha A_ho A_ti A_be A_te A_ch K_da K_ma K_ha K_ho K_ti K_be K_te K_ch c_da f8 c_ha c_ho c_ti c_be c_te c_ch c_up c_fu c_tm c_tc) H9 := hP
          have hD : va_D A (wM A_x A_da A_ma A_ha A_ho A_ti A_be A_te A_ch K_da K_ma K_ha K_ho K_ti K_be K_te K_ch c_da f8 c_ha c_ho c_ti c_be c_te c_ch c_up c_fu c_tm c_tc) := hD
          refine lv_iconst (v := 0) hx hb dX5_rename_82 (by decide) ?_
          cases hm
          subst hQ
          exact W.iret hx hb hr (fun t ht hW => ⟨⟨_, (), rfl, rfl, by rw [ht]; exact hP, hD⟩, hS.F ht⟩) hS.2.2 dX5_rename_83
        · have hm := g_f c7 hm
          refine lv_iload hx hb dX5_rename_48 (lv_at hl 0 rfl) ?_
          refine lv_iload_n hx hb dX5_rename_50 rfl (lv_at hl 1 rfl) ?_
          refine lv_icmp_eq (tgt := 72) hx hb dX5_rename_51 (by decide) (fun c10 => ?_) (fun c10 => ?_)
          · have hm := g_t c10 hm
            refine lv_aload_n hx hb dX5_rename_72 rfl (lv_at hl 2 rfl) ?_
            refine va_get (D := (dC, dI)) (ci := 3) (v := .ref A_ma) (C := RX5) (T := TX5) (N := 12) hx hb hts hi_X5_rename_X5 hown hK hP 0 rfl rfl 3 (by decide) (hts (Cond.fieldLink RX5 13 "BuddyFilesModel" "mem" "[I") hk_X5_rename_13) (fun _ h9 => h9) rfl dX5_rename_73 ?_
            refine lv_bipush (v := 7) hx hb dX5_rename_76 (by decide) ?_
            refine lv_iload_n hx hb dX5_rename_78 rfl (lv_at hl 1 rfl) ?_
            refine lv_imul hx hb dX5_rename_79 ?_
            refine lv_iload_n hx hb dX5_rename_80 rfl (lv_at hl 4 rfl) ?_
            obtain ⟨f11, ex, hm⟩ := g_bind hm
            refine w_ast hx hb hK hP hD hS 2 1 rfl rfl ex dX5_rename_81 (fun H12 locs12 hP hD hS => ?_)
            have hP : va_P (dC, dI) vwCl (wM A_x A_da A_ma A_ha A_ho A_ti A_be A_te A_ch K_da K_ma K_ha K_ho K_ti K_be K_te K_ch c_da f11 c_ha c_ho c_ti c_be c_te c_ch c_up c_fu c_tm c_tc) H12 := hP
            have hD : va_D A (wM A_x A_da A_ma A_ha A_ho A_ti A_be A_te A_ch K_da K_ma K_ha K_ho K_ti K_be K_te K_ch c_da f11 c_ha c_ho c_ti c_be c_te c_ch c_up c_fu c_tm c_tc) := hD
            refine lv_iconst (v := 0) hx hb dX5_rename_82 (by decide) ?_
            cases hm
            subst hQ
            exact W.iret hx hb hr (fun t ht hW => ⟨⟨_, (), rfl, rfl, by rw [ht]; exact hP, hD⟩, hS.F ht⟩) hS.2.2 dX5_rename_83
          · have hm := g_f c10 hm
            refine lv_aload_n hx hb dX5_rename_54 rfl (lv_at hl 2 rfl) ?_
            refine lv_iload hx hb dX5_rename_55 (lv_at hl 0 rfl) ?_
            obtain ⟨x13, ex, hm⟩ := g_bind hm
            refine vp_callSi (W.runV (As := [.int x6]) (rest := []) ⟨hx, hb, hml, hown, hts⟩ (k_X5_isOpen l dC dI A_x A_da A_ma A_ha A_ho A_ti A_be A_te A_ch K_da K_ma K_ha K_ho K_ti K_be K_te K_ch c_da c_ma c_ha c_ho c_ti c_be c_te c_ch c_up c_fu c_tm c_tc x6 _ ex) (cwV 1 hts gX5_rename_X5_isOpen rfl rfl rfl (by decide +kernel) ⟨Nat.le_of_ble_eq_true rfl, Nat.le_of_ble_eq_true rfl⟩) ⟨w_blR, va_recv hK hP (ci := 3) (q0 := 0) rfl rfl, fun U hU hW => ⟨rfl, by rw [hU]; exact hP.sub [0, 1, 2, 3, 4, 5, 6, 7, 8] rfl, va_K.moved hW.alike (hK.sub [0, 1, 2, 3, 4, 5, 6, 7] rfl)⟩⟩ rfl rfl hl.1 rfl (lv_room (Nat.le_of_ble_eq_true rfl)) dX5_rename_57 ⟨Nat.zero_le _, Nat.zero_le _⟩) (fun _ ey => ?_)
            subst ey
            refine lv_if_eq (tgt := 66) hx hb dX5_rename_60 (by decide) (fun c14 => ?_) (fun c14 => ?_)
            · have hm := g_t c14 hm
              refine lv_aload_n hx hb dX5_rename_66 rfl (lv_at hl 2 rfl) ?_
              refine lv_iload hx hb dX5_rename_67 (lv_at hl 0 rfl) ?_
              obtain ⟨f15, ex, hm⟩ := g_bind hm
              have hPc := hP.sub (ws' := (wM A_x A_da A_ma A_ha A_ho A_ti A_be A_te A_ch K_da K_ma K_ha K_ho K_ti K_be K_te K_ch c_da c_ma c_ha c_ho c_ti c_be c_te c_ch c_up c_fu c_tm c_tc)) [0, 1, 2, 3, 4, 5, 6, 7, 8] rfl
              have hDc := hD.sub (ws' := (wM A_x A_da A_ma A_ha A_ho A_ti A_be A_te A_ch K_da K_ma K_ha K_ho K_ti K_be K_te K_ch c_da c_ma c_ha c_ho c_ti c_be c_te c_ch c_up c_fu c_tm c_tc)) [0, 1, 2, 3, 4, 5, 6, 7, 8] (by decide) rfl
              have hKc := hK.sub (tys' := (tM K_da K_ma K_ha K_ho K_ti K_be K_te K_ch)) [0, 1, 2, 3, 4, 5, 6, 7] rfl
              have hFc := va_free (wc := (wM A_x A_da A_ma A_ha A_ho A_ti A_be A_te A_ch K_da K_ma K_ha K_ho K_ti K_be K_te K_ch c_da c_ma c_ha c_ho c_ti c_be c_te c_ch c_up c_fu c_tm c_tc)) hD hS hA [0, 1, 2, 3, 4, 5, 6, 7, 8] rfl
              refine va_callv (va_runV (As := [.int x6]) (rest := []) ⟨hx, hb, hml, hown, hts⟩ (k_X5_takeAway l dC dI A_x A_da A_ma A_ha A_ho A_ti A_be A_te A_ch K_da K_ma K_ha K_ho K_ti K_be K_te K_ch c_da c_ma c_ha c_ho c_ti c_be c_te c_ch c_up c_fu c_tm c_tc s.heap.size x6 _ ex) (cwV 1 hts gX5_rename_X5_takeAway rfl rfl rfl (by decide +kernel) ⟨Nat.le_of_ble_eq_true rfl, Nat.le_of_ble_eq_true rfl⟩) ⟨w_blW, va_recv hKc hPc (ci := 3) (q0 := 0) rfl rfl, fun U hU hW => ⟨rfl, by rw [hU], by rw [hU]; exact hPc, va_K.moved hW.alike hKc, hDc.weaken (fun _ _ _ _ => trivial)⟩⟩ rfl rfl hl.1 rfl (lv_room (Nat.le_of_ble_eq_true rfl)) dX5_rename_69 ⟨Nat.zero_le _, Nat.zero_le _⟩) hS (fun q _ h => hFc q h) hFc (fun _ t H16 locs16 ht hvm hw hB hz1 hk1 hS => ?_)
              refine W.widen (k := 0) (n := 0) (Nat.le_refl 0) (Nat.le_refl 0) ?_
              obtain ⟨hP1, hD1⟩ := hB
              rw [ht] at hP1
              obtain ⟨hP, hD⟩ := va_join (wr := []) (w1 := (wM A_x A_da A_ma A_ha A_ho A_ti A_be A_te A_ch K_da K_ma K_ha K_ho K_ti K_be K_te K_ch c_da f15 c_ha c_ho c_ti c_be c_te c_ch c_up c_fu c_tm c_tc)) hP hD [0, 1, 2, 3, 4, 5, 6, 7, 8] [] rfl rfl (by decide) (by decide) hk1 hFc hP1 hD1
              have hP : va_P (dC, dI) vwCl (wM A_x A_da A_ma A_ha A_ho A_ti A_be A_te A_ch K_da K_ma K_ha K_ho K_ti K_be K_te K_ch c_da f15 c_ha c_ho c_ti c_be c_te c_ch c_up c_fu c_tm c_tc) H16 := hP.sub [0, 1, 2, 3, 4, 5, 6, 7, 8] rfl
              have hD : va_D A (wM A_x A_da A_ma A_ha A_ho A_ti A_be A_te A_ch K_da K_ma K_ha K_ho K_ti K_be K_te K_ch c_da f15 c_ha c_ho c_ti c_be c_te c_ch c_up c_fu c_tm c_tc) := hD.sub [0, 1, 2, 3, 4, 5, 6, 7, 8] (by decide) rfl
              refine lv_aload_n hx hb dX5_rename_72 rfl (lv_at hl 2 rfl) ?_
              refine va_get (D := (dC, dI)) (ci := 3) (v := .ref A_ma) (C := RX5) (T := TX5) (N := 12) hx hb hts hi_X5_rename_X5 hown hK hP 0 rfl rfl 3 (by decide) (hts (Cond.fieldLink RX5 13 "BuddyFilesModel" "mem" "[I") hk_X5_rename_13) (fun _ h9 => h9) rfl dX5_rename_73 ?_
              refine lv_bipush (v := 7) hx hb dX5_rename_76 (by decide) ?_
              refine lv_iload_n hx hb dX5_rename_78 rfl (lv_at hl 1 rfl) ?_
              refine lv_imul hx hb dX5_rename_79 ?_
              refine lv_iload_n hx hb dX5_rename_80 rfl (lv_at hl 4 rfl) ?_
              obtain ⟨f17, ex, hm⟩ := g_bind hm
              refine w_ast hx hb hK hP hD hS 2 1 rfl rfl ex dX5_rename_81 (fun H18 locs18 hP hD hS => ?_)
              have hP : va_P (dC, dI) vwCl (wM A_x A_da A_ma A_ha A_ho A_ti A_be A_te A_ch K_da K_ma K_ha K_ho K_ti K_be K_te K_ch c_da f17 c_ha c_ho c_ti c_be c_te c_ch c_up c_fu c_tm c_tc) H18 := hP
              have hD : va_D A (wM A_x A_da A_ma A_ha A_ho A_ti A_be A_te A_ch K_da K_ma K_ha K_ho K_ti K_be K_te K_ch c_da f17 c_ha c_ho c_ti c_be c_te c_ch c_up c_fu c_tm c_tc) := hD
              refine lv_iconst (v := 0) hx hb dX5_rename_82 (by decide) ?_
              cases hm
              subst hQ
              exact W.iret hx hb hr (fun t ht hW => ⟨⟨_, (), rfl, rfl, by rw [ht]; exact hP, hD⟩, hS.F ht⟩) hS.2.2 dX5_rename_83
            · have hm := g_f c14 hm
              refine lv_bipush (v := -4) hx hb dX5_rename_63 (by decide) ?_
              cases hm
              subst hQ
              exact W.iret hx hb hr (fun t ht hW => ⟨⟨_, (), rfl, rfl, by rw [ht]; exact hP, hD⟩, hS.F ht⟩) hS.2.2 dX5_rename_65
      · have hm := g_t c5 hm
        refine lv_bipush (v := -12) hx hb dX5_rename_33 (by decide) ?_
        cases hm
        subst hQ
        exact W.iret hx hb hr (fun t ht hW => ⟨⟨_, (), rfl, rfl, by rw [ht]; exact hP, hD⟩, hS.F ht⟩) hS.2.2 dX5_rename_35
    · have hm := g_f c3 hm
      refine lv_bipush (v := -3) hx hb dX5_rename_20 (by decide) ?_
      cases hm
      subst hQ
      exact W.iret hx hb hr (fun t ht hW => ⟨⟨_, (), rfl, rfl, by rw [ht]; exact hP, hD⟩, hS.F ht⟩) hS.2.2 dX5_rename_22
  · have hm := g_t c1 hm
    refine lv_bipush (v := -11) hx hb dX5_rename_7 (by decide) ?_
    cases hm
    subst hQ
    exact W.iret hx hb hr (fun t ht hW => ⟨⟨_, (), rfl, rfl, by rw [ht]; exact hP, hD⟩, hS.F ht⟩) hS.2.2 dX5_rename_9
theorem hi_X5_open_X5 : ∀ w ∈ wsX50, w ∈ wsX5_open := by decide +kernel
theorem hk_X5_open_42 : Cond.fieldLink RX5 42 "BuddyFilesModel" "up" "Z" ∈ wsX5_open := by decide +kernel
theorem hk_X5_open_16 : Cond.fieldLink RX5 16 "BuddyFilesModel" "handle" "[I" ∈ wsX5_open := by decide +kernel
abbrev rm_X5_open : Room := { frames := 1, cells := 0, slots := 0, locals := 22 }
set_option maxHeartbeats 4000000 in
set_option maxRecDepth 100000 in
theorem k_X5_open (l : Launch) (dC : Nat → ClassId) (dI : Nat → Nat → Nat) (A_x A_da A_ma A_ha A_ho A_ti A_be A_te A_ch : Nat) (K_da K_ma K_ha K_ho K_ti K_be K_te K_ch : ClassId) (c_da c_ma c_ha c_ho c_ti c_be c_te c_ch : Nat → Int32) (c_up c_fu c_tm c_tc : Int32) (sz : Nat) (p1 : Int32) (r0 : Int32) (o_ha : (Nat → Int32)) (hm : m_X5_open c_ma c_ha c_up p1 = some (r0, o_ha)) : Met l yX5_open wsX5_open rm_X5_open (va_Pc [.ref A_x, .int p1] (fun U => U.heap.size = sz ∧ va_P (dC, dI) vwCl (wM A_x A_da A_ma A_ha A_ho A_ti A_be A_te A_ch K_da K_ma K_ha K_ho K_ti K_be K_te K_ch c_da c_ma c_ha c_ho c_ti c_be c_te c_ch c_up c_fu c_tm c_tc) U.heap ∧ va_K (dC, dI) vwCl (tM K_da K_ma K_ha K_ho K_ti K_be K_te K_ch) U ∧ va_D (fun _ => True) (wM A_x A_da A_ma A_ha A_ho A_ti A_be A_te A_ch K_da K_ma K_ha K_ho K_ti K_be K_te K_ch c_da c_ma c_ha c_ho c_ti c_be c_te c_ch c_up c_fu c_tm c_tc))) (va_Qi (fun (r : Int32) (_ : Unit) => r0 = r) (fun _ t => va_P (dC, dI) vwCl (wM A_x A_da A_ma A_ha A_ho A_ti A_be A_te A_ch K_da K_ma K_ha K_ho K_ti K_be K_te K_ch c_da c_ma o_ha c_ho c_ti c_be c_te c_ch c_up c_fu c_tm c_tc) t.heap ∧ va_D (va_A (wM A_x A_da A_ma A_ha A_ho A_ti A_be A_te A_ch K_da K_ma K_ha K_ho K_ti K_be K_te K_ch c_da c_ma c_ha c_ho c_ti c_be c_te c_ch c_up c_fu c_tm c_tc) sz) (wM A_x A_da A_ma A_ha A_ho A_ti A_be A_te A_ch K_da K_ma K_ha K_ho K_ti K_be K_te K_ch c_da c_ma o_ha c_ho c_ti c_be c_te c_ch c_up c_fu c_tm c_tc)) (va_A (wM A_x A_da A_ma A_ha A_ho A_ti A_be A_te A_ch K_da K_ma K_ha K_ho K_ti K_be K_te K_ch c_da c_ma c_ha c_ho c_ti c_be c_te c_ch c_up c_fu c_tm c_tc) sz)) 0 0 (va_A (wM A_x A_da A_ma A_ha A_ho A_ti A_be A_te A_ch K_da K_ma K_ha K_ho K_ti K_be K_te K_ch c_da c_ma c_ha c_ho c_ti c_be c_te c_ch c_up c_fu c_tm c_tc) sz) := by
  refine Met.ofW (cc := cX5_open) (maxL := 4) (ret := (some .int)) (by decide) rfl ?_
  intro p e s m args below meth c s₁ B hml hv
  obtain ⟨rfl, hsz, hP, hK, hD0⟩ := hv
  have hx := B.exec
  have hb := B.bytes
  have hr := B.returns
  have hts := atoms_spec (ws := wsX5_open) B.pre
  have hown : s.vm.findClass RX5 = some m.cls := findClass_of_methodNamed B.named
  have hlocks := B.notSynchronized
  subst hsz
  have hD := hD0.self (sz := s.heap.size)
  generalize hAe : va_A (wM A_x A_da A_ma A_ha A_ho A_ti A_be A_te A_ch K_da K_ma K_ha K_ho K_ti K_be K_te K_ch c_da c_ma c_ha c_ho c_ti c_be c_te c_ch c_up c_fu c_tm c_tc) s.heap.size = A at hD ⊢
  have hA : ∀ q : Nat, s.heap.size ≤ q → A q := fun q h => by rw [← hAe]; exact Or.inr h
  have hS : va_S A s.heap s.heap [] := va_S.rf
  have hP : va_P (dC, dI) vwCl (wM A_x A_da A_ma A_ha A_ho A_ti A_be A_te A_ch K_da K_ma K_ha K_ho K_ti K_be K_te K_ch c_da c_ma c_ha c_ho c_ti c_be c_te c_ch c_up c_fu c_tm c_tc) s.heap := hP
  have hl := lv_entry ([.ref A_x, .int p1]) (n := 4) (Nat.le_of_ble_eq_true rfl)
  rw [lg_entry_eq]
  generalize (lg_sl ([.ref A_x, .int p1]) ++ List.replicate (4 - (lg_sl ([.ref A_x, .int p1])).length) Slot.unset).toArray = ls at hl ⊢
  have hl : lv_has ls 4 [(0, .ref A_x), (1, .int p1)] := hl
  refine w_name (fun Q hQ => ?_)
  unfold m_X5_open at hm
  refine lv_aload_n hx hb dX5_open_0 rfl (lv_at hl 0 rfl) ?_
  refine va_get (D := (dC, dI)) (ci := 3) (v := .int c_up) (C := RX5) (T := TX5) (N := 12) hx hb hts hi_X5_open_X5 hown hK hP 0 rfl rfl 1 (by decide) (hts (Cond.fieldLink RX5 42 "BuddyFilesModel" "up" "Z") hk_X5_open_42) (fun _ h9 => h9) rfl dX5_open_1 ?_
  refine lv_if_ne (tgt := 10) hx hb dX5_open_4 (by decide) (fun c1 => ?_) (fun c1 => ?_)
  · have hm := g_f c1 hm
    refine lv_aload_n hx hb dX5_open_10 rfl (lv_at hl 0 rfl) ?_
    refine lv_iload_n hx hb dX5_open_11 rfl (lv_at hl 1 rfl) ?_
    obtain ⟨x2, ex, hm⟩ := g_bind hm
    refine vp_callSi (W.runV (As := [.int p1]) (rest := []) ⟨hx, hb, hml, hown, hts⟩ (k_X5_slotOf l dC dI A_x A_da A_ma A_ha A_ho A_ti A_be A_te A_ch K_da K_ma K_ha K_ho K_ti K_be K_te K_ch c_da c_ma c_ha c_ho c_ti c_be c_te c_ch c_up c_fu c_tm c_tc p1 _ ex) (cwV 1 hts gX5_open_X5_slotOf rfl rfl rfl (by decide +kernel) ⟨Nat.le_of_ble_eq_true rfl, Nat.le_of_ble_eq_true rfl⟩) ⟨w_blR, va_recv hK hP (ci := 3) (q0 := 0) rfl rfl, fun U hU hW => ⟨rfl, by rw [hU]; exact hP.sub [0, 1, 2, 3, 4, 5, 6, 7, 8] rfl, va_K.moved hW.alike (hK.sub [0, 1, 2, 3, 4, 5, 6, 7] rfl)⟩⟩ rfl rfl hl.1 rfl (lv_room (Nat.le_of_ble_eq_true rfl)) dX5_open_12 ⟨Nat.zero_le _, Nat.zero_le _⟩) (fun _ ey => ?_)
    subst ey
    refine lv_istore_n (lv' := [(2, .int x2), (0, .ref A_x), (1, .int p1)]) hx hb dX5_open_15 rfl hl (by decide) rfl (fun ls hl => ?_)
    refine lv_iload_n hx hb dX5_open_16 rfl (lv_at hl 0 rfl) ?_
    refine lv_if_ge (tgt := 23) hx hb dX5_open_17 (by decide) (fun c3 => ?_) (fun c3 => ?_)
    · have hm := g_t c3 hm
      refine lv_iconst (v := 0) hx hb dX5_open_23 (by decide) ?_
      refine lv_istore_n (lv' := [(3, .int (0 : Int32)), (2, .int x2), (0, .ref A_x), (1, .int p1)]) hx hb dX5_open_24 rfl hl (by decide) rfl (fun ls hl => ?_)
      obtain ⟨rl5, hlp, hm⟩ := g_bind hm
      have hE5 : Sum.inr () = rl5 → ∀ (H5e : Heap) (locs5e : List Loc), va_P (dC, dI) vwCl (wM A_x A_da A_ma A_ha A_ho A_ti A_be A_te A_ch K_da K_ma K_ha K_ho K_ti K_be K_te K_ch c_da c_ma c_ha c_ho c_ti c_be c_te c_ch c_up c_fu c_tm c_tc) H5e → va_D A (wM A_x A_da A_ma A_ha A_ho A_ti A_be A_te A_ch K_da K_ma K_ha K_ho K_ti K_be K_te K_ch c_da c_ma c_ha c_ho c_ti c_be c_te c_ch c_up c_fu c_tm c_tc) → va_S A s.heap H5e locs5e → ∀ (ls : Array Slot), lv_has ls 4 [] → W p l e (headSpec wsX5_open rm_X5_open).room s m (([.ref A_x, .int p1] : List Value).toArray) below meth c H5e locs5e 0 0 Q (F0 m 56 ls []) := by
        intro  hq H5e locs5e hP hD hS ls hl
        subst hq
        have hm := g_sk_r hm
        have hm := g_k0_s hm
        refine lv_bipush (v := -5) hx hb dX5_open_56 (by decide) ?_
        cases hm
        subst hQ
        exact W.iret hx hb hr (fun t ht hW => ⟨⟨_, (), rfl, rfl, by rw [ht]; exact hP, hD⟩, hS.F ht⟩) hS.2.2 dX5_open_58
      have hV5 : ∀ v, Sum.inl v = rl5 → v = (r0, o_ha) := by
        intro v hq
        subst hq
        have hm := g_sk_l hm
        exact Option.some.inj hm
      have hL5 : ∀ (n : Nat) (y4 : Int32), g_loop (fun q => m_X5_open_L25 c_ha x2 q) n y4 = some rl5 → ∀ (H5b : Heap) (locs5b : List Loc), va_P (dC, dI) vwCl (wM A_x A_da A_ma A_ha A_ho A_ti A_be A_te A_ch K_da K_ma K_ha K_ho K_ti K_be K_te K_ch c_da c_ma c_ha c_ho c_ti c_be c_te c_ch c_up c_fu c_tm c_tc) H5b → va_D A (wM A_x A_da A_ma A_ha A_ho A_ti A_be A_te A_ch K_da K_ma K_ha K_ho K_ti K_be K_te K_ch c_da c_ma c_ha c_ho c_ti c_be c_te c_ch c_up c_fu c_tm c_tc) → va_S A s.heap H5b locs5b → ∀ (ls : Array Slot), lv_has ls 4 [(0, .ref A_x), (2, .int x2), (3, .int y4)] → W p l e (headSpec wsX5_open rm_X5_open).room s m (([.ref A_x, .int p1] : List Value).toArray) below meth c H5b locs5b 0 0 Q (F0 m 25 ls []) := by
        intro n
        induction n with
        | zero =>
          intro y4 hm
          exact g_loop_z hm
        | succ n ih =>
          intro y4 hm H5b locs5b hP hD hS ls hl
          obtain ⟨q, hm, hy⟩ := g_loop_s hm
          have hm : m_X5_open_L25 c_ha x2 y4 = some q := hm
          unfold m_X5_open_L25 at hm
          refine lv_iload_n hx hb dX5_open_25 rfl (lv_at hl 2 rfl) ?_
          refine lv_iconst (v := 4) hx hb dX5_open_26 (by decide) ?_
          refine lv_icmp_ge (tgt := 56) hx hb dX5_open_27 (by decide) (fun c6 => ?_) (fun c6 => ?_)
          · have hm := g_t c6 hm
            cases hm
            exact hE5 hy _ _ hP hD hS _ (lv_sub hl [] rfl)
          · have hm := g_f c6 hm
            refine lv_aload_n hx hb dX5_open_30 rfl (lv_at hl 0 rfl) ?_
            refine va_get (D := (dC, dI)) (ci := 3) (v := .ref A_ha) (C := RX5) (T := TX5) (N := 12) hx hb hts hi_X5_open_X5 hown hK hP 0 rfl rfl 4 (by decide) (hts (Cond.fieldLink RX5 16 "BuddyFilesModel" "handle" "[I") hk_X5_open_16) (fun _ h9 => h9) rfl dX5_open_31 ?_
            refine lv_iload_n hx hb dX5_open_34 rfl (lv_at hl 2 rfl) ?_
            obtain ⟨x7, ex, hm⟩ := g_bind hm
            refine w_ald hx hb hK hP 3 2 rfl rfl ex dX5_open_35 ?_
            refine lv_if_ne (tgt := 50) hx hb dX5_open_36 (by decide) (fun c8 => ?_) (fun c8 => ?_)
            · have hm := g_f c8 hm
              refine lv_iinc (v := (y4 + (1 : Int32))) (lv' := [(3, .int (y4 + (1 : Int32))), (0, .ref A_x), (2, .int x2)]) hx hb dX5_open_50 hl (k := 2) rfl rfl (by decide) rfl (fun ls hl => ?_)
              refine lv_goto (tgt := 25) hx hb dX5_open_53 (by decide) ?_
              cases hm
              exact ih _ hy _ _ hP hD hS _ (lv_sub hl [1, 2, 0] rfl)
            · have hm := g_t c8 hm
              refine lv_aload_n hx hb dX5_open_39 rfl (lv_at hl 0 rfl) ?_
              refine va_get (D := (dC, dI)) (ci := 3) (v := .ref A_ha) (C := RX5) (T := TX5) (N := 12) hx hb hts hi_X5_open_X5 hown hK hP 0 rfl rfl 4 (by decide) (hts (Cond.fieldLink RX5 16 "BuddyFilesModel" "handle" "[I") hk_X5_open_16) (fun _ h9 => h9) rfl dX5_open_40 ?_
              refine lv_iload_n hx hb dX5_open_43 rfl (lv_at hl 2 rfl) ?_
              refine lv_iload_n hx hb dX5_open_44 rfl (lv_at hl 1 rfl) ?_
              refine lv_iconst (v := 1) hx hb dX5_open_45 (by decide) ?_
              refine lv_iadd hx hb dX5_open_46 ?_
              obtain ⟨f9, ex, hm⟩ := g_bind hm
              refine w_ast hx hb hK hP hD hS 3 2 rfl rfl ex dX5_open_47 (fun H10 locs10 hP hD hS => ?_)
              have hP : va_P (dC, dI) vwCl (wM A_x A_da A_ma A_ha A_ho A_ti A_be A_te A_ch K_da K_ma K_ha K_ho K_ti K_be K_te K_ch c_da c_ma f9 c_ho c_ti c_be c_te c_ch c_up c_fu c_tm c_tc) H10 := hP
              have hD : va_D A (wM A_x A_da A_ma A_ha A_ho A_ti A_be A_te A_ch K_da K_ma K_ha K_ho K_ti K_be K_te K_ch c_da c_ma f9 c_ho c_ti c_be c_te c_ch c_up c_fu c_tm c_tc) := hD
              refine lv_iload_n hx hb dX5_open_48 rfl (lv_at hl 2 rfl) ?_
              cases hm
              have hq := hV5 _ hy
              cases hq
              subst hQ
              exact W.iret hx hb hr (fun t ht hW => ⟨⟨_, (), rfl, rfl, by rw [ht]; exact hP, hD⟩, hS.F ht⟩) hS.2.2 dX5_open_49
      exact hL5 _ _ hlp _ _ hP hD hS _ (lv_sub hl [2, 1, 0] rfl)
    · have hm := g_f c3 hm
      refine lv_bipush (v := -3) hx hb dX5_open_20 (by decide) ?_
      cases hm
      subst hQ
      exact W.iret hx hb hr (fun t ht hW => ⟨⟨_, (), rfl, rfl, by rw [ht]; exact hP, hD⟩, hS.F ht⟩) hS.2.2 dX5_open_22
  · have hm := g_t c1 hm
    refine lv_bipush (v := -11) hx hb dX5_open_7 (by decide) ?_
    cases hm
    subst hQ
    exact W.iret hx hb hr (fun t ht hW => ⟨⟨_, (), rfl, rfl, by rw [ht]; exact hP, hD⟩, hS.F ht⟩) hS.2.2 dX5_open_9
theorem hi_X5_slotAt_X5 : ∀ w ∈ wsX50, w ∈ wsX5_slotAt := by decide +kernel
theorem hk_X5_slotAt_42 : Cond.fieldLink RX5 42 "BuddyFilesModel" "up" "Z" ∈ wsX5_slotAt := by decide +kernel
theorem hk_X5_slotAt_16 : Cond.fieldLink RX5 16 "BuddyFilesModel" "handle" "[I" ∈ wsX5_slotAt := by decide +kernel
abbrev rm_X5_slotAt : Room := { frames := 1, cells := 0, slots := 0, locals := 22 }
set_option maxHeartbeats 4000000 in
set_option maxRecDepth 100000 in
theorem k_X5_slotAt (l : Launch) (dC : Nat → ClassId) (dI : Nat → Nat → Nat) (A_x A_da A_ma A_ha A_ho A_ti A_be A_te A_ch : Nat) (K_da K_ma K_ha K_ho K_ti K_be K_te K_ch : ClassId) (c_da c_ma c_ha c_ho c_ti c_be c_te c_ch : Nat → Int32) (c_up c_fu c_tm c_tc : Int32) (p1 : Int32) (r0 : Int32) (hm : m_X5_slotAt c_ha c_up p1 = some r0) : Met l yX5_slotAt wsX5_slotAt rm_X5_slotAt (va_Pc [.ref A_x, .int p1] (fun U => va_P (dC, dI) vwCl (wM A_x A_da A_ma A_ha A_ho A_ti A_be A_te A_ch K_da K_ma K_ha K_ho K_ti K_be K_te K_ch c_da c_ma c_ha c_ho c_ti c_be c_te c_ch c_up c_fu c_tm c_tc) U.heap ∧ va_K (dC, dI) vwCl (tM K_da K_ma K_ha K_ho K_ti K_be K_te K_ch) U)) (vp_Si (fun r => r0 = r)) 0 0 (fun _ => False) := by
  refine Met.ofW (cc := cX5_slotAt) (maxL := 2) (ret := (some .int)) (by decide) rfl ?_
  intro p e s m args below meth c s₁ B hml hv
  obtain ⟨rfl, hP, hK⟩ := hv
  have hx := B.exec
  have hb := B.bytes
  have hr := B.returns
  have hts := atoms_spec (ws := wsX5_slotAt) B.pre
  have hown : s.vm.findClass RX5 = some m.cls := findClass_of_methodNamed B.named
  have hlocks := B.notSynchronized
  have hl := lv_entry ([.ref A_x, .int p1]) (n := 2) (Nat.le_of_ble_eq_true rfl)
  rw [lg_entry_eq]
  generalize (lg_sl ([.ref A_x, .int p1]) ++ List.replicate (2 - (lg_sl ([.ref A_x, .int p1])).length) Slot.unset).toArray = ls at hl ⊢
  have hl : lv_has ls 2 [(0, .ref A_x), (1, .int p1)] := hl
  refine w_name (fun Q hQ => ?_)
  unfold m_X5_slotAt at hm
  refine lv_aload_n hx hb dX5_slotAt_0 rfl (lv_at hl 0 rfl) ?_
  refine va_get (D := (dC, dI)) (ci := 3) (v := .int c_up) (C := RX5) (T := TX5) (N := 12) hx hb hts hi_X5_slotAt_X5 hown hK hP 0 rfl rfl 1 (by decide) (hts (Cond.fieldLink RX5 42 "BuddyFilesModel" "up" "Z") hk_X5_slotAt_42) (fun _ h9 => h9) rfl dX5_slotAt_1 ?_
  refine lv_if_ne (tgt := 10) hx hb dX5_slotAt_4 (by decide) (fun c1 => ?_) (fun c1 => ?_)
  · have hm := g_f c1 hm
    refine lv_iload_n hx hb dX5_slotAt_10 rfl (lv_at hl 1 rfl) ?_
    refine lv_iconst (v := 0) hx hb dX5_slotAt_11 (by decide) ?_
    refine lv_iconst (v := 3) hx hb dX5_slotAt_12 (by decide) ?_
    obtain ⟨x2, ex, hm⟩ := g_bind hm
    refine vp_callSi (W.runS (As := [.int p1, .int (0 : Int32), .int (3 : Int32)]) (rest := []) ⟨hx, hb, hml, hown, hts⟩ (k_X5_within l  p1 (0 : Int32) (3 : Int32) _ ex) (va_cwS 3 hts gX5_slotAt_X5_within rfl rfl rfl (by decide +kernel) ⟨Nat.le_of_ble_eq_true rfl, Nat.le_of_ble_eq_true rfl⟩) ⟨w_bl0, fun U hU hW => ⟨rfl, trivial⟩⟩ rfl rfl hl.1 rfl (lv_room (Nat.le_of_ble_eq_true rfl)) dX5_slotAt_13 ⟨Nat.zero_le _, Nat.zero_le _⟩) (fun _ ey => ?_)
    subst ey
    refine lv_if_eq (tgt := 39) hx hb dX5_slotAt_16 (by decide) (fun c3 => ?_) (fun c3 => ?_)
    · have hm := g_t c3 hm
      refine lv_bipush (v := -6) hx hb dX5_slotAt_39 (by decide) ?_
      cases hm
      subst hQ
      exact W.iret hx hb hr (fun t ht hW => ⟨_, rfl, rfl, ht⟩) (fun _ h => nomatch h) dX5_slotAt_41
    · have hm := g_f c3 hm
      refine lv_aload_n hx hb dX5_slotAt_19 rfl (lv_at hl 0 rfl) ?_
      refine va_get (D := (dC, dI)) (ci := 3) (v := .ref A_ha) (C := RX5) (T := TX5) (N := 12) hx hb hts hi_X5_slotAt_X5 hown hK hP 0 rfl rfl 4 (by decide) (hts (Cond.fieldLink RX5 16 "BuddyFilesModel" "handle" "[I") hk_X5_slotAt_16) (fun _ h9 => h9) rfl dX5_slotAt_20 ?_
      refine lv_iload_n hx hb dX5_slotAt_23 rfl (lv_at hl 1 rfl) ?_
      obtain ⟨x4, ex, hm⟩ := g_bind hm
      refine w_ald hx hb hK hP 3 2 rfl rfl ex dX5_slotAt_24 ?_
      refine lv_if_le (tgt := 39) hx hb dX5_slotAt_25 (by decide) (fun c5 => ?_) (fun c5 => ?_)
      · have hm := g_t c5 hm
        refine lv_bipush (v := -6) hx hb dX5_slotAt_39 (by decide) ?_
        cases hm
        subst hQ
        exact W.iret hx hb hr (fun t ht hW => ⟨_, rfl, rfl, ht⟩) (fun _ h => nomatch h) dX5_slotAt_41
      · have hm := g_f c5 hm
        refine lv_aload_n hx hb dX5_slotAt_28 rfl (lv_at hl 0 rfl) ?_
        refine va_get (D := (dC, dI)) (ci := 3) (v := .ref A_ha) (C := RX5) (T := TX5) (N := 12) hx hb hts hi_X5_slotAt_X5 hown hK hP 0 rfl rfl 4 (by decide) (hts (Cond.fieldLink RX5 16 "BuddyFilesModel" "handle" "[I") hk_X5_slotAt_16) (fun _ h9 => h9) rfl dX5_slotAt_29 ?_
        refine lv_iload_n hx hb dX5_slotAt_32 rfl (lv_at hl 1 rfl) ?_
        obtain ⟨x6, ex, hm⟩ := g_bind hm
        refine w_ald hx hb hK hP 3 2 rfl rfl ex dX5_slotAt_33 ?_
        refine lv_iconst (v := 1) hx hb dX5_slotAt_34 (by decide) ?_
        refine lv_isub hx hb dX5_slotAt_35 ?_
        refine lv_goto (tgt := 41) hx hb dX5_slotAt_36 (by decide) ?_
        cases hm
        subst hQ
        exact W.iret hx hb hr (fun t ht hW => ⟨_, rfl, rfl, ht⟩) (fun _ h => nomatch h) dX5_slotAt_41
  · have hm := g_t c1 hm
    refine lv_bipush (v := -11) hx hb dX5_slotAt_7 (by decide) ?_
    cases hm
    subst hQ
    exact W.iret hx hb hr (fun t ht hW => ⟨_, rfl, rfl, ht⟩) (fun _ h => nomatch h) dX5_slotAt_9
theorem hi_X5_close_X5 : ∀ w ∈ wsX50, w ∈ wsX5_close := by decide +kernel
theorem hk_X5_close_16 : Cond.fieldLink RX5 16 "BuddyFilesModel" "handle" "[I" ∈ wsX5_close := by decide +kernel
abbrev rm_X5_close : Room := { frames := 2, cells := 0, slots := 0, locals := 43 }
set_option maxHeartbeats 4000000 in
set_option maxRecDepth 100000 in
theorem k_X5_close (l : Launch) (dC : Nat → ClassId) (dI : Nat → Nat → Nat) (A_x A_da A_ma A_ha A_ho A_ti A_be A_te A_ch : Nat) (K_da K_ma K_ha K_ho K_ti K_be K_te K_ch : ClassId) (c_da c_ma c_ha c_ho c_ti c_be c_te c_ch : Nat → Int32) (c_up c_fu c_tm c_tc : Int32) (sz : Nat) (p1 : Int32) (r0 : Int32) (o_ha : (Nat → Int32)) (hm : m_X5_close c_ha c_up p1 = some (r0, o_ha)) : Met l yX5_close wsX5_close rm_X5_close (va_Pc [.ref A_x, .int p1] (fun U => U.heap.size = sz ∧ va_P (dC, dI) vwCl (wM A_x A_da A_ma A_ha A_ho A_ti A_be A_te A_ch K_da K_ma K_ha K_ho K_ti K_be K_te K_ch c_da c_ma c_ha c_ho c_ti c_be c_te c_ch c_up c_fu c_tm c_tc) U.heap ∧ va_K (dC, dI) vwCl (tM K_da K_ma K_ha K_ho K_ti K_be K_te K_ch) U ∧ va_D (fun _ => True) (wM A_x A_da A_ma A_ha A_ho A_ti A_be A_te A_ch K_da K_ma K_ha K_ho K_ti K_be K_te K_ch c_da c_ma c_ha c_ho c_ti c_be c_te c_ch c_up c_fu c_tm c_tc))) (va_Qi (fun (r : Int32) (_ : Unit) => r0 = r) (fun _ t => va_P (dC, dI) vwCl (wM A_x A_da A_ma A_ha A_ho A_ti A_be A_te A_ch K_da K_ma K_ha K_ho K_ti K_be K_te K_ch c_da c_ma o_ha c_ho c_ti c_be c_te c_ch c_up c_fu c_tm c_tc) t.heap ∧ va_D (va_A (wM A_x A_da A_ma A_ha A_ho A_ti A_be A_te A_ch K_da K_ma K_ha K_ho K_ti K_be K_te K_ch c_da c_ma c_ha c_ho c_ti c_be c_te c_ch c_up c_fu c_tm c_tc) sz) (wM A_x A_da A_ma A_ha A_ho A_ti A_be A_te A_ch K_da K_ma K_ha K_ho K_ti K_be K_te K_ch c_da c_ma o_ha c_ho c_ti c_be c_te c_ch c_up c_fu c_tm c_tc)) (va_A (wM A_x A_da A_ma A_ha A_ho A_ti A_be A_te A_ch K_da K_ma K_ha K_ho K_ti K_be K_te K_ch c_da c_ma c_ha c_ho c_ti c_be c_te c_ch c_up c_fu c_tm c_tc) sz)) 0 0 (va_A (wM A_x A_da A_ma A_ha A_ho A_ti A_be A_te A_ch K_da K_ma K_ha K_ho K_ti K_be K_te K_ch c_da c_ma c_ha c_ho c_ti c_be c_te c_ch c_up c_fu c_tm c_tc) sz) := by
  refine Met.ofW (cc := cX5_close) (maxL := 3) (ret := (some .int)) (by decide) rfl ?_
  intro p e s m args below meth c s₁ B hml hv
  obtain ⟨rfl, hsz, hP, hK, hD0⟩ := hv
  have hx := B.exec
  have hb := B.bytes
  have hr := B.returns
  have hts := atoms_spec (ws := wsX5_close) B.pre
  have hown : s.vm.findClass RX5 = some m.cls := findClass_of_methodNamed B.named
  have hlocks := B.notSynchronized
  subst hsz
  have hD := hD0.self (sz := s.heap.size)
  generalize hAe : va_A (wM A_x A_da A_ma A_ha A_ho A_ti A_be A_te A_ch K_da K_ma K_ha K_ho K_ti K_be K_te K_ch c_da c_ma c_ha c_ho c_ti c_be c_te c_ch c_up c_fu c_tm c_tc) s.heap.size = A at hD ⊢
  have hA : ∀ q : Nat, s.heap.size ≤ q → A q := fun q h => by rw [← hAe]; exact Or.inr h
  have hS : va_S A s.heap s.heap [] := va_S.rf
  have hP : va_P (dC, dI) vwCl (wM A_x A_da A_ma A_ha A_ho A_ti A_be A_te A_ch K_da K_ma K_ha K_ho K_ti K_be K_te K_ch c_da c_ma c_ha c_ho c_ti c_be c_te c_ch c_up c_fu c_tm c_tc) s.heap := hP
  have hl := lv_entry ([.ref A_x, .int p1]) (n := 3) (Nat.le_of_ble_eq_true rfl)
  rw [lg_entry_eq]
  generalize (lg_sl ([.ref A_x, .int p1]) ++ List.replicate (3 - (lg_sl ([.ref A_x, .int p1])).length) Slot.unset).toArray = ls at hl ⊢
  have hl : lv_has ls 3 [(0, .ref A_x), (1, .int p1)] := hl
  refine w_name (fun Q hQ => ?_)
  unfold m_X5_close at hm
  refine lv_aload_n hx hb dX5_close_0 rfl (lv_at hl 0 rfl) ?_
  refine lv_iload_n hx hb dX5_close_1 rfl (lv_at hl 1 rfl) ?_
  obtain ⟨x1, ex, hm⟩ := g_bind hm
  refine vp_callSi (W.runV (As := [.int p1]) (rest := []) ⟨hx, hb, hml, hown, hts⟩ (k_X5_slotAt l dC dI A_x A_da A_ma A_ha A_ho A_ti A_be A_te A_ch K_da K_ma K_ha K_ho K_ti K_be K_te K_ch c_da c_ma c_ha c_ho c_ti c_be c_te c_ch c_up c_fu c_tm c_tc p1 _ ex) (cwV 1 hts gX5_close_X5_slotAt rfl rfl rfl (by decide +kernel) ⟨Nat.le_of_ble_eq_true rfl, Nat.le_of_ble_eq_true rfl⟩) ⟨w_blR, va_recv hK hP (ci := 3) (q0 := 0) rfl rfl, fun U hU hW => ⟨rfl, by rw [hU]; exact hP.sub [0, 1, 2, 3, 4, 5, 6, 7, 8] rfl, va_K.moved hW.alike (hK.sub [0, 1, 2, 3, 4, 5, 6, 7] rfl)⟩⟩ rfl rfl hl.1 rfl (lv_room (Nat.le_of_ble_eq_true rfl)) dX5_close_2 ⟨Nat.zero_le _, Nat.zero_le _⟩) (fun _ ey => ?_)
  subst ey
  refine lv_istore_n (lv' := [(2, .int x1), (0, .ref A_x), (1, .int p1)]) hx hb dX5_close_5 rfl hl (by decide) rfl (fun ls hl => ?_)
  refine lv_iload_n hx hb dX5_close_6 rfl (lv_at hl 0 rfl) ?_
  refine lv_if_ge (tgt := 12) hx hb dX5_close_7 (by decide) (fun c2 => ?_) (fun c2 => ?_)
  · have hm := g_t c2 hm
    refine lv_aload_n hx hb dX5_close_12 rfl (lv_at hl 1 rfl) ?_
    refine va_get (D := (dC, dI)) (ci := 3) (v := .ref A_ha) (C := RX5) (T := TX5) (N := 12) hx hb hts hi_X5_close_X5 hown hK hP 0 rfl rfl 4 (by decide) (hts (Cond.fieldLink RX5 16 "BuddyFilesModel" "handle" "[I") hk_X5_close_16) (fun _ h9 => h9) rfl dX5_close_13 ?_
    refine lv_iload_n hx hb dX5_close_16 rfl (lv_at hl 2 rfl) ?_
    refine lv_iconst (v := 0) hx hb dX5_close_17 (by decide) ?_
    obtain ⟨f3, ex, hm⟩ := g_bind hm
    refine w_ast hx hb hK hP hD hS 3 2 rfl rfl ex dX5_close_18 (fun H4 locs4 hP hD hS => ?_)
    have hP : va_P (dC, dI) vwCl (wM A_x A_da A_ma A_ha A_ho A_ti A_be A_te A_ch K_da K_ma K_ha K_ho K_ti K_be K_te K_ch c_da c_ma f3 c_ho c_ti c_be c_te c_ch c_up c_fu c_tm c_tc) H4 := hP
    have hD : va_D A (wM A_x A_da A_ma A_ha A_ho A_ti A_be A_te A_ch K_da K_ma K_ha K_ho K_ti K_be K_te K_ch c_da c_ma f3 c_ho c_ti c_be c_te c_ch c_up c_fu c_tm c_tc) := hD
    refine lv_iconst (v := 0) hx hb dX5_close_19 (by decide) ?_
    cases hm
    subst hQ
    exact W.iret hx hb hr (fun t ht hW => ⟨⟨_, (), rfl, rfl, by rw [ht]; exact hP, hD⟩, hS.F ht⟩) hS.2.2 dX5_close_20
  · have hm := g_f c2 hm
    refine lv_iload_n hx hb dX5_close_10 rfl (lv_at hl 0 rfl) ?_
    cases hm
    subst hQ
    exact W.iret hx hb hr (fun t ht hW => ⟨⟨_, (), rfl, rfl, by rw [ht]; exact hP, hD⟩, hS.F ht⟩) hS.2.2 dX5_close_11
theorem hi_X5_write_X5 : ∀ w ∈ wsX50, w ∈ wsX5_write := by decide +kernel
theorem hk_X5_write_13 : Cond.fieldLink RX5 13 "BuddyFilesModel" "mem" "[I" ∈ wsX5_write := by decide +kernel
abbrev rm_X5_write : Room := { frames := 6, cells := 0, slots := 0, locals := 136 }
set_option maxHeartbeats 4000000 in
set_option maxRecDepth 100000 in
theorem k_X5_write (l : Launch) (dC : Nat → ClassId) (dI : Nat → Nat → Nat) (A_x A_da A_ma A_ha A_ho A_ti A_be A_te A_ch : Nat) (K_da K_ma K_ha K_ho K_ti K_be K_te K_ch : ClassId) (c_da c_ma c_ha c_ho c_ti c_be c_te c_ch : Nat → Int32) (c_up c_fu c_tm c_tc : Int32) (sz : Nat) (p1 : Int32) (p2 : Int32) (p3 : Int32) (r0 : Int32) (o_ma : (Nat → Int32)) (o_te : (Nat → Int32)) (o_tm : Int32) (o_tc : Int32) (hm : m_X5_write c_ma c_ha c_te c_up c_tm c_tc p1 p2 p3 = some (r0, o_ma, o_te, o_tm, o_tc)) : Met l yX5_write wsX5_write rm_X5_write (va_Pc [.ref A_x, .int p1, .int p2, .int p3] (fun U => U.heap.size = sz ∧ va_P (dC, dI) vwCl (wM A_x A_da A_ma A_ha A_ho A_ti A_be A_te A_ch K_da K_ma K_ha K_ho K_ti K_be K_te K_ch c_da c_ma c_ha c_ho c_ti c_be c_te c_ch c_up c_fu c_tm c_tc) U.heap ∧ va_K (dC, dI) vwCl (tM K_da K_ma K_ha K_ho K_ti K_be K_te K_ch) U ∧ va_D (fun _ => True) (wM A_x A_da A_ma A_ha A_ho A_ti A_be A_te A_ch K_da K_ma K_ha K_ho K_ti K_be K_te K_ch c_da c_ma c_ha c_ho c_ti c_be c_te c_ch c_up c_fu c_tm c_tc))) (va_Qi (fun (r : Int32) (_ : Unit) => r0 = r) (fun _ t => va_P (dC, dI) vwCl (wM A_x A_da A_ma A_ha A_ho A_ti A_be A_te A_ch K_da K_ma K_ha K_ho K_ti K_be K_te K_ch c_da o_ma c_ha c_ho c_ti c_be o_te c_ch c_up c_fu o_tm o_tc) t.heap ∧ va_D (va_A (wM A_x A_da A_ma A_ha A_ho A_ti A_be A_te A_ch K_da K_ma K_ha K_ho K_ti K_be K_te K_ch c_da c_ma c_ha c_ho c_ti c_be c_te c_ch c_up c_fu c_tm c_tc) sz) (wM A_x A_da A_ma A_ha A_ho A_ti A_be A_te A_ch K_da K_ma K_ha K_ho K_ti K_be K_te K_ch c_da o_ma c_ha c_ho c_ti c_be o_te c_ch c_up c_fu o_tm o_tc)) (va_A (wM A_x A_da A_ma A_ha A_ho A_ti A_be A_te A_ch K_da K_ma K_ha K_ho K_ti K_be K_te K_ch c_da c_ma c_ha c_ho c_ti c_be c_te c_ch c_up c_fu c_tm c_tc) sz)) 0 0 (va_A (wM A_x A_da A_ma A_ha A_ho A_ti A_be A_te A_ch K_da K_ma K_ha K_ho K_ti K_be K_te K_ch c_da c_ma c_ha c_ho c_ti c_be c_te c_ch c_up c_fu c_tm c_tc) sz) := by
  refine Met.ofW (cc := cX5_write) (maxL := 6) (ret := (some .int)) (by decide) rfl ?_
  intro p e s m args below meth c s₁ B hml hv
  obtain ⟨rfl, hsz, hP, hK, hD0⟩ := hv
  have hx := B.exec
  have hb := B.bytes
  have hr := B.returns
  have hts := atoms_spec (ws := wsX5_write) B.pre
  have hown : s.vm.findClass RX5 = some m.cls := findClass_of_methodNamed B.named
  have hlocks := B.notSynchronized
  subst hsz
  have hD := hD0.self (sz := s.heap.size)
  generalize hAe : va_A (wM A_x A_da A_ma A_ha A_ho A_ti A_be A_te A_ch K_da K_ma K_ha K_ho K_ti K_be K_te K_ch c_da c_ma c_ha c_ho c_ti c_be c_te c_ch c_up c_fu c_tm c_tc) s.heap.size = A at hD ⊢
  have hA : ∀ q : Nat, s.heap.size ≤ q → A q := fun q h => by rw [← hAe]; exact Or.inr h
  have hS : va_S A s.heap s.heap [] := va_S.rf
  have hP : va_P (dC, dI) vwCl (wM A_x A_da A_ma A_ha A_ho A_ti A_be A_te A_ch K_da K_ma K_ha K_ho K_ti K_be K_te K_ch c_da c_ma c_ha c_ho c_ti c_be c_te c_ch c_up c_fu c_tm c_tc) s.heap := hP
  have hl := lv_entry ([.ref A_x, .int p1, .int p2, .int p3]) (n := 6) (Nat.le_of_ble_eq_true rfl)
  rw [lg_entry_eq]
  generalize (lg_sl ([.ref A_x, .int p1, .int p2, .int p3]) ++ List.replicate (6 - (lg_sl ([.ref A_x, .int p1, .int p2, .int p3])).length) Slot.unset).toArray = ls at hl ⊢
  have hl : lv_has ls 6 [(0, .ref A_x), (1, .int p1), (2, .int p2), (3, .int p3)] := hl
  refine w_name (fun Q hQ => ?_)
  unfold m_X5_write at hm
  refine lv_aload_n hx hb dX5_write_0 rfl (lv_at hl 0 rfl) ?_
  refine lv_iload_n hx hb dX5_write_1 rfl (lv_at hl 1 rfl) ?_
  obtain ⟨x1, ex, hm⟩ := g_bind hm
  refine vp_callSi (W.runV (As := [.int p1]) (rest := []) ⟨hx, hb, hml, hown, hts⟩ (k_X5_slotAt l dC dI A_x A_da A_ma A_ha A_ho A_ti A_be A_te A_ch K_da K_ma K_ha K_ho K_ti K_be K_te K_ch c_da c_ma c_ha c_ho c_ti c_be c_te c_ch c_up c_fu c_tm c_tc p1 _ ex) (cwV 1 hts gX5_write_X5_slotAt rfl rfl rfl (by decide +kernel) ⟨Nat.le_of_ble_eq_true rfl, Nat.le_of_ble_eq_true rfl⟩) ⟨w_blR, va_recv hK hP (ci := 3) (q0 := 0) rfl rfl, fun U hU hW => ⟨rfl, by rw [hU]; exact hP.sub [0, 1, 2, 3, 4, 5, 6, 7, 8] rfl, va_K.moved hW.alike (hK.sub [0, 1, 2, 3, 4, 5, 6, 7] rfl)⟩⟩ rfl rfl hl.1 rfl (lv_room (Nat.le_of_ble_eq_true rfl)) dX5_write_2 ⟨Nat.zero_le _, Nat.zero_le _⟩) (fun _ ey => ?_)
  subst ey
  refine lv_istore (lv' := [(4, .int x1), (0, .ref A_x), (1, .int p1), (2, .int p2), (3, .int p3)]) hx hb dX5_write_5 hl (by decide) rfl (fun ls hl => ?_)
  refine lv_iload hx hb dX5_write_7 (lv_at hl 0 rfl) ?_
  refine lv_if_ge (tgt := 15) hx hb dX5_write_9 (by decide) (fun c2 => ?_) (fun c2 => ?_)
  · have hm := g_t c2 hm
    refine lv_iload_n hx hb dX5_write_15 rfl (lv_at hl 3 rfl) ?_
    refine lv_iconst (v := 0) hx hb dX5_write_16 (by decide) ?_
    refine lv_bipush (v := 63) hx hb dX5_write_17 (by decide) ?_
    obtain ⟨x3, ex, hm⟩ := g_bind hm
    refine vp_callSi (W.runS (As := [.int p2, .int (0 : Int32), .int (63 : Int32)]) (rest := []) ⟨hx, hb, hml, hown, hts⟩ (k_X5_within l  p2 (0 : Int32) (63 : Int32) _ ex) (va_cwS 3 hts gX5_write_X5_within rfl rfl rfl (by decide +kernel) ⟨Nat.le_of_ble_eq_true rfl, Nat.le_of_ble_eq_true rfl⟩) ⟨w_bl0, fun U hU hW => ⟨rfl, trivial⟩⟩ rfl rfl hl.1 rfl (lv_room (Nat.le_of_ble_eq_true rfl)) dX5_write_19 ⟨Nat.zero_le _, Nat.zero_le _⟩) (fun _ ey => ?_)
    subst ey
    refine lv_if_ne (tgt := 28) hx hb dX5_write_22 (by decide) (fun c4 => ?_) (fun c4 => ?_)
    · have hm := g_f c4 hm
      refine lv_iload_n hx hb dX5_write_28 rfl (lv_at hl 3 rfl) ?_
      refine lv_aload_n hx hb dX5_write_29 rfl (lv_at hl 1 rfl) ?_
      refine va_get (D := (dC, dI)) (ci := 3) (v := .ref A_ma) (C := RX5) (T := TX5) (N := 12) hx hb hts hi_X5_write_X5 hown hK hP 0 rfl rfl 3 (by decide) (hts (Cond.fieldLink RX5 13 "BuddyFilesModel" "mem" "[I") hk_X5_write_13) (fun _ h9 => h9) rfl dX5_write_30 ?_
      refine lv_bipush (v := 7) hx hb dX5_write_33 (by decide) ?_
      refine lv_iload hx hb dX5_write_35 (lv_at hl 0 rfl) ?_
      refine lv_imul hx hb dX5_write_37 ?_
      refine lv_iconst (v := 2) hx hb dX5_write_38 (by decide) ?_
      refine lv_iadd hx hb dX5_write_39 ?_
      obtain ⟨x5, ex, hm⟩ := g_bind hm
      refine w_ald hx hb hK hP 2 1 rfl rfl ex dX5_write_40 ?_
      refine lv_icmp_lt (tgt := 63) hx hb dX5_write_41 (by decide) (fun c6 => ?_) (fun c6 => ?_)
      · have hm := g_t c6 hm
        refine lv_aload_n hx hb dX5_write_63 rfl (lv_at hl 1 rfl) ?_
        refine va_get (D := (dC, dI)) (ci := 3) (v := .ref A_ma) (C := RX5) (T := TX5) (N := 12) hx hb hts hi_X5_write_X5 hown hK hP 0 rfl rfl 3 (by decide) (hts (Cond.fieldLink RX5 13 "BuddyFilesModel" "mem" "[I") hk_X5_write_13) (fun _ h9 => h9) rfl dX5_write_64 ?_
        refine lv_aload_n hx hb dX5_write_67 rfl (lv_at hl 1 rfl) ?_
        refine lv_iload hx hb dX5_write_68 (lv_at hl 0 rfl) ?_
        refine lv_iload_n hx hb dX5_write_70 rfl (lv_at hl 3 rfl) ?_
        obtain ⟨x7, ex, hm⟩ := g_bind hm
        refine vp_callSi (W.runV (As := [.int x1, .int p2]) (rest := [.ref A_ma]) ⟨hx, hb, hml, hown, hts⟩ (k_X5_wordCell l dC dI A_x A_da A_ma A_ha A_ho A_ti A_be A_te A_ch K_da K_ma K_ha K_ho K_ti K_be K_te K_ch c_da c_ma c_ha c_ho c_ti c_be c_te c_ch c_up c_fu c_tm c_tc x1 p2 _ ex) (cwV 2 hts gX5_write_X5_wordCell rfl rfl rfl (by decide +kernel) ⟨Nat.le_of_ble_eq_true rfl, Nat.le_of_ble_eq_true rfl⟩) ⟨w_blR, va_recv hK hP (ci := 3) (q0 := 0) rfl rfl, fun U hU hW => ⟨rfl, by rw [hU]; exact hP.sub [0, 1, 2, 3, 4, 5, 6, 7, 8] rfl, va_K.moved hW.alike (hK.sub [0, 1, 2, 3, 4, 5, 6, 7] rfl)⟩⟩ rfl rfl hl.1 rfl (lv_room (Nat.le_of_ble_eq_true rfl)) dX5_write_71 ⟨Nat.zero_le _, Nat.zero_le _⟩) (fun _ ey => ?_)
        subst ey
        refine lv_iload_n hx hb dX5_write_74 rfl (lv_at hl 4 rfl) ?_
        obtain ⟨f8, ex, hm⟩ := g_bind hm
        refine w_ast hx hb hK hP hD hS 2 1 rfl rfl ex dX5_write_75 (fun H9 locs9 hP hD hS => ?_)
        have hP : va_P (dC, dI) vwCl (wM A_x A_da A_ma A_ha A_ho A_ti A_be A_te A_ch K_da K_ma K_ha K_ho K_ti K_be K_te K_ch c_da f8 c_ha c_ho c_ti c_be c_te c_ch c_up c_fu c_tm c_tc) H9 := hP
        have hD : va_D A (wM A_x A_da A_ma A_ha A_ho A_ti A_be A_te A_ch K_da K_ma K_ha K_ho K_ti K_be K_te K_ch c_da f8 c_ha c_ho c_ti c_be c_te c_ch c_up c_fu c_tm c_tc) := hD
        refine lv_iconst (v := 0) hx hb dX5_write_76 (by decide) ?_
        cases hm
        subst hQ
        exact W.iret hx hb hr (fun t ht hW => ⟨⟨_, (), rfl, rfl, by rw [ht]; exact hP, hD⟩, hS.F ht⟩) hS.2.2 dX5_write_77
      · have hm := g_f c6 hm
        refine lv_aload_n hx hb dX5_write_44 rfl (lv_at hl 1 rfl) ?_
        refine lv_iload hx hb dX5_write_45 (lv_at hl 0 rfl) ?_
        refine lv_iload_n hx hb dX5_write_47 rfl (lv_at hl 3 rfl) ?_
        refine lv_iconst (v := 1) hx hb dX5_write_48 (by decide) ?_
        refine lv_iadd hx hb dX5_write_49 ?_
        obtain ⟨⟨x10, f11, f12, f13, f14⟩, ex, hm⟩ := g_bind hm
        have hm := g_k5_s hm
        have hPc := hP.sub (ws' := (wM A_x A_da A_ma A_ha A_ho A_ti A_be A_te A_ch K_da K_ma K_ha K_ho K_ti K_be K_te K_ch c_da c_ma c_ha c_ho c_ti c_be c_te c_ch c_up c_fu c_tm c_tc)) [0, 1, 2, 3, 4, 5, 6, 7, 8] rfl
        have hDc := hD.sub (ws' := (wM A_x A_da A_ma A_ha A_ho A_ti A_be A_te A_ch K_da K_ma K_ha K_ho K_ti K_be K_te K_ch c_da c_ma c_ha c_ho c_ti c_be c_te c_ch c_up c_fu c_tm c_tc)) [0, 1, 2, 3, 4, 5, 6, 7, 8] (by decide) rfl
        have hKc := hK.sub (tys' := (tM K_da K_ma K_ha K_ho K_ti K_be K_te K_ch)) [0, 1, 2, 3, 4, 5, 6, 7] rfl
        have hFc := va_free (wc := (wM A_x A_da A_ma A_ha A_ho A_ti A_be A_te A_ch K_da K_ma K_ha K_ho K_ti K_be K_te K_ch c_da c_ma c_ha c_ho c_ti c_be c_te c_ch c_up c_fu c_tm c_tc)) hD hS hA [0, 1, 2, 3, 4, 5, 6, 7, 8] rfl
        refine va_calli (va_runV (As := [.int x1, .int (p2 + (1 : Int32))]) (rest := []) ⟨hx, hb, hml, hown, hts⟩ (k_X5_grow l dC dI A_x A_da A_ma A_ha A_ho A_ti A_be A_te A_ch K_da K_ma K_ha K_ho K_ti K_be K_te K_ch c_da c_ma c_ha c_ho c_ti c_be c_te c_ch c_up c_fu c_tm c_tc s.heap.size x1 (p2 + (1 : Int32)) _ _ _ _ _ ex) (cwV 2 hts gX5_write_X5_grow rfl rfl rfl (by decide +kernel) ⟨Nat.le_of_ble_eq_true rfl, Nat.le_of_ble_eq_true rfl⟩) ⟨w_blW, va_recv hKc hPc (ci := 3) (q0 := 0) rfl rfl, fun U hU hW => ⟨rfl, by rw [hU], by rw [hU]; exact hPc, va_K.moved hW.alike hKc, hDc.weaken (fun _ _ _ _ => trivial)⟩⟩ rfl rfl hl.1 rfl (lv_room (Nat.le_of_ble_eq_true rfl)) dX5_write_50 ⟨Nat.zero_le _, Nat.zero_le _⟩) hS (fun q _ h => hFc q h) hFc (fun _ _ t H15 locs15 ht hvm hw hB hz1 hk1 hS => ?_)
        subst hw
        refine W.widen (k := 0) (n := 0) (Nat.le_refl 0) (Nat.le_refl 0) ?_
        obtain ⟨hP1, hD1⟩ := hB
        rw [ht] at hP1
        obtain ⟨hP, hD⟩ := va_join (wr := []) (w1 := (wM A_x A_da A_ma A_ha A_ho A_ti A_be A_te A_ch K_da K_ma K_ha K_ho K_ti K_be K_te K_ch c_da f11 c_ha c_ho c_ti c_be f12 c_ch c_up c_fu f13 f14)) hP hD [0, 1, 2, 3, 4, 5, 6, 7, 8] [] rfl rfl (by decide) (by decide) hk1 hFc hP1 hD1
        have hP : va_P (dC, dI) vwCl (wM A_x A_da A_ma A_ha A_ho A_ti A_be A_te A_ch K_da K_ma K_ha K_ho K_ti K_be K_te K_ch c_da f11 c_ha c_ho c_ti c_be f12 c_ch c_up c_fu f13 f14) H15 := hP.sub [0, 1, 2, 3, 4, 5, 6, 7, 8] rfl
        have hD : va_D A (wM A_x A_da A_ma A_ha A_ho A_ti A_be A_te A_ch K_da K_ma K_ha K_ho K_ti K_be K_te K_ch c_da f11 c_ha c_ho c_ti c_be f12 c_ch c_up c_fu f13 f14) := hD.sub [0, 1, 2, 3, 4, 5, 6, 7, 8] (by decide) rfl
        refine lv_istore (lv' := [(5, .int x10), (4, .int x1), (0, .ref A_x), (1, .int p1), (2, .int p2), (3, .int p3)]) hx hb dX5_write_53 hl (by decide) rfl (fun ls hl => ?_)
        refine lv_iload hx hb dX5_write_55 (lv_at hl 0 rfl) ?_
        refine lv_if_ge (tgt := 63) hx hb dX5_write_57 (by decide) (fun c16 => ?_) (fun c16 => ?_)
        · have hm := g_t c16 hm
          refine lv_aload_n hx hb dX5_write_63 rfl (lv_at hl 2 rfl) ?_
          refine va_get (D := (dC, dI)) (ci := 3) (v := .ref A_ma) (C := RX5) (T := TX5) (N := 12) hx hb hts hi_X5_write_X5 hown hK hP 0 rfl rfl 3 (by decide) (hts (Cond.fieldLink RX5 13 "BuddyFilesModel" "mem" "[I") hk_X5_write_13) (fun _ h9 => h9) rfl dX5_write_64 ?_
          refine lv_aload_n hx hb dX5_write_67 rfl (lv_at hl 2 rfl) ?_
          refine lv_iload hx hb dX5_write_68 (lv_at hl 1 rfl) ?_
          refine lv_iload_n hx hb dX5_write_70 rfl (lv_at hl 4 rfl) ?_
          obtain ⟨x17, ex, hm⟩ := g_bind hm
          refine vp_callSi (W.runV (As := [.int x1, .int p2]) (rest := [.ref A_ma]) ⟨hx, hb, hml, hown, hts⟩ (k_X5_wordCell l dC dI A_x A_da A_ma A_ha A_ho A_ti A_be A_te A_ch K_da K_ma K_ha K_ho K_ti K_be K_te K_ch c_da f11 c_ha c_ho c_ti c_be f12 c_ch c_up c_fu f13 f14 x1 p2 _ ex) (cwV 2 hts gX5_write_X5_wordCell rfl rfl rfl (by decide +kernel) ⟨Nat.le_of_ble_eq_true rfl, Nat.le_of_ble_eq_true rfl⟩) ⟨w_blR, va_recv hK hP (ci := 3) (q0 := 0) rfl rfl, fun U hU hW => ⟨rfl, by rw [hU]; exact hP.sub [0, 1, 2, 3, 4, 5, 6, 7, 8] rfl, va_K.moved hW.alike (hK.sub [0, 1, 2, 3, 4, 5, 6, 7] rfl)⟩⟩ rfl rfl hl.1 rfl (lv_room (Nat.le_of_ble_eq_true rfl)) dX5_write_71 ⟨Nat.zero_le _, Nat.zero_le _⟩) (fun _ ey => ?_)
          subst ey
          refine lv_iload_n hx hb dX5_write_74 rfl (lv_at hl 5 rfl) ?_
          obtain ⟨f18, ex, hm⟩ := g_bind hm
          refine w_ast hx hb hK hP hD hS 2 1 rfl rfl ex dX5_write_75 (fun H19 locs19 hP hD hS => ?_)
          have hP : va_P (dC, dI) vwCl (wM A_x A_da A_ma A_ha A_ho A_ti A_be A_te A_ch K_da K_ma K_ha K_ho K_ti K_be K_te K_ch c_da f18 c_ha c_ho c_ti c_be f12 c_ch c_up c_fu f13 f14) H19 := hP
          have hD : va_D A (wM A_x A_da A_ma A_ha A_ho A_ti A_be A_te A_ch K_da K_ma K_ha K_ho K_ti K_be K_te K_ch c_da f18 c_ha c_ho c_ti c_be f12 c_ch c_up c_fu f13 f14) := hD
          refine lv_iconst (v := 0) hx hb dX5_write_76 (by decide) ?_
          cases hm
          subst hQ
          exact W.iret hx hb hr (fun t ht hW => ⟨⟨_, (), rfl, rfl, by rw [ht]; exact hP, hD⟩, hS.F ht⟩) hS.2.2 dX5_write_77
        · have hm := g_f c16 hm
          refine lv_iload hx hb dX5_write_60 (lv_at hl 0 rfl) ?_
          cases hm
          subst hQ
          exact W.iret hx hb hr (fun t ht hW => ⟨⟨_, (), rfl, rfl, by rw [ht]; exact hP, hD⟩, hS.F ht⟩) hS.2.2 dX5_write_62
    · have hm := g_t c4 hm
      refine lv_bipush (v := -7) hx hb dX5_write_25 (by decide) ?_
      cases hm
      subst hQ
      exact W.iret hx hb hr (fun t ht hW => ⟨⟨_, (), rfl, rfl, by rw [ht]; exact hP, hD⟩, hS.F ht⟩) hS.2.2 dX5_write_27
  · have hm := g_f c2 hm
    refine lv_iload hx hb dX5_write_12 (lv_at hl 0 rfl) ?_
    cases hm
    subst hQ
    exact W.iret hx hb hr (fun t ht hW => ⟨⟨_, (), rfl, rfl, by rw [ht]; exact hP, hD⟩, hS.F ht⟩) hS.2.2 dX5_write_14
theorem hi_X5_read_X5 : ∀ w ∈ wsX50, w ∈ wsX5_read := by decide +kernel
theorem hk_X5_read_13 : Cond.fieldLink RX5 13 "BuddyFilesModel" "mem" "[I" ∈ wsX5_read := by decide +kernel
abbrev rm_X5_read : Room := { frames := 3, cells := 0, slots := 0, locals := 66 }
set_option maxHeartbeats 4000000 in
set_option maxRecDepth 100000 in
theorem k_X5_read (l : Launch) (dC : Nat → ClassId) (dI : Nat → Nat → Nat) (A_x A_da A_ma A_ha A_ho A_ti A_be A_te A_ch : Nat) (K_da K_ma K_ha K_ho K_ti K_be K_te K_ch : ClassId) (c_da c_ma c_ha c_ho c_ti c_be c_te c_ch : Nat → Int32) (c_up c_fu c_tm c_tc : Int32) (p1 : Int32) (p2 : Int32) (r0 : Int32) (hm : m_X5_read c_ma c_ha c_up p1 p2 = some r0) : Met l yX5_read wsX5_read rm_X5_read (va_Pc [.ref A_x, .int p1, .int p2] (fun U => va_P (dC, dI) vwCl (wM A_x A_da A_ma A_ha A_ho A_ti A_be A_te A_ch K_da K_ma K_ha K_ho K_ti K_be K_te K_ch c_da c_ma c_ha c_ho c_ti c_be c_te c_ch c_up c_fu c_tm c_tc) U.heap ∧ va_K (dC, dI) vwCl (tM K_da K_ma K_ha K_ho K_ti K_be K_te K_ch) U)) (vp_Si (fun r => r0 = r)) 0 0 (fun _ => False) := by
  refine Met.ofW (cc := cX5_read) (maxL := 4) (ret := (some .int)) (by decide) rfl ?_
  intro p e s m args below meth c s₁ B hml hv
  obtain ⟨rfl, hP, hK⟩ := hv
  have hx := B.exec
  have hb := B.bytes
  have hr := B.returns
  have hts := atoms_spec (ws := wsX5_read) B.pre
  have hown : s.vm.findClass RX5 = some m.cls := findClass_of_methodNamed B.named
  have hlocks := B.notSynchronized
  have hl := lv_entry ([.ref A_x, .int p1, .int p2]) (n := 4) (Nat.le_of_ble_eq_true rfl)
  rw [lg_entry_eq]
  generalize (lg_sl ([.ref A_x, .int p1, .int p2]) ++ List.replicate (4 - (lg_sl ([.ref A_x, .int p1, .int p2])).length) Slot.unset).toArray = ls at hl ⊢
  have hl : lv_has ls 4 [(0, .ref A_x), (1, .int p1), (2, .int p2)] := hl
  refine w_name (fun Q hQ => ?_)
  unfold m_X5_read at hm
  refine lv_aload_n hx hb dX5_read_0 rfl (lv_at hl 0 rfl) ?_
  refine lv_iload_n hx hb dX5_read_1 rfl (lv_at hl 1 rfl) ?_
  obtain ⟨x1, ex, hm⟩ := g_bind hm
  refine vp_callSi (W.runV (As := [.int p1]) (rest := []) ⟨hx, hb, hml, hown, hts⟩ (k_X5_slotAt l dC dI A_x A_da A_ma A_ha A_ho A_ti A_be A_te A_ch K_da K_ma K_ha K_ho K_ti K_be K_te K_ch c_da c_ma c_ha c_ho c_ti c_be c_te c_ch c_up c_fu c_tm c_tc p1 _ ex) (cwV 1 hts gX5_read_X5_slotAt rfl rfl rfl (by decide +kernel) ⟨Nat.le_of_ble_eq_true rfl, Nat.le_of_ble_eq_true rfl⟩) ⟨w_blR, va_recv hK hP (ci := 3) (q0 := 0) rfl rfl, fun U hU hW => ⟨rfl, by rw [hU]; exact hP.sub [0, 1, 2, 3, 4, 5, 6, 7, 8] rfl, va_K.moved hW.alike (hK.sub [0, 1, 2, 3, 4, 5, 6, 7] rfl)⟩⟩ rfl rfl hl.1 rfl (lv_room (Nat.le_of_ble_eq_true rfl)) dX5_read_2 ⟨Nat.zero_le _, Nat.zero_le _⟩) (fun _ ey => ?_)
  subst ey
  refine lv_istore_n (lv' := [(3, .int x1), (0, .ref A_x), (1, .int p1), (2, .int p2)]) hx hb dX5_read_5 rfl hl (by decide) rfl (fun ls hl => ?_)
  refine lv_iload_n hx hb dX5_read_6 rfl (lv_at hl 0 rfl) ?_
  refine lv_if_lt (tgt := 29) hx hb dX5_read_7 (by decide) (fun c2 => ?_) (fun c2 => ?_)
  · have hm := g_t c2 hm
    refine lv_iconst (v := 0) hx hb dX5_read_29 (by decide) ?_
    refine lv_goto (tgt := 44) hx hb dX5_read_30 (by decide) ?_
    cases hm
    subst hQ
    exact W.iret hx hb hr (fun t ht hW => ⟨_, rfl, rfl, ht⟩) (fun _ h => nomatch h) dX5_read_44
  · have hm := g_f c2 hm
    refine lv_iload_n hx hb dX5_read_10 rfl (lv_at hl 3 rfl) ?_
    refine lv_if_lt (tgt := 29) hx hb dX5_read_11 (by decide) (fun c3 => ?_) (fun c3 => ?_)
    · have hm := g_t c3 hm
      refine lv_iconst (v := 0) hx hb dX5_read_29 (by decide) ?_
      refine lv_goto (tgt := 44) hx hb dX5_read_30 (by decide) ?_
      cases hm
      subst hQ
      exact W.iret hx hb hr (fun t ht hW => ⟨_, rfl, rfl, ht⟩) (fun _ h => nomatch h) dX5_read_44
    · have hm := g_f c3 hm
      refine lv_iload_n hx hb dX5_read_14 rfl (lv_at hl 3 rfl) ?_
      refine lv_aload_n hx hb dX5_read_15 rfl (lv_at hl 1 rfl) ?_
      refine va_get (D := (dC, dI)) (ci := 3) (v := .ref A_ma) (C := RX5) (T := TX5) (N := 12) hx hb hts hi_X5_read_X5 hown hK hP 0 rfl rfl 3 (by decide) (hts (Cond.fieldLink RX5 13 "BuddyFilesModel" "mem" "[I") hk_X5_read_13) (fun _ h9 => h9) rfl dX5_read_16 ?_
      refine lv_bipush (v := 7) hx hb dX5_read_19 (by decide) ?_
      refine lv_iload_n hx hb dX5_read_21 rfl (lv_at hl 0 rfl) ?_
      refine lv_imul hx hb dX5_read_22 ?_
      refine lv_iconst (v := 2) hx hb dX5_read_23 (by decide) ?_
      refine lv_iadd hx hb dX5_read_24 ?_
      obtain ⟨x4, ex, hm⟩ := g_bind hm
      refine w_ald hx hb hK hP 2 1 rfl rfl ex dX5_read_25 ?_
      refine lv_icmp_lt (tgt := 33) hx hb dX5_read_26 (by decide) (fun c5 => ?_) (fun c5 => ?_)
      · have hm := g_t c5 hm
        refine lv_aload_n hx hb dX5_read_33 rfl (lv_at hl 1 rfl) ?_
        refine va_get (D := (dC, dI)) (ci := 3) (v := .ref A_ma) (C := RX5) (T := TX5) (N := 12) hx hb hts hi_X5_read_X5 hown hK hP 0 rfl rfl 3 (by decide) (hts (Cond.fieldLink RX5 13 "BuddyFilesModel" "mem" "[I") hk_X5_read_13) (fun _ h9 => h9) rfl dX5_read_34 ?_
        refine lv_aload_n hx hb dX5_read_37 rfl (lv_at hl 1 rfl) ?_
        refine lv_iload_n hx hb dX5_read_38 rfl (lv_at hl 0 rfl) ?_
        refine lv_iload_n hx hb dX5_read_39 rfl (lv_at hl 3 rfl) ?_
        obtain ⟨x6, ex, hm⟩ := g_bind hm
        refine vp_callSi (W.runV (As := [.int x1, .int p2]) (rest := [.ref A_ma]) ⟨hx, hb, hml, hown, hts⟩ (k_X5_wordCell l dC dI A_x A_da A_ma A_ha A_ho A_ti A_be A_te A_ch K_da K_ma K_ha K_ho K_ti K_be K_te K_ch c_da c_ma c_ha c_ho c_ti c_be c_te c_ch c_up c_fu c_tm c_tc x1 p2 _ ex) (cwV 2 hts gX5_read_X5_wordCell rfl rfl rfl (by decide +kernel) ⟨Nat.le_of_ble_eq_true rfl, Nat.le_of_ble_eq_true rfl⟩) ⟨w_blR, va_recv hK hP (ci := 3) (q0 := 0) rfl rfl, fun U hU hW => ⟨rfl, by rw [hU]; exact hP.sub [0, 1, 2, 3, 4, 5, 6, 7, 8] rfl, va_K.moved hW.alike (hK.sub [0, 1, 2, 3, 4, 5, 6, 7] rfl)⟩⟩ rfl rfl hl.1 rfl (lv_room (Nat.le_of_ble_eq_true rfl)) dX5_read_40 ⟨Nat.zero_le _, Nat.zero_le _⟩) (fun _ ey => ?_)
        subst ey
        obtain ⟨x7, ex, hm⟩ := g_bind hm
        refine w_ald hx hb hK hP 2 1 rfl rfl ex dX5_read_43 ?_
        cases hm
        subst hQ
        exact W.iret hx hb hr (fun t ht hW => ⟨_, rfl, rfl, ht⟩) (fun _ h => nomatch h) dX5_read_44
      · have hm := g_f c5 hm
        refine lv_iconst (v := 0) hx hb dX5_read_29 (by decide) ?_
        refine lv_goto (tgt := 44) hx hb dX5_read_30 (by decide) ?_
        cases hm
        subst hQ
        exact W.iret hx hb hr (fun t ht hW => ⟨_, rfl, rfl, ht⟩) (fun _ h => nomatch h) dX5_read_44
theorem hi_X5_truncate_X5 : ∀ w ∈ wsX50, w ∈ wsX5_truncate := by decide +kernel
theorem hk_X5_truncate_13 : Cond.fieldLink RX5 13 "BuddyFilesModel" "mem" "[I" ∈ wsX5_truncate := by decide +kernel
abbrev rm_X5_truncate : Room := { frames := 6, cells := 0, slots := 0, locals := 136 }
set_option maxHeartbeats 4000000 in
set_option maxRecDepth 100000 in
theorem k_X5_truncate (l : Launch) (dC : Nat → ClassId) (dI : Nat → Nat → Nat) (A_x A_da A_ma A_ha A_ho A_ti A_be A_te A_ch : Nat) (K_da K_ma K_ha K_ho K_ti K_be K_te K_ch : ClassId) (c_da c_ma c_ha c_ho c_ti c_be c_te c_ch : Nat → Int32) (c_up c_fu c_tm c_tc : Int32) (sz : Nat) (p1 : Int32) (p2 : Int32) (r0 : Int32) (o_ma : (Nat → Int32)) (o_te : (Nat → Int32)) (o_tm : Int32) (o_tc : Int32) (hm : m_X5_truncate c_ma c_ha c_te c_up c_tm c_tc p1 p2 = some (r0, o_ma, o_te, o_tm, o_tc)) : Met l yX5_truncate wsX5_truncate rm_X5_truncate (va_Pc [.ref A_x, .int p1, .int p2] (fun U => U.heap.size = sz ∧ va_P (dC, dI) vwCl (wM A_x A_da A_ma A_ha A_ho A_ti A_be A_te A_ch K_da K_ma K_ha K_ho K_ti K_be K_te K_ch c_da c_ma c_ha c_ho c_ti c_be c_te c_ch c_up c_fu c_tm c_tc) U.heap ∧ va_K (dC, dI) vwCl (tM K_da K_ma K_ha K_ho K_ti K_be K_te K_ch) U ∧ va_D (fun _ => True) (wM A_x A_da A_ma A_ha A_ho A_ti A_be A_te A_ch K_da K_ma K_ha K_ho K_ti K_be K_te K_ch c_da c_ma c_ha c_ho c_ti c_be c_te c_ch c_up c_fu c_tm c_tc))) (va_Qi (fun (r : Int32) (_ : Unit) => r0 = r) (fun _ t => va_P (dC, dI) vwCl (wM A_x A_da A_ma A_ha A_ho A_ti A_be A_te A_ch K_da K_ma K_ha K_ho K_ti K_be K_te K_ch c_da o_ma c_ha c_ho c_ti c_be o_te c_ch c_up c_fu o_tm o_tc) t.heap ∧ va_D (va_A (wM A_x A_da A_ma A_ha A_ho A_ti A_be A_te A_ch K_da K_ma K_ha K_ho K_ti K_be K_te K_ch c_da c_ma c_ha c_ho c_ti c_be c_te c_ch c_up c_fu c_tm c_tc) sz) (wM A_x A_da A_ma A_ha A_ho A_ti A_be A_te A_ch K_da K_ma K_ha K_ho K_ti K_be K_te K_ch c_da o_ma c_ha c_ho c_ti c_be o_te c_ch c_up c_fu o_tm o_tc)) (va_A (wM A_x A_da A_ma A_ha A_ho A_ti A_be A_te A_ch K_da K_ma K_ha K_ho K_ti K_be K_te K_ch c_da c_ma c_ha c_ho c_ti c_be c_te c_ch c_up c_fu c_tm c_tc) sz)) 0 0 (va_A (wM A_x A_da A_ma A_ha A_ho A_ti A_be A_te A_ch K_da K_ma K_ha K_ho K_ti K_be K_te K_ch c_da c_ma c_ha c_ho c_ti c_be c_te c_ch c_up c_fu c_tm c_tc) sz) := by
  refine Met.ofW (cc := cX5_truncate) (maxL := 4) (ret := (some .int)) (by decide) rfl ?_
  intro p e s m args below meth c s₁ B hml hv
  obtain ⟨rfl, hsz, hP, hK, hD0⟩ := hv
  have hx := B.exec
  have hb := B.bytes
  have hr := B.returns
  have hts := atoms_spec (ws := wsX5_truncate) B.pre
  have hown : s.vm.findClass RX5 = some m.cls := findClass_of_methodNamed B.named
  have hlocks := B.notSynchronized
  subst hsz
  have hD := hD0.self (sz := s.heap.size)
  generalize hAe : va_A (wM A_x A_da A_ma A_ha A_ho A_ti A_be A_te A_ch K_da K_ma K_ha K_ho K_ti K_be K_te K_ch c_da c_ma c_ha c_ho c_ti c_be c_te c_ch c_up c_fu c_tm c_tc) s.heap.size = A at hD ⊢
  have hA : ∀ q : Nat, s.heap.size ≤ q → A q := fun q h => by rw [← hAe]; exact Or.inr h
  have hS : va_S A s.heap s.heap [] := va_S.rf
  have hP : va_P (dC, dI) vwCl (wM A_x A_da A_ma A_ha A_ho A_ti A_be A_te A_ch K_da K_ma K_ha K_ho K_ti K_be K_te K_ch c_da c_ma c_ha c_ho c_ti c_be c_te c_ch c_up c_fu c_tm c_tc) s.heap := hP
  have hl := lv_entry ([.ref A_x, .int p1, .int p2]) (n := 4) (Nat.le_of_ble_eq_true rfl)
  rw [lg_entry_eq]
  generalize (lg_sl ([.ref A_x, .int p1, .int p2]) ++ List.replicate (4 - (lg_sl ([.ref A_x, .int p1, .int p2])).length) Slot.unset).toArray = ls at hl ⊢
  have hl : lv_has ls 4 [(0, .ref A_x), (1, .int p1), (2, .int p2)] := hl
  refine w_name (fun Q hQ => ?_)
  unfold m_X5_truncate at hm
  refine lv_aload_n hx hb dX5_truncate_0 rfl (lv_at hl 0 rfl) ?_
  refine lv_iload_n hx hb dX5_truncate_1 rfl (lv_at hl 1 rfl) ?_
  obtain ⟨x1, ex, hm⟩ := g_bind hm
  refine vp_callSi (W.runV (As := [.int p1]) (rest := []) ⟨hx, hb, hml, hown, hts⟩ (k_X5_slotAt l dC dI A_x A_da A_ma A_ha A_ho A_ti A_be A_te A_ch K_da K_ma K_ha K_ho K_ti K_be K_te K_ch c_da c_ma c_ha c_ho c_ti c_be c_te c_ch c_up c_fu c_tm c_tc p1 _ ex) (cwV 1 hts gX5_truncate_X5_slotAt rfl rfl rfl (by decide +kernel) ⟨Nat.le_of_ble_eq_true rfl, Nat.le_of_ble_eq_true rfl⟩) ⟨w_blR, va_recv hK hP (ci := 3) (q0 := 0) rfl rfl, fun U hU hW => ⟨rfl, by rw [hU]; exact hP.sub [0, 1, 2, 3, 4, 5, 6, 7, 8] rfl, va_K.moved hW.alike (hK.sub [0, 1, 2, 3, 4, 5, 6, 7] rfl)⟩⟩ rfl rfl hl.1 rfl (lv_room (Nat.le_of_ble_eq_true rfl)) dX5_truncate_2 ⟨Nat.zero_le _, Nat.zero_le _⟩) (fun _ ey => ?_)
  subst ey
  refine lv_istore_n (lv' := [(3, .int x1), (0, .ref A_x), (1, .int p1), (2, .int p2)]) hx hb dX5_truncate_5 rfl hl (by decide) rfl (fun ls hl => ?_)
  refine lv_iload_n hx hb dX5_truncate_6 rfl (lv_at hl 0 rfl) ?_
  refine lv_if_ge (tgt := 12) hx hb dX5_truncate_7 (by decide) (fun c2 => ?_) (fun c2 => ?_)
  · have hm := g_t c2 hm
    refine lv_iload_n hx hb dX5_truncate_12 rfl (lv_at hl 3 rfl) ?_
    refine lv_iconst (v := 0) hx hb dX5_truncate_13 (by decide) ?_
    refine lv_bipush (v := 64) hx hb dX5_truncate_14 (by decide) ?_
    obtain ⟨x3, ex, hm⟩ := g_bind hm
    refine vp_callSi (W.runS (As := [.int p2, .int (0 : Int32), .int (64 : Int32)]) (rest := []) ⟨hx, hb, hml, hown, hts⟩ (k_X5_within l  p2 (0 : Int32) (64 : Int32) _ ex) (va_cwS 3 hts gX5_truncate_X5_within rfl rfl rfl (by decide +kernel) ⟨Nat.le_of_ble_eq_true rfl, Nat.le_of_ble_eq_true rfl⟩) ⟨w_bl0, fun U hU hW => ⟨rfl, trivial⟩⟩ rfl rfl hl.1 rfl (lv_room (Nat.le_of_ble_eq_true rfl)) dX5_truncate_16 ⟨Nat.zero_le _, Nat.zero_le _⟩) (fun _ ey => ?_)
    subst ey
    refine lv_if_ne (tgt := 25) hx hb dX5_truncate_19 (by decide) (fun c4 => ?_) (fun c4 => ?_)
    · have hm := g_f c4 hm
      refine lv_iload_n hx hb dX5_truncate_25 rfl (lv_at hl 3 rfl) ?_
      refine lv_aload_n hx hb dX5_truncate_26 rfl (lv_at hl 1 rfl) ?_
      refine va_get (D := (dC, dI)) (ci := 3) (v := .ref A_ma) (C := RX5) (T := TX5) (N := 12) hx hb hts hi_X5_truncate_X5 hown hK hP 0 rfl rfl 3 (by decide) (hts (Cond.fieldLink RX5 13 "BuddyFilesModel" "mem" "[I") hk_X5_truncate_13) (fun _ h9 => h9) rfl dX5_truncate_27 ?_
      refine lv_bipush (v := 7) hx hb dX5_truncate_30 (by decide) ?_
      refine lv_iload_n hx hb dX5_truncate_32 rfl (lv_at hl 0 rfl) ?_
      refine lv_imul hx hb dX5_truncate_33 ?_
      refine lv_iconst (v := 2) hx hb dX5_truncate_34 (by decide) ?_
      refine lv_iadd hx hb dX5_truncate_35 ?_
      obtain ⟨x5, ex, hm⟩ := g_bind hm
      refine w_ald hx hb hK hP 2 1 rfl rfl ex dX5_truncate_36 ?_
      refine lv_icmp_le (tgt := 47) hx hb dX5_truncate_37 (by decide) (fun c6 => ?_) (fun c6 => ?_)
      · have hm := g_t c6 hm
        refine lv_aload_n hx hb dX5_truncate_47 rfl (lv_at hl 1 rfl) ?_
        refine lv_iload_n hx hb dX5_truncate_48 rfl (lv_at hl 0 rfl) ?_
        refine lv_iload_n hx hb dX5_truncate_49 rfl (lv_at hl 3 rfl) ?_
        obtain ⟨f7, ex, hm⟩ := g_bind hm
        have hPc := hP.sub (ws' := (wM A_x A_da A_ma A_ha A_ho A_ti A_be A_te A_ch K_da K_ma K_ha K_ho K_ti K_be K_te K_ch c_da c_ma c_ha c_ho c_ti c_be c_te c_ch c_up c_fu c_tm c_tc)) [0, 1, 2, 3, 4, 5, 6, 7, 8] rfl
        have hDc := hD.sub (ws' := (wM A_x A_da A_ma A_ha A_ho A_ti A_be A_te A_ch K_da K_ma K_ha K_ho K_ti K_be K_te K_ch c_da c_ma c_ha c_ho c_ti c_be c_te c_ch c_up c_fu c_tm c_tc)) [0, 1, 2, 3, 4, 5, 6, 7, 8] (by decide) rfl
        have hKc := hK.sub (tys' := (tM K_da K_ma K_ha K_ho K_ti K_be K_te K_ch)) [0, 1, 2, 3, 4, 5, 6, 7] rfl
        have hFc := va_free (wc := (wM A_x A_da A_ma A_ha A_ho A_ti A_be A_te A_ch K_da K_ma K_ha K_ho K_ti K_be K_te K_ch c_da c_ma c_ha c_ho c_ti c_be c_te c_ch c_up c_fu c_tm c_tc)) hD hS hA [0, 1, 2, 3, 4, 5, 6, 7, 8] rfl
        refine va_callv (va_runV (As := [.int x1, .int p2]) (rest := []) ⟨hx, hb, hml, hown, hts⟩ (k_X5_shrink l dC dI A_x A_da A_ma A_ha A_ho A_ti A_be A_te A_ch K_da K_ma K_ha K_ho K_ti K_be K_te K_ch c_da c_ma c_ha c_ho c_ti c_be c_te c_ch c_up c_fu c_tm c_tc s.heap.size x1 p2 _ ex) (cwV 2 hts gX5_truncate_X5_shrink rfl rfl rfl (by decide +kernel) ⟨Nat.le_of_ble_eq_true rfl, Nat.le_of_ble_eq_true rfl⟩) ⟨w_blW, va_recv hKc hPc (ci := 3) (q0 := 0) rfl rfl, fun U hU hW => ⟨rfl, by rw [hU], by rw [hU]; exact hPc, va_K.moved hW.alike hKc, hDc.weaken (fun _ _ _ _ => trivial)⟩⟩ rfl rfl hl.1 rfl (lv_room (Nat.le_of_ble_eq_true rfl)) dX5_truncate_50 ⟨Nat.zero_le _, Nat.zero_le _⟩) hS (fun q _ h => hFc q h) hFc (fun _ t H8 locs8 ht hvm hw hB hz1 hk1 hS => ?_)
        refine W.widen (k := 0) (n := 0) (Nat.le_refl 0) (Nat.le_refl 0) ?_
        obtain ⟨hP1, hD1⟩ := hB
        rw [ht] at hP1
        obtain ⟨hP, hD⟩ := va_join (wr := []) (w1 := (wM A_x A_da A_ma A_ha A_ho A_ti A_be A_te A_ch K_da K_ma K_ha K_ho K_ti K_be K_te K_ch c_da f7 c_ha c_ho c_ti c_be c_te c_ch c_up c_fu c_tm c_tc)) hP hD [0, 1, 2, 3, 4, 5, 6, 7, 8] [] rfl rfl (by decide) (by decide) hk1 hFc hP1 hD1
        have hP : va_P (dC, dI) vwCl (wM A_x A_da A_ma A_ha A_ho A_ti A_be A_te A_ch K_da K_ma K_ha K_ho K_ti K_be K_te K_ch c_da f7 c_ha c_ho c_ti c_be c_te c_ch c_up c_fu c_tm c_tc) H8 := hP.sub [0, 1, 2, 3, 4, 5, 6, 7, 8] rfl
        have hD : va_D A (wM A_x A_da A_ma A_ha A_ho A_ti A_be A_te A_ch K_da K_ma K_ha K_ho K_ti K_be K_te K_ch c_da f7 c_ha c_ho c_ti c_be c_te c_ch c_up c_fu c_tm c_tc) := hD.sub [0, 1, 2, 3, 4, 5, 6, 7, 8] (by decide) rfl
        refine lv_iconst (v := 0) hx hb dX5_truncate_53 (by decide) ?_
        cases hm
        subst hQ
        exact W.iret hx hb hr (fun t ht hW => ⟨⟨_, (), rfl, rfl, by rw [ht]; exact hP, hD⟩, hS.F ht⟩) hS.2.2 dX5_truncate_54
      · have hm := g_f c6 hm
        refine lv_aload_n hx hb dX5_truncate_40 rfl (lv_at hl 1 rfl) ?_
        refine lv_iload_n hx hb dX5_truncate_41 rfl (lv_at hl 0 rfl) ?_
        refine lv_iload_n hx hb dX5_truncate_42 rfl (lv_at hl 3 rfl) ?_
        obtain ⟨⟨x9, f10, f11, f12, f13⟩, ex, hm⟩ := g_bind hm
        have hm := g_k5_s hm
        have hPc := hP.sub (ws' := (wM A_x A_da A_ma A_ha A_ho A_ti A_be A_te A_ch K_da K_ma K_ha K_ho K_ti K_be K_te K_ch c_da c_ma c_ha c_ho c_ti c_be c_te c_ch c_up c_fu c_tm c_tc)) [0, 1, 2, 3, 4, 5, 6, 7, 8] rfl
        have hDc := hD.sub (ws' := (wM A_x A_da A_ma A_ha A_ho A_ti A_be A_te A_ch K_da K_ma K_ha K_ho K_ti K_be K_te K_ch c_da c_ma c_ha c_ho c_ti c_be c_te c_ch c_up c_fu c_tm c_tc)) [0, 1, 2, 3, 4, 5, 6, 7, 8] (by decide) rfl
        have hKc := hK.sub (tys' := (tM K_da K_ma K_ha K_ho K_ti K_be K_te K_ch)) [0, 1, 2, 3, 4, 5, 6, 7] rfl
        have hFc := va_free (wc := (wM A_x A_da A_ma A_ha A_ho A_ti A_be A_te A_ch K_da K_ma K_ha K_ho K_ti K_be K_te K_ch c_da c_ma c_ha c_ho c_ti c_be c_te c_ch c_up c_fu c_tm c_tc)) hD hS hA [0, 1, 2, 3, 4, 5, 6, 7, 8] rfl
        refine va_calli (va_runV (As := [.int x1, .int p2]) (rest := []) ⟨hx, hb, hml, hown, hts⟩ (k_X5_grow l dC dI A_x A_da A_ma A_ha A_ho A_ti A_be A_te A_ch K_da K_ma K_ha K_ho K_ti K_be K_te K_ch c_da c_ma c_ha c_ho c_ti c_be c_te c_ch c_up c_fu c_tm c_tc s.heap.size x1 p2 _ _ _ _ _ ex) (cwV 2 hts gX5_truncate_X5_grow rfl rfl rfl (by decide +kernel) ⟨Nat.le_of_ble_eq_true rfl, Nat.le_of_ble_eq_true rfl⟩) ⟨w_blW, va_recv hKc hPc (ci := 3) (q0 := 0) rfl rfl, fun U hU hW => ⟨rfl, by rw [hU], by rw [hU]; exact hPc, va_K.moved hW.alike hKc, hDc.weaken (fun _ _ _ _ => trivial)⟩⟩ rfl rfl hl.1 rfl (lv_room (Nat.le_of_ble_eq_true rfl)) dX5_truncate_43 ⟨Nat.zero_le _, Nat.zero_le _⟩) hS (fun q _ h => hFc q h) hFc (fun _ _ t H14 locs14 ht hvm hw hB hz1 hk1 hS => ?_)
        subst hw
        refine W.widen (k := 0) (n := 0) (Nat.le_refl 0) (Nat.le_refl 0) ?_
        obtain ⟨hP1, hD1⟩ := hB
        rw [ht] at hP1
        obtain ⟨hP, hD⟩ := va_join (wr := []) (w1 := (wM A_x A_da A_ma A_ha A_ho A_ti A_be A_te A_ch K_da K_ma K_ha K_ho K_ti K_be K_te K_ch c_da f10 c_ha c_ho c_ti c_be f11 c_ch c_up c_fu f12 f13)) hP hD [0, 1, 2, 3, 4, 5, 6, 7, 8] [] rfl rfl (by decide) (by decide) hk1 hFc hP1 hD1
        have hP : va_P (dC, dI) vwCl (wM A_x A_da A_ma A_ha A_ho A_ti A_be A_te A_ch K_da K_ma K_ha K_ho K_ti K_be K_te K_ch c_da f10 c_ha c_ho c_ti c_be f11 c_ch c_up c_fu f12 f13) H14 := hP.sub [0, 1, 2, 3, 4, 5, 6, 7, 8] rfl
        have hD : va_D A (wM A_x A_da A_ma A_ha A_ho A_ti A_be A_te A_ch K_da K_ma K_ha K_ho K_ti K_be K_te K_ch c_da f10 c_ha c_ho c_ti c_be f11 c_ch c_up c_fu f12 f13) := hD.sub [0, 1, 2, 3, 4, 5, 6, 7, 8] (by decide) rfl
        cases hm
        subst hQ
        exact W.iret hx hb hr (fun t ht hW => ⟨⟨_, (), rfl, rfl, by rw [ht]; exact hP, hD⟩, hS.F ht⟩) hS.2.2 dX5_truncate_46
    · have hm := g_t c4 hm
      refine lv_bipush (v := -7) hx hb dX5_truncate_22 (by decide) ?_
      cases hm
      subst hQ
      exact W.iret hx hb hr (fun t ht hW => ⟨⟨_, (), rfl, rfl, by rw [ht]; exact hP, hD⟩, hS.F ht⟩) hS.2.2 dX5_truncate_24
  · have hm := g_f c2 hm
    refine lv_iload_n hx hb dX5_truncate_10 rfl (lv_at hl 0 rfl) ?_
    cases hm
    subst hQ
    exact W.iret hx hb hr (fun t ht hW => ⟨⟨_, (), rfl, rfl, by rw [ht]; exact hP, hD⟩, hS.F ht⟩) hS.2.2 dX5_truncate_11
theorem hi_X5_length_X5 : ∀ w ∈ wsX50, w ∈ wsX5_length := by decide +kernel
theorem hk_X5_length_13 : Cond.fieldLink RX5 13 "BuddyFilesModel" "mem" "[I" ∈ wsX5_length := by decide +kernel
abbrev rm_X5_length : Room := { frames := 2, cells := 0, slots := 0, locals := 43 }
set_option maxHeartbeats 4000000 in
set_option maxRecDepth 100000 in
theorem k_X5_length (l : Launch) (dC : Nat → ClassId) (dI : Nat → Nat → Nat) (A_x A_da A_ma A_ha A_ho A_ti A_be A_te A_ch : Nat) (K_da K_ma K_ha K_ho K_ti K_be K_te K_ch : ClassId) (c_da c_ma c_ha c_ho c_ti c_be c_te c_ch : Nat → Int32) (c_up c_fu c_tm c_tc : Int32) (p1 : Int32) (r0 : Int32) (hm : m_X5_length c_ma c_ha c_up p1 = some r0) : Met l yX5_length wsX5_length rm_X5_length (va_Pc [.ref A_x, .int p1] (fun U => va_P (dC, dI) vwCl (wM A_x A_da A_ma A_ha A_ho A_ti A_be A_te A_ch K_da K_ma K_ha K_ho K_ti K_be K_te K_ch c_da c_ma c_ha c_ho c_ti c_be c_te c_ch c_up c_fu c_tm c_tc) U.heap ∧ va_K (dC, dI) vwCl (tM K_da K_ma K_ha K_ho K_ti K_be K_te K_ch) U)) (vp_Si (fun r => r0 = r)) 0 0 (fun _ => False) := by
  refine Met.ofW (cc := cX5_length) (maxL := 3) (ret := (some .int)) (by decide) rfl ?_
  intro p e s m args below meth c s₁ B hml hv
  obtain ⟨rfl, hP, hK⟩ := hv
  have hx := B.exec
  have hb := B.bytes
  have hr := B.returns
  have hts := atoms_spec (ws := wsX5_length) B.pre
  have hown : s.vm.findClass RX5 = some m.cls := findClass_of_methodNamed B.named
  have hlocks := B.notSynchronized
  have hl := lv_entry ([.ref A_x, .int p1]) (n := 3) (Nat.le_of_ble_eq_true rfl)
  rw [lg_entry_eq]
  generalize (lg_sl ([.ref A_x, .int p1]) ++ List.replicate (3 - (lg_sl ([.ref A_x, .int p1])).length) Slot.unset).toArray = ls at hl ⊢
  have hl : lv_has ls 3 [(0, .ref A_x), (1, .int p1)] := hl
  refine w_name (fun Q hQ => ?_)
  unfold m_X5_length at hm
  refine lv_aload_n hx hb dX5_length_0 rfl (lv_at hl 0 rfl) ?_
  refine lv_iload_n hx hb dX5_length_1 rfl (lv_at hl 1 rfl) ?_
  obtain ⟨x1, ex, hm⟩ := g_bind hm
  refine vp_callSi (W.runV (As := [.int p1]) (rest := []) ⟨hx, hb, hml, hown, hts⟩ (k_X5_slotAt l dC dI A_x A_da A_ma A_ha A_ho A_ti A_be A_te A_ch K_da K_ma K_ha K_ho K_ti K_be K_te K_ch c_da c_ma c_ha c_ho c_ti c_be c_te c_ch c_up c_fu c_tm c_tc p1 _ ex) (cwV 1 hts gX5_length_X5_slotAt rfl rfl rfl (by decide +kernel) ⟨Nat.le_of_ble_eq_true rfl, Nat.le_of_ble_eq_true rfl⟩) ⟨w_blR, va_recv hK hP (ci := 3) (q0 := 0) rfl rfl, fun U hU hW => ⟨rfl, by rw [hU]; exact hP.sub [0, 1, 2, 3, 4, 5, 6, 7, 8] rfl, va_K.moved hW.alike (hK.sub [0, 1, 2, 3, 4, 5, 6, 7] rfl)⟩⟩ rfl rfl hl.1 rfl (lv_room (Nat.le_of_ble_eq_true rfl)) dX5_length_2 ⟨Nat.zero_le _, Nat.zero_le _⟩) (fun _ ey => ?_)
  subst ey
  refine lv_istore_n (lv' := [(2, .int x1), (0, .ref A_x), (1, .int p1)]) hx hb dX5_length_5 rfl hl (by decide) rfl (fun ls hl => ?_)
  refine lv_iload_n hx hb dX5_length_6 rfl (lv_at hl 0 rfl) ?_
  refine lv_if_ge (tgt := 14) hx hb dX5_length_7 (by decide) (fun c2 => ?_) (fun c2 => ?_)
  · have hm := g_t c2 hm
    refine lv_aload_n hx hb dX5_length_14 rfl (lv_at hl 1 rfl) ?_
    refine va_get (D := (dC, dI)) (ci := 3) (v := .ref A_ma) (C := RX5) (T := TX5) (N := 12) hx hb hts hi_X5_length_X5 hown hK hP 0 rfl rfl 3 (by decide) (hts (Cond.fieldLink RX5 13 "BuddyFilesModel" "mem" "[I") hk_X5_length_13) (fun _ h9 => h9) rfl dX5_length_15 ?_
    refine lv_bipush (v := 7) hx hb dX5_length_18 (by decide) ?_
    refine lv_iload_n hx hb dX5_length_20 rfl (lv_at hl 0 rfl) ?_
    refine lv_imul hx hb dX5_length_21 ?_
    refine lv_iconst (v := 2) hx hb dX5_length_22 (by decide) ?_
    refine lv_iadd hx hb dX5_length_23 ?_
    obtain ⟨x3, ex, hm⟩ := g_bind hm
    refine w_ald hx hb hK hP 2 1 rfl rfl ex dX5_length_24 ?_
    cases hm
    subst hQ
    exact W.iret hx hb hr (fun t ht hW => ⟨_, rfl, rfl, ht⟩) (fun _ h => nomatch h) dX5_length_25
  · have hm := g_f c2 hm
    refine lv_iload_n hx hb dX5_length_10 rfl (lv_at hl 0 rfl) ?_
    refine lv_goto (tgt := 25) hx hb dX5_length_11 (by decide) ?_
    cases hm
    subst hQ
    exact W.iret hx hb hr (fun t ht hW => ⟨_, rfl, rfl, ht⟩) (fun _ h => nomatch h) dX5_length_25
abbrev rm_X5_extent : Room := { frames := 2, cells := 0, slots := 0, locals := 43 }
set_option maxHeartbeats 4000000 in
set_option maxRecDepth 100000 in
theorem k_X5_extent (l : Launch) (dC : Nat → ClassId) (dI : Nat → Nat → Nat) (A_x A_da A_ma A_ha A_ho A_ti A_be A_te A_ch : Nat) (K_da K_ma K_ha K_ho K_ti K_be K_te K_ch : ClassId) (c_da c_ma c_ha c_ho c_ti c_be c_te c_ch : Nat → Int32) (c_up c_fu c_tm c_tc : Int32) (p1 : Int32) (p2 : Int32) (r0 : Int32) (hm : m_X5_extent c_ma c_ha c_up p1 p2 = some r0) : Met l yX5_extent wsX5_extent rm_X5_extent (va_Pc [.ref A_x, .int p1, .int p2] (fun U => va_P (dC, dI) vwCl (wM A_x A_da A_ma A_ha A_ho A_ti A_be A_te A_ch K_da K_ma K_ha K_ho K_ti K_be K_te K_ch c_da c_ma c_ha c_ho c_ti c_be c_te c_ch c_up c_fu c_tm c_tc) U.heap ∧ va_K (dC, dI) vwCl (tM K_da K_ma K_ha K_ho K_ti K_be K_te K_ch) U)) (vp_Si (fun r => r0 = r)) 0 0 (fun _ => False) := by
  refine Met.ofW (cc := cX5_extent) (maxL := 4) (ret := (some .int)) (by decide) rfl ?_
  intro p e s m args below meth c s₁ B hml hv
  obtain ⟨rfl, hP, hK⟩ := hv
  have hx := B.exec
  have hb := B.bytes
  have hr := B.returns
  have hts := atoms_spec (ws := wsX5_extent) B.pre
  have hown : s.vm.findClass RX5 = some m.cls := findClass_of_methodNamed B.named
  have hlocks := B.notSynchronized
  have hl := lv_entry ([.ref A_x, .int p1, .int p2]) (n := 4) (Nat.le_of_ble_eq_true rfl)
  rw [lg_entry_eq]
  generalize (lg_sl ([.ref A_x, .int p1, .int p2]) ++ List.replicate (4 - (lg_sl ([.ref A_x, .int p1, .int p2])).length) Slot.unset).toArray = ls at hl ⊢
  have hl : lv_has ls 4 [(0, .ref A_x), (1, .int p1), (2, .int p2)] := hl
  refine w_name (fun Q hQ => ?_)
  unfold m_X5_extent at hm
  refine lv_aload_n hx hb dX5_extent_0 rfl (lv_at hl 0 rfl) ?_
  refine lv_iload_n hx hb dX5_extent_1 rfl (lv_at hl 1 rfl) ?_
  obtain ⟨x1, ex, hm⟩ := g_bind hm
  refine vp_callSi (W.runV (As := [.int p1]) (rest := []) ⟨hx, hb, hml, hown, hts⟩ (k_X5_slotAt l dC dI A_x A_da A_ma A_ha A_ho A_ti A_be A_te A_ch K_da K_ma K_ha K_ho K_ti K_be K_te K_ch c_da c_ma c_ha c_ho c_ti c_be c_te c_ch c_up c_fu c_tm c_tc p1 _ ex) (cwV 1 hts gX5_extent_X5_slotAt rfl rfl rfl (by decide +kernel) ⟨Nat.le_of_ble_eq_true rfl, Nat.le_of_ble_eq_true rfl⟩) ⟨w_blR, va_recv hK hP (ci := 3) (q0 := 0) rfl rfl, fun U hU hW => ⟨rfl, by rw [hU]; exact hP.sub [0, 1, 2, 3, 4, 5, 6, 7, 8] rfl, va_K.moved hW.alike (hK.sub [0, 1, 2, 3, 4, 5, 6, 7] rfl)⟩⟩ rfl rfl hl.1 rfl (lv_room (Nat.le_of_ble_eq_true rfl)) dX5_extent_2 ⟨Nat.zero_le _, Nat.zero_le _⟩) (fun _ ey => ?_)
  subst ey
  refine lv_istore_n (lv' := [(3, .int x1), (0, .ref A_x), (1, .int p1), (2, .int p2)]) hx hb dX5_extent_5 rfl hl (by decide) rfl (fun ls hl => ?_)
  refine lv_iload_n hx hb dX5_extent_6 rfl (lv_at hl 0 rfl) ?_
  refine lv_if_ge (tgt := 12) hx hb dX5_extent_7 (by decide) (fun c2 => ?_) (fun c2 => ?_)
  · have hm := g_t c2 hm
    refine lv_iload_n hx hb dX5_extent_12 rfl (lv_at hl 3 rfl) ?_
    refine lv_iconst (v := 0) hx hb dX5_extent_13 (by decide) ?_
    refine lv_iconst (v := 3) hx hb dX5_extent_14 (by decide) ?_
    obtain ⟨x3, ex, hm⟩ := g_bind hm
    refine vp_callSi (W.runS (As := [.int p2, .int (0 : Int32), .int (3 : Int32)]) (rest := []) ⟨hx, hb, hml, hown, hts⟩ (k_X5_within l  p2 (0 : Int32) (3 : Int32) _ ex) (va_cwS 3 hts gX5_extent_X5_within rfl rfl rfl (by decide +kernel) ⟨Nat.le_of_ble_eq_true rfl, Nat.le_of_ble_eq_true rfl⟩) ⟨w_bl0, fun U hU hW => ⟨rfl, trivial⟩⟩ rfl rfl hl.1 rfl (lv_room (Nat.le_of_ble_eq_true rfl)) dX5_extent_15 ⟨Nat.zero_le _, Nat.zero_le _⟩) (fun _ ey => ?_)
    subst ey
    refine lv_if_eq (tgt := 30) hx hb dX5_extent_18 (by decide) (fun c4 => ?_) (fun c4 => ?_)
    · have hm := g_t c4 hm
      refine lv_bipush (v := -12) hx hb dX5_extent_30 (by decide) ?_
      cases hm
      subst hQ
      exact W.iret hx hb hr (fun t ht hW => ⟨_, rfl, rfl, ht⟩) (fun _ h => nomatch h) dX5_extent_32
    · have hm := g_f c4 hm
      refine lv_aload_n hx hb dX5_extent_21 rfl (lv_at hl 1 rfl) ?_
      refine lv_iload_n hx hb dX5_extent_22 rfl (lv_at hl 0 rfl) ?_
      refine lv_iload_n hx hb dX5_extent_23 rfl (lv_at hl 3 rfl) ?_
      obtain ⟨x5, ex, hm⟩ := g_bind hm
      refine vp_callSi (W.runV (As := [.int x1, .int p2]) (rest := []) ⟨hx, hb, hml, hown, hts⟩ (k_X5_extentOf l dC dI A_x A_da A_ma A_ha A_ho A_ti A_be A_te A_ch K_da K_ma K_ha K_ho K_ti K_be K_te K_ch c_da c_ma c_ha c_ho c_ti c_be c_te c_ch c_up c_fu c_tm c_tc x1 p2 _ ex) (cwV 2 hts gX5_extent_X5_extentOf rfl rfl rfl (by decide +kernel) ⟨Nat.le_of_ble_eq_true rfl, Nat.le_of_ble_eq_true rfl⟩) ⟨w_blR, va_recv hK hP (ci := 3) (q0 := 0) rfl rfl, fun U hU hW => ⟨rfl, by rw [hU]; exact hP.sub [0, 1, 2, 3, 4, 5, 6, 7, 8] rfl, va_K.moved hW.alike (hK.sub [0, 1, 2, 3, 4, 5, 6, 7] rfl)⟩⟩ rfl rfl hl.1 rfl (lv_room (Nat.le_of_ble_eq_true rfl)) dX5_extent_24 ⟨Nat.zero_le _, Nat.zero_le _⟩) (fun _ ey => ?_)
      subst ey
      refine lv_goto (tgt := 32) hx hb dX5_extent_27 (by decide) ?_
      cases hm
      subst hQ
      exact W.iret hx hb hr (fun t ht hW => ⟨_, rfl, rfl, ht⟩) (fun _ h => nomatch h) dX5_extent_32
  · have hm := g_f c2 hm
    refine lv_iload_n hx hb dX5_extent_10 rfl (lv_at hl 0 rfl) ?_
    cases hm
    subst hQ
    exact W.iret hx hb hr (fun t ht hW => ⟨_, rfl, rfl, ht⟩) (fun _ h => nomatch h) dX5_extent_11
theorem hi_X5_setQuota_X5 : ∀ w ∈ wsX50, w ∈ wsX5_setQuota := by decide +kernel
theorem hk_X5_setQuota_42 : Cond.fieldLink RX5 42 "BuddyFilesModel" "up" "Z" ∈ wsX5_setQuota := by decide +kernel
theorem hk_X5_setQuota_13 : Cond.fieldLink RX5 13 "BuddyFilesModel" "mem" "[I" ∈ wsX5_setQuota := by decide +kernel
abbrev rm_X5_setQuota : Room := { frames := 4, cells := 0, slots := 0, locals := 86 }
set_option maxHeartbeats 4000000 in
set_option maxRecDepth 100000 in
theorem k_X5_setQuota (l : Launch) (dC : Nat → ClassId) (dI : Nat → Nat → Nat) (A_x A_da A_ma A_ha A_ho A_ti A_be A_te A_ch : Nat) (K_da K_ma K_ha K_ho K_ti K_be K_te K_ch : ClassId) (c_da c_ma c_ha c_ho c_ti c_be c_te c_ch : Nat → Int32) (c_up c_fu c_tm c_tc : Int32) (sz : Nat) (p1 : Int32) (p2 : Int32) (r0 : Int32) (o_ma : (Nat → Int32)) (hm : m_X5_setQuota c_ma c_up p1 p2 = some (r0, o_ma)) : Met l yX5_setQuota wsX5_setQuota rm_X5_setQuota (va_Pc [.ref A_x, .int p1, .int p2] (fun U => U.heap.size = sz ∧ va_P (dC, dI) vwCl (wM A_x A_da A_ma A_ha A_ho A_ti A_be A_te A_ch K_da K_ma K_ha K_ho K_ti K_be K_te K_ch c_da c_ma c_ha c_ho c_ti c_be c_te c_ch c_up c_fu c_tm c_tc) U.heap ∧ va_K (dC, dI) vwCl (tM K_da K_ma K_ha K_ho K_ti K_be K_te K_ch) U ∧ va_D (fun _ => True) (wM A_x A_da A_ma A_ha A_ho A_ti A_be A_te A_ch K_da K_ma K_ha K_ho K_ti K_be K_te K_ch c_da c_ma c_ha c_ho c_ti c_be c_te c_ch c_up c_fu c_tm c_tc))) (va_Qi (fun (r : Int32) (_ : Unit) => r0 = r) (fun _ t => va_P (dC, dI) vwCl (wM A_x A_da A_ma A_ha A_ho A_ti A_be A_te A_ch K_da K_ma K_ha K_ho K_ti K_be K_te K_ch c_da o_ma c_ha c_ho c_ti c_be c_te c_ch c_up c_fu c_tm c_tc) t.heap ∧ va_D (va_A (wM A_x A_da A_ma A_ha A_ho A_ti A_be A_te A_ch K_da K_ma K_ha K_ho K_ti K_be K_te K_ch c_da c_ma c_ha c_ho c_ti c_be c_te c_ch c_up c_fu c_tm c_tc) sz) (wM A_x A_da A_ma A_ha A_ho A_ti A_be A_te A_ch K_da K_ma K_ha K_ho K_ti K_be K_te K_ch c_da o_ma c_ha c_ho c_ti c_be c_te c_ch c_up c_fu c_tm c_tc)) (va_A (wM A_x A_da A_ma A_ha A_ho A_ti A_be A_te A_ch K_da K_ma K_ha K_ho K_ti K_be K_te K_ch c_da c_ma c_ha c_ho c_ti c_be c_te c_ch c_up c_fu c_tm c_tc) sz)) 0 0 (va_A (wM A_x A_da A_ma A_ha A_ho A_ti A_be A_te A_ch K_da K_ma K_ha K_ho K_ti K_be K_te K_ch c_da c_ma c_ha c_ho c_ti c_be c_te c_ch c_up c_fu c_tm c_tc) sz) := by
  refine Met.ofW (cc := cX5_setQuota) (maxL := 3) (ret := (some .int)) (by decide) rfl ?_
  intro p e s m args below meth c s₁ B hml hv
  obtain ⟨rfl, hsz, hP, hK, hD0⟩ := hv
  have hx := B.exec
  have hb := B.bytes
  have hr := B.returns
  have hts := atoms_spec (ws := wsX5_setQuota) B.pre
  have hown : s.vm.findClass RX5 = some m.cls := findClass_of_methodNamed B.named
  have hlocks := B.notSynchronized
  subst hsz
  have hD := hD0.self (sz := s.heap.size)
  generalize hAe : va_A (wM A_x A_da A_ma A_ha A_ho A_ti A_be A_te A_ch K_da K_ma K_ha K_ho K_ti K_be K_te K_ch c_da c_ma c_ha c_ho c_ti c_be c_te c_ch c_up c_fu c_tm c_tc) s.heap.size = A at hD ⊢
  have hA : ∀ q : Nat, s.heap.size ≤ q → A q := fun q h => by rw [← hAe]; exact Or.inr h
  have hS : va_S A s.heap s.heap [] := va_S.rf
  have hP : va_P (dC, dI) vwCl (wM A_x A_da A_ma A_ha A_ho A_ti A_be A_te A_ch K_da K_ma K_ha K_ho K_ti K_be K_te K_ch c_da c_ma c_ha c_ho c_ti c_be c_te c_ch c_up c_fu c_tm c_tc) s.heap := hP
  have hl := lv_entry ([.ref A_x, .int p1, .int p2]) (n := 3) (Nat.le_of_ble_eq_true rfl)
  rw [lg_entry_eq]
  generalize (lg_sl ([.ref A_x, .int p1, .int p2]) ++ List.replicate (3 - (lg_sl ([.ref A_x, .int p1, .int p2])).length) Slot.unset).toArray = ls at hl ⊢
  have hl : lv_has ls 3 [(0, .ref A_x), (1, .int p1), (2, .int p2)] := hl
  refine w_name (fun Q hQ => ?_)
  unfold m_X5_setQuota at hm
  refine lv_aload_n hx hb dX5_setQuota_0 rfl (lv_at hl 0 rfl) ?_
  refine va_get (D := (dC, dI)) (ci := 3) (v := .int c_up) (C := RX5) (T := TX5) (N := 12) hx hb hts hi_X5_setQuota_X5 hown hK hP 0 rfl rfl 1 (by decide) (hts (Cond.fieldLink RX5 42 "BuddyFilesModel" "up" "Z") hk_X5_setQuota_42) (fun _ h9 => h9) rfl dX5_setQuota_1 ?_
  refine lv_if_ne (tgt := 10) hx hb dX5_setQuota_4 (by decide) (fun c1 => ?_) (fun c1 => ?_)
  · have hm := g_f c1 hm
    refine lv_iload_n hx hb dX5_setQuota_10 rfl (lv_at hl 1 rfl) ?_
    refine lv_iconst (v := 0) hx hb dX5_setQuota_11 (by decide) ?_
    refine lv_iconst (v := 2) hx hb dX5_setQuota_12 (by decide) ?_
    obtain ⟨x2, ex, hm⟩ := g_bind hm
    refine vp_callSi (W.runS (As := [.int p1, .int (0 : Int32), .int (2 : Int32)]) (rest := []) ⟨hx, hb, hml, hown, hts⟩ (k_X5_within l  p1 (0 : Int32) (2 : Int32) _ ex) (va_cwS 3 hts gX5_setQuota_X5_within rfl rfl rfl (by decide +kernel) ⟨Nat.le_of_ble_eq_true rfl, Nat.le_of_ble_eq_true rfl⟩) ⟨w_bl0, fun U hU hW => ⟨rfl, trivial⟩⟩ rfl rfl hl.1 rfl (lv_room (Nat.le_of_ble_eq_true rfl)) dX5_setQuota_13 ⟨Nat.zero_le _, Nat.zero_le _⟩) (fun _ ey => ?_)
    subst ey
    refine lv_if_eq (tgt := 29) hx hb dX5_setQuota_16 (by decide) (fun c3 => ?_) (fun c3 => ?_)
    · have hm := g_t c3 hm
      refine lv_bipush (v := -12) hx hb dX5_setQuota_29 (by decide) ?_
      cases hm
      subst hQ
      exact W.iret hx hb hr (fun t ht hW => ⟨⟨_, (), rfl, rfl, by rw [ht]; exact hP, hD⟩, hS.F ht⟩) hS.2.2 dX5_setQuota_31
    · have hm := g_f c3 hm
      refine lv_iload_n hx hb dX5_setQuota_19 rfl (lv_at hl 2 rfl) ?_
      refine lv_iconst (v := 0) hx hb dX5_setQuota_20 (by decide) ?_
      refine lv_bipush (v := 32) hx hb dX5_setQuota_21 (by decide) ?_
      obtain ⟨x4, ex, hm⟩ := g_bind hm
      refine vp_callSi (W.runS (As := [.int p2, .int (0 : Int32), .int (32 : Int32)]) (rest := []) ⟨hx, hb, hml, hown, hts⟩ (k_X5_within l  p2 (0 : Int32) (32 : Int32) _ ex) (va_cwS 3 hts gX5_setQuota_X5_within rfl rfl rfl (by decide +kernel) ⟨Nat.le_of_ble_eq_true rfl, Nat.le_of_ble_eq_true rfl⟩) ⟨w_bl0, fun U hU hW => ⟨rfl, trivial⟩⟩ rfl rfl hl.1 rfl (lv_room (Nat.le_of_ble_eq_true rfl)) dX5_setQuota_23 ⟨Nat.zero_le _, Nat.zero_le _⟩) (fun _ ey => ?_)
      subst ey
      refine lv_if_ne (tgt := 32) hx hb dX5_setQuota_26 (by decide) (fun c5 => ?_) (fun c5 => ?_)
      · have hm := g_f c5 hm
        refine lv_aload_n hx hb dX5_setQuota_32 rfl (lv_at hl 0 rfl) ?_
        refine lv_iload_n hx hb dX5_setQuota_33 rfl (lv_at hl 1 rfl) ?_
        obtain ⟨x6, ex, hm⟩ := g_bind hm
        refine vp_callSi (W.runV (As := [.int p1]) (rest := []) ⟨hx, hb, hml, hown, hts⟩ (k_X5_used l dC dI A_x A_da A_ma A_ha A_ho A_ti A_be A_te A_ch K_da K_ma K_ha K_ho K_ti K_be K_te K_ch c_da c_ma c_ha c_ho c_ti c_be c_te c_ch c_up c_fu c_tm c_tc p1 _ ex) (cwV 1 hts gX5_setQuota_X5_used rfl rfl rfl (by decide +kernel) ⟨Nat.le_of_ble_eq_true rfl, Nat.le_of_ble_eq_true rfl⟩) ⟨w_blR, va_recv hK hP (ci := 3) (q0 := 0) rfl rfl, fun U hU hW => ⟨rfl, by rw [hU]; exact hP.sub [0, 1, 2, 3, 4, 5, 6, 7, 8] rfl, va_K.moved hW.alike (hK.sub [0, 1, 2, 3, 4, 5, 6, 7] rfl)⟩⟩ rfl rfl hl.1 rfl (lv_room (Nat.le_of_ble_eq_true rfl)) dX5_setQuota_34 ⟨Nat.zero_le _, Nat.zero_le _⟩) (fun _ ey => ?_)
        subst ey
        refine lv_iload_n hx hb dX5_setQuota_37 rfl (lv_at hl 2 rfl) ?_
        refine lv_icmp_le (tgt := 44) hx hb dX5_setQuota_38 (by decide) (fun c7 => ?_) (fun c7 => ?_)
        · have hm := g_t c7 hm
          refine lv_aload_n hx hb dX5_setQuota_44 rfl (lv_at hl 0 rfl) ?_
          refine va_get (D := (dC, dI)) (ci := 3) (v := .ref A_ma) (C := RX5) (T := TX5) (N := 12) hx hb hts hi_X5_setQuota_X5 hown hK hP 0 rfl rfl 3 (by decide) (hts (Cond.fieldLink RX5 13 "BuddyFilesModel" "mem" "[I") hk_X5_setQuota_13) (fun _ h9 => h9) rfl dX5_setQuota_45 ?_
          refine lv_bipush (v := 42) hx hb dX5_setQuota_48 (by decide) ?_
          refine lv_iload_n hx hb dX5_setQuota_50 rfl (lv_at hl 1 rfl) ?_
          refine lv_iadd hx hb dX5_setQuota_51 ?_
          refine lv_iload_n hx hb dX5_setQuota_52 rfl (lv_at hl 2 rfl) ?_
          obtain ⟨f8, ex, hm⟩ := g_bind hm
          refine w_ast hx hb hK hP hD hS 2 1 rfl rfl ex dX5_setQuota_53 (fun H9 locs9 hP hD hS => ?_)
          have hP : va_P (dC, dI) vwCl (wM A_x A_da A_ma A_ha A_ho A_ti A_be A_te A_ch K_da K_ma K_ha K_ho K_ti K_be K_te K_ch c_da f8 c_ha c_ho c_ti c_be c_te c_ch c_up c_fu c_tm c_tc) H9 := hP
          have hD : va_D A (wM A_x A_da A_ma A_ha A_ho A_ti A_be A_te A_ch K_da K_ma K_ha K_ho K_ti K_be K_te K_ch c_da f8 c_ha c_ho c_ti c_be c_te c_ch c_up c_fu c_tm c_tc) := hD
          refine lv_iconst (v := 0) hx hb dX5_setQuota_54 (by decide) ?_
          cases hm
          subst hQ
          exact W.iret hx hb hr (fun t ht hW => ⟨⟨_, (), rfl, rfl, by rw [ht]; exact hP, hD⟩, hS.F ht⟩) hS.2.2 dX5_setQuota_55
        · have hm := g_f c7 hm
          refine lv_bipush (v := -10) hx hb dX5_setQuota_41 (by decide) ?_
          cases hm
          subst hQ
          exact W.iret hx hb hr (fun t ht hW => ⟨⟨_, (), rfl, rfl, by rw [ht]; exact hP, hD⟩, hS.F ht⟩) hS.2.2 dX5_setQuota_43
      · have hm := g_t c5 hm
        refine lv_bipush (v := -12) hx hb dX5_setQuota_29 (by decide) ?_
        cases hm
        subst hQ
        exact W.iret hx hb hr (fun t ht hW => ⟨⟨_, (), rfl, rfl, by rw [ht]; exact hP, hD⟩, hS.F ht⟩) hS.2.2 dX5_setQuota_31
  · have hm := g_t c1 hm
    refine lv_bipush (v := -11) hx hb dX5_setQuota_7 (by decide) ?_
    cases hm
    subst hQ
    exact W.iret hx hb hr (fun t ht hW => ⟨⟨_, (), rfl, rfl, by rw [ht]; exact hP, hD⟩, hS.F ht⟩) hS.2.2 dX5_setQuota_9
theorem hi_X5_usage_X5 : ∀ w ∈ wsX50, w ∈ wsX5_usage := by decide +kernel
theorem hk_X5_usage_42 : Cond.fieldLink RX5 42 "BuddyFilesModel" "up" "Z" ∈ wsX5_usage := by decide +kernel
abbrev rm_X5_usage : Room := { frames := 4, cells := 0, slots := 0, locals := 86 }
set_option maxHeartbeats 4000000 in
set_option maxRecDepth 100000 in
theorem k_X5_usage (l : Launch) (dC : Nat → ClassId) (dI : Nat → Nat → Nat) (A_x A_da A_ma A_ha A_ho A_ti A_be A_te A_ch : Nat) (K_da K_ma K_ha K_ho K_ti K_be K_te K_ch : ClassId) (c_da c_ma c_ha c_ho c_ti c_be c_te c_ch : Nat → Int32) (c_up c_fu c_tm c_tc : Int32) (p1 : Int32) (r0 : Int32) (hm : m_X5_usage c_ma c_up p1 = some r0) : Met l yX5_usage wsX5_usage rm_X5_usage (va_Pc [.ref A_x, .int p1] (fun U => va_P (dC, dI) vwCl (wM A_x A_da A_ma A_ha A_ho A_ti A_be A_te A_ch K_da K_ma K_ha K_ho K_ti K_be K_te K_ch c_da c_ma c_ha c_ho c_ti c_be c_te c_ch c_up c_fu c_tm c_tc) U.heap ∧ va_K (dC, dI) vwCl (tM K_da K_ma K_ha K_ho K_ti K_be K_te K_ch) U)) (vp_Si (fun r => r0 = r)) 0 0 (fun _ => False) := by
  refine Met.ofW (cc := cX5_usage) (maxL := 2) (ret := (some .int)) (by decide) rfl ?_
  intro p e s m args below meth c s₁ B hml hv
  obtain ⟨rfl, hP, hK⟩ := hv
  have hx := B.exec
  have hb := B.bytes
  have hr := B.returns
  have hts := atoms_spec (ws := wsX5_usage) B.pre
  have hown : s.vm.findClass RX5 = some m.cls := findClass_of_methodNamed B.named
  have hlocks := B.notSynchronized
  have hl := lv_entry ([.ref A_x, .int p1]) (n := 2) (Nat.le_of_ble_eq_true rfl)
  rw [lg_entry_eq]
  generalize (lg_sl ([.ref A_x, .int p1]) ++ List.replicate (2 - (lg_sl ([.ref A_x, .int p1])).length) Slot.unset).toArray = ls at hl ⊢
  have hl : lv_has ls 2 [(0, .ref A_x), (1, .int p1)] := hl
  refine w_name (fun Q hQ => ?_)
  unfold m_X5_usage at hm
  refine lv_aload_n hx hb dX5_usage_0 rfl (lv_at hl 0 rfl) ?_
  refine va_get (D := (dC, dI)) (ci := 3) (v := .int c_up) (C := RX5) (T := TX5) (N := 12) hx hb hts hi_X5_usage_X5 hown hK hP 0 rfl rfl 1 (by decide) (hts (Cond.fieldLink RX5 42 "BuddyFilesModel" "up" "Z") hk_X5_usage_42) (fun _ h9 => h9) rfl dX5_usage_1 ?_
  refine lv_if_ne (tgt := 12) hx hb dX5_usage_4 (by decide) (fun c1 => ?_) (fun c1 => ?_)
  · have hm := g_f c1 hm
    refine lv_iload_n hx hb dX5_usage_12 rfl (lv_at hl 1 rfl) ?_
    refine lv_iconst (v := 0) hx hb dX5_usage_13 (by decide) ?_
    refine lv_iconst (v := 2) hx hb dX5_usage_14 (by decide) ?_
    obtain ⟨x2, ex, hm⟩ := g_bind hm
    refine vp_callSi (W.runS (As := [.int p1, .int (0 : Int32), .int (2 : Int32)]) (rest := []) ⟨hx, hb, hml, hown, hts⟩ (k_X5_within l  p1 (0 : Int32) (2 : Int32) _ ex) (va_cwS 3 hts gX5_usage_X5_within rfl rfl rfl (by decide +kernel) ⟨Nat.le_of_ble_eq_true rfl, Nat.le_of_ble_eq_true rfl⟩) ⟨w_bl0, fun U hU hW => ⟨rfl, trivial⟩⟩ rfl rfl hl.1 rfl (lv_room (Nat.le_of_ble_eq_true rfl)) dX5_usage_15 ⟨Nat.zero_le _, Nat.zero_le _⟩) (fun _ ey => ?_)
    subst ey
    refine lv_if_eq (tgt := 29) hx hb dX5_usage_18 (by decide) (fun c3 => ?_) (fun c3 => ?_)
    · have hm := g_t c3 hm
      refine lv_bipush (v := -12) hx hb dX5_usage_29 (by decide) ?_
      cases hm
      subst hQ
      exact W.iret hx hb hr (fun t ht hW => ⟨_, rfl, rfl, ht⟩) (fun _ h => nomatch h) dX5_usage_31
    · have hm := g_f c3 hm
      refine lv_aload_n hx hb dX5_usage_21 rfl (lv_at hl 0 rfl) ?_
      refine lv_iload_n hx hb dX5_usage_22 rfl (lv_at hl 1 rfl) ?_
      obtain ⟨x4, ex, hm⟩ := g_bind hm
      refine vp_callSi (W.runV (As := [.int p1]) (rest := []) ⟨hx, hb, hml, hown, hts⟩ (k_X5_used l dC dI A_x A_da A_ma A_ha A_ho A_ti A_be A_te A_ch K_da K_ma K_ha K_ho K_ti K_be K_te K_ch c_da c_ma c_ha c_ho c_ti c_be c_te c_ch c_up c_fu c_tm c_tc p1 _ ex) (cwV 1 hts gX5_usage_X5_used rfl rfl rfl (by decide +kernel) ⟨Nat.le_of_ble_eq_true rfl, Nat.le_of_ble_eq_true rfl⟩) ⟨w_blR, va_recv hK hP (ci := 3) (q0 := 0) rfl rfl, fun U hU hW => ⟨rfl, by rw [hU]; exact hP.sub [0, 1, 2, 3, 4, 5, 6, 7, 8] rfl, va_K.moved hW.alike (hK.sub [0, 1, 2, 3, 4, 5, 6, 7] rfl)⟩⟩ rfl rfl hl.1 rfl (lv_room (Nat.le_of_ble_eq_true rfl)) dX5_usage_23 ⟨Nat.zero_le _, Nat.zero_le _⟩) (fun _ ey => ?_)
      subst ey
      refine lv_goto (tgt := 31) hx hb dX5_usage_26 (by decide) ?_
      cases hm
      subst hQ
      exact W.iret hx hb hr (fun t ht hW => ⟨_, rfl, rfl, ht⟩) (fun _ h => nomatch h) dX5_usage_31
  · have hm := g_t c1 hm
    refine lv_bipush (v := -11) hx hb dX5_usage_7 (by decide) ?_
    refine lv_goto (tgt := 31) hx hb dX5_usage_9 (by decide) ?_
    cases hm
    subst hQ
    exact W.iret hx hb hr (fun t ht hW => ⟨_, rfl, rfl, ht⟩) (fun _ h => nomatch h) dX5_usage_31
theorem hi_X5_free_X5 : ∀ w ∈ wsX50, w ∈ wsX5_free := by decide +kernel
theorem hk_X5_free_42 : Cond.fieldLink RX5 42 "BuddyFilesModel" "up" "Z" ∈ wsX5_free := by decide +kernel
theorem hk_X5_free_13 : Cond.fieldLink RX5 13 "BuddyFilesModel" "mem" "[I" ∈ wsX5_free := by decide +kernel
abbrev rm_X5_free : Room := { frames := 3, cells := 0, slots := 0, locals := 70 }
set_option maxHeartbeats 4000000 in
set_option maxRecDepth 100000 in
theorem k_X5_free (l : Launch) (dC : Nat → ClassId) (dI : Nat → Nat → Nat) (A_x A_da A_ma A_ha A_ho A_ti A_be A_te A_ch : Nat) (K_da K_ma K_ha K_ho K_ti K_be K_te K_ch : ClassId) (c_da c_ma c_ha c_ho c_ti c_be c_te c_ch : Nat → Int32) (c_up c_fu c_tm c_tc : Int32) (p1 : Int32) (r0 : Int32) (hm : m_X5_free c_ma c_up p1 = some r0) : Met l yX5_free wsX5_free rm_X5_free (va_Pc [.ref A_x, .int p1] (fun U => va_P (dC, dI) vwCl (wM A_x A_da A_ma A_ha A_ho A_ti A_be A_te A_ch K_da K_ma K_ha K_ho K_ti K_be K_te K_ch c_da c_ma c_ha c_ho c_ti c_be c_te c_ch c_up c_fu c_tm c_tc) U.heap ∧ va_K (dC, dI) vwCl (tM K_da K_ma K_ha K_ho K_ti K_be K_te K_ch) U)) (vp_Si (fun r => r0 = r)) 0 0 (fun _ => False) := by
  refine Met.ofW (cc := cX5_free) (maxL := 2) (ret := (some .int)) (by decide) rfl ?_
  intro p e s m args below meth c s₁ B hml hv
  obtain ⟨rfl, hP, hK⟩ := hv
  have hx := B.exec
  have hb := B.bytes
  have hr := B.returns
  have hts := atoms_spec (ws := wsX5_free) B.pre
  have hown : s.vm.findClass RX5 = some m.cls := findClass_of_methodNamed B.named
  have hlocks := B.notSynchronized
  have hl := lv_entry ([.ref A_x, .int p1]) (n := 2) (Nat.le_of_ble_eq_true rfl)
  rw [lg_entry_eq]
  generalize (lg_sl ([.ref A_x, .int p1]) ++ List.replicate (2 - (lg_sl ([.ref A_x, .int p1])).length) Slot.unset).toArray = ls at hl ⊢
  have hl : lv_has ls 2 [(0, .ref A_x), (1, .int p1)] := hl
  refine w_name (fun Q hQ => ?_)
  unfold m_X5_free at hm
  refine lv_aload_n hx hb dX5_free_0 rfl (lv_at hl 0 rfl) ?_
  refine va_get (D := (dC, dI)) (ci := 3) (v := .int c_up) (C := RX5) (T := TX5) (N := 12) hx hb hts hi_X5_free_X5 hown hK hP 0 rfl rfl 1 (by decide) (hts (Cond.fieldLink RX5 42 "BuddyFilesModel" "up" "Z") hk_X5_free_42) (fun _ h9 => h9) rfl dX5_free_1 ?_
  refine lv_if_ne (tgt := 12) hx hb dX5_free_4 (by decide) (fun c1 => ?_) (fun c1 => ?_)
  · have hm := g_f c1 hm
    refine lv_iload_n hx hb dX5_free_12 rfl (lv_at hl 1 rfl) ?_
    refine lv_iconst (v := 0) hx hb dX5_free_13 (by decide) ?_
    refine lv_iconst (v := 5) hx hb dX5_free_14 (by decide) ?_
    obtain ⟨x2, ex, hm⟩ := g_bind hm
    refine vp_callSi (W.runS (As := [.int p1, .int (0 : Int32), .int (5 : Int32)]) (rest := []) ⟨hx, hb, hml, hown, hts⟩ (k_X5_within l  p1 (0 : Int32) (5 : Int32) _ ex) (va_cwS 3 hts gX5_free_X5_within rfl rfl rfl (by decide +kernel) ⟨Nat.le_of_ble_eq_true rfl, Nat.le_of_ble_eq_true rfl⟩) ⟨w_bl0, fun U hU hW => ⟨rfl, trivial⟩⟩ rfl rfl hl.1 rfl (lv_room (Nat.le_of_ble_eq_true rfl)) dX5_free_15 ⟨Nat.zero_le _, Nat.zero_le _⟩) (fun _ ey => ?_)
    subst ey
    refine lv_if_eq (tgt := 35) hx hb dX5_free_18 (by decide) (fun c3 => ?_) (fun c3 => ?_)
    · have hm := g_t c3 hm
      refine lv_bipush (v := -12) hx hb dX5_free_35 (by decide) ?_
      cases hm
      subst hQ
      exact W.iret hx hb hr (fun t ht hW => ⟨_, rfl, rfl, ht⟩) (fun _ h => nomatch h) dX5_free_37
    · have hm := g_f c3 hm
      refine lv_aload_n hx hb dX5_free_21 rfl (lv_at hl 0 rfl) ?_
      refine va_get (D := (dC, dI)) (ci := 3) (v := .ref A_ma) (C := RX5) (T := TX5) (N := 12) hx hb hts hi_X5_free_X5 hown hK hP 0 rfl rfl 3 (by decide) (hts (Cond.fieldLink RX5 13 "BuddyFilesModel" "mem" "[I") hk_X5_free_13) (fun _ h9 => h9) rfl dX5_free_22 ?_
      refine lv_bipush (v := 45) hx hb dX5_free_25 (by decide) ?_
      obtain ⟨x4, ex, hm⟩ := g_bind hm
      refine w_ald hx hb hK hP 2 1 rfl rfl ex dX5_free_27 ?_
      refine lv_iload_n hx hb dX5_free_28 rfl (lv_at hl 1 rfl) ?_
      obtain ⟨x5, ex, hm⟩ := g_bind hm
      refine vp_callSi (W.runS (As := [.int x4, .int p1]) (rest := []) ⟨hx, hb, hml, hown, hts⟩ (k_X5_countFree l  x4 p1 _ ex) (va_cwS 2 hts gX5_free_X5_countFree rfl rfl rfl (by decide +kernel) ⟨Nat.le_of_ble_eq_true rfl, Nat.le_of_ble_eq_true rfl⟩) ⟨w_bl0, fun U hU hW => ⟨rfl, trivial⟩⟩ rfl rfl hl.1 rfl (lv_room (Nat.le_of_ble_eq_true rfl)) dX5_free_29 ⟨Nat.zero_le _, Nat.zero_le _⟩) (fun _ ey => ?_)
      subst ey
      refine lv_goto (tgt := 37) hx hb dX5_free_32 (by decide) ?_
      cases hm
      subst hQ
      exact W.iret hx hb hr (fun t ht hW => ⟨_, rfl, rfl, ht⟩) (fun _ h => nomatch h) dX5_free_37
  · have hm := g_t c1 hm
    refine lv_bipush (v := -11) hx hb dX5_free_7 (by decide) ?_
    refine lv_goto (tgt := 37) hx hb dX5_free_9 (by decide) ?_
    cases hm
    subst hQ
    exact W.iret hx hb hr (fun t ht hW => ⟨_, rfl, rfl, ht⟩) (fun _ h => nomatch h) dX5_free_37
theorem hi_X5_put_X5 : ∀ w ∈ wsX50, w ∈ wsX5_put := by decide +kernel
theorem hk_X5_put_46 : Cond.fieldLink RX5 46 "BuddyFilesModel" "fuse" "I" ∈ wsX5_put := by decide +kernel
theorem hk_X5_put_7 : Cond.fieldLink RX5 7 "BuddyFilesModel" "disk" "[I" ∈ wsX5_put := by decide +kernel
theorem hk_X5_put_42 : Cond.fieldLink RX5 42 "BuddyFilesModel" "up" "Z" ∈ wsX5_put := by decide +kernel
theorem hk_X5_put_16 : Cond.fieldLink RX5 16 "BuddyFilesModel" "handle" "[I" ∈ wsX5_put := by decide +kernel
abbrev rm_X5_put : Room := { frames := 0, cells := 0, slots := 0, locals := 0 }
set_option maxHeartbeats 4000000 in
set_option maxRecDepth 100000 in
theorem k_X5_put (l : Launch) (dC : Nat → ClassId) (dI : Nat → Nat → Nat) (A_x A_da A_ma A_ha A_ho A_ti A_be A_te A_ch : Nat) (K_da K_ma K_ha K_ho K_ti K_be K_te K_ch : ClassId) (c_da c_ma c_ha c_ho c_ti c_be c_te c_ch : Nat → Int32) (c_up c_fu c_tm c_tc : Int32) (sz : Nat) (p1 : Int32) (p2 : Int32) (r0 : Int32) (o_da : (Nat → Int32)) (o_ha : (Nat → Int32)) (o_up : Int32) (o_fu : Int32) (hm : m_X5_put c_da c_ha c_up c_fu p1 p2 = some (r0, o_da, o_ha, o_up, o_fu)) : Met l yX5_put wsX5_put rm_X5_put (va_Pc [.ref A_x, .int p1, .int p2] (fun U => U.heap.size = sz ∧ va_P (dC, dI) vwCl (wM A_x A_da A_ma A_ha A_ho A_ti A_be A_te A_ch K_da K_ma K_ha K_ho K_ti K_be K_te K_ch c_da c_ma c_ha c_ho c_ti c_be c_te c_ch c_up c_fu c_tm c_tc) U.heap ∧ va_K (dC, dI) vwCl (tM K_da K_ma K_ha K_ho K_ti K_be K_te K_ch) U ∧ va_D (fun _ => True) (wM A_x A_da A_ma A_ha A_ho A_ti A_be A_te A_ch K_da K_ma K_ha K_ho K_ti K_be K_te K_ch c_da c_ma c_ha c_ho c_ti c_be c_te c_ch c_up c_fu c_tm c_tc))) (va_Qi (fun (r : Int32) (_ : Unit) => r0 = r) (fun _ t => va_P (dC, dI) vwCl (wM A_x A_da A_ma A_ha A_ho A_ti A_be A_te A_ch K_da K_ma K_ha K_ho K_ti K_be K_te K_ch o_da c_ma o_ha c_ho c_ti c_be c_te c_ch o_up o_fu c_tm c_tc) t.heap ∧ va_D (va_A (wM A_x A_da A_ma A_ha A_ho A_ti A_be A_te A_ch K_da K_ma K_ha K_ho K_ti K_be K_te K_ch c_da c_ma c_ha c_ho c_ti c_be c_te c_ch c_up c_fu c_tm c_tc) sz) (wM A_x A_da A_ma A_ha A_ho A_ti A_be A_te A_ch K_da K_ma K_ha K_ho K_ti K_be K_te K_ch o_da c_ma o_ha c_ho c_ti c_be c_te c_ch o_up o_fu c_tm c_tc)) (va_A (wM A_x A_da A_ma A_ha A_ho A_ti A_be A_te A_ch K_da K_ma K_ha K_ho K_ti K_be K_te K_ch c_da c_ma c_ha c_ho c_ti c_be c_te c_ch c_up c_fu c_tm c_tc) sz)) 0 0 (va_A (wM A_x A_da A_ma A_ha A_ho A_ti A_be A_te A_ch K_da K_ma K_ha K_ho K_ti K_be K_te K_ch c_da c_ma c_ha c_ho c_ti c_be c_te c_ch c_up c_fu c_tm c_tc) sz) := by
  refine Met.ofW (cc := cX5_put) (maxL := 4) (ret := (some .boolean)) (by decide) rfl ?_
  intro p e s m args below meth c s₁ B hml hv
  obtain ⟨rfl, hsz, hP, hK, hD0⟩ := hv
  have hx := B.exec
  have hb := B.bytes
  have hr := B.returns
  have hts := atoms_spec (ws := wsX5_put) B.pre
  have hown : s.vm.findClass RX5 = some m.cls := findClass_of_methodNamed B.named
  have hlocks := B.notSynchronized
  subst hsz
  have hD := hD0.self (sz := s.heap.size)
  generalize hAe : va_A (wM A_x A_da A_ma A_ha A_ho A_ti A_be A_te A_ch K_da K_ma K_ha K_ho K_ti K_be K_te K_ch c_da c_ma c_ha c_ho c_ti c_be c_te c_ch c_up c_fu c_tm c_tc) s.heap.size = A at hD ⊢
  have hA : ∀ q : Nat, s.heap.size ≤ q → A q := fun q h => by rw [← hAe]; exact Or.inr h
  have hS : va_S A s.heap s.heap [] := va_S.rf
  have hP : va_P (dC, dI) vwCl (wM A_x A_da A_ma A_ha A_ho A_ti A_be A_te A_ch K_da K_ma K_ha K_ho K_ti K_be K_te K_ch c_da c_ma c_ha c_ho c_ti c_be c_te c_ch c_up c_fu c_tm c_tc) s.heap := hP
  have hl := lv_entry ([.ref A_x, .int p1, .int p2]) (n := 4) (Nat.le_of_ble_eq_true rfl)
  rw [lg_entry_eq]
  generalize (lg_sl ([.ref A_x, .int p1, .int p2]) ++ List.replicate (4 - (lg_sl ([.ref A_x, .int p1, .int p2])).length) Slot.unset).toArray = ls at hl ⊢
  have hl : lv_has ls 4 [(0, .ref A_x), (1, .int p1), (2, .int p2)] := hl
  refine w_name (fun Q hQ => ?_)
  unfold m_X5_put at hm
  refine lv_aload_n hx hb dX5_put_0 rfl (lv_at hl 0 rfl) ?_
  refine va_get (D := (dC, dI)) (ci := 3) (v := .int c_fu) (C := RX5) (T := TX5) (N := 12) hx hb hts hi_X5_put_X5 hown hK hP 0 rfl rfl 2 (by decide) (hts (Cond.fieldLink RX5 46 "BuddyFilesModel" "fuse" "I") hk_X5_put_46) (fun _ h9 => h9) rfl dX5_put_1 ?_
  refine lv_if_ne (tgt := 39) hx hb dX5_put_4 (by decide) (fun c1 => ?_) (fun c1 => ?_)
  · have hm := g_f c1 hm
    refine lv_aload_n hx hb dX5_put_39 rfl (lv_at hl 0 rfl) ?_
    refine lv_aload_n hx hb dX5_put_40 rfl (lv_at hl 0 rfl) ?_
    refine va_get (D := (dC, dI)) (ci := 3) (v := .int c_fu) (C := RX5) (T := TX5) (N := 12) hx hb hts hi_X5_put_X5 hown hK hP 0 rfl rfl 2 (by decide) (hts (Cond.fieldLink RX5 46 "BuddyFilesModel" "fuse" "I") hk_X5_put_46) (fun _ h9 => h9) rfl dX5_put_41 ?_
    refine lv_if_le (tgt := 56) hx hb dX5_put_44 (by decide) (fun c2 => ?_) (fun c2 => ?_)
    · have hm := g_t c2 hm
      refine lv_aload_n hx hb dX5_put_56 rfl (lv_at hl 0 rfl) ?_
      refine va_get (D := (dC, dI)) (ci := 3) (v := .int c_fu) (C := RX5) (T := TX5) (N := 12) hx hb hts hi_X5_put_X5 hown hK hP 0 rfl rfl 2 (by decide) (hts (Cond.fieldLink RX5 46 "BuddyFilesModel" "fuse" "I") hk_X5_put_46) (fun _ h9 => h9) rfl dX5_put_57 ?_
      refine va_put (D := (dC, dI)) (ci := 3) (v := .int c_fu) (ty := .int) (C := RX5) (T := TX5) (N := 12) hx hb hts hi_X5_put_X5 tyX5 tyX5_ok nmX5 hown hK hP hD hS 0 rfl rfl 2 (by decide) (hts (Cond.fieldLink RX5 46 "BuddyFilesModel" "fuse" "I") hk_X5_put_46) (fun _ h9 => h9) rfl (by decide +kernel) rfl rfl (Nat.le_of_ble_eq_true rfl) dX5_put_60 (fun H3 locs3 hP hD hS => ?_)
      have hP : va_P (dC, dI) vwCl (wM A_x A_da A_ma A_ha A_ho A_ti A_be A_te A_ch K_da K_ma K_ha K_ho K_ti K_be K_te K_ch c_da c_ma c_ha c_ho c_ti c_be c_te c_ch c_up c_fu c_tm c_tc) H3 := hP
      have hD : va_D A (wM A_x A_da A_ma A_ha A_ho A_ti A_be A_te A_ch K_da K_ma K_ha K_ho K_ti K_be K_te K_ch c_da c_ma c_ha c_ho c_ti c_be c_te c_ch c_up c_fu c_tm c_tc) := hD
      refine lv_aload_n hx hb dX5_put_63 rfl (lv_at hl 0 rfl) ?_
      refine va_get (D := (dC, dI)) (ci := 3) (v := .ref A_da) (C := RX5) (T := TX5) (N := 12) hx hb hts hi_X5_put_X5 hown hK hP 0 rfl rfl 0 (by decide) (hts (Cond.fieldLink RX5 7 "BuddyFilesModel" "disk" "[I") hk_X5_put_7) (fun _ h9 => h9) rfl dX5_put_64 ?_
      refine lv_iload_n hx hb dX5_put_67 rfl (lv_at hl 1 rfl) ?_
      refine lv_iload_n hx hb dX5_put_68 rfl (lv_at hl 2 rfl) ?_
      obtain ⟨f4, ex, hm⟩ := g_bind hm
      refine w_ast hx hb hK hP hD hS 1 0 rfl rfl ex dX5_put_69 (fun H5 locs5 hP hD hS => ?_)
      have hP : va_P (dC, dI) vwCl (wM A_x A_da A_ma A_ha A_ho A_ti A_be A_te A_ch K_da K_ma K_ha K_ho K_ti K_be K_te K_ch f4 c_ma c_ha c_ho c_ti c_be c_te c_ch c_up c_fu c_tm c_tc) H5 := hP
      have hD : va_D A (wM A_x A_da A_ma A_ha A_ho A_ti A_be A_te A_ch K_da K_ma K_ha K_ho K_ti K_be K_te K_ch f4 c_ma c_ha c_ho c_ti c_be c_te c_ch c_up c_fu c_tm c_tc) := hD
      refine lv_iconst (v := 1) hx hb dX5_put_70 (by decide) ?_
      cases hm
      subst hQ
      exact W.zret hx hb hr rfl (fun t ht hW => ⟨⟨_, (), rfl, rfl, by rw [ht]; exact hP, hD⟩, hS.F ht⟩) hS.2.2 dX5_put_71
    · have hm := g_f c2 hm
      refine lv_aload_n hx hb dX5_put_47 rfl (lv_at hl 0 rfl) ?_
      refine va_get (D := (dC, dI)) (ci := 3) (v := .int c_fu) (C := RX5) (T := TX5) (N := 12) hx hb hts hi_X5_put_X5 hown hK hP 0 rfl rfl 2 (by decide) (hts (Cond.fieldLink RX5 46 "BuddyFilesModel" "fuse" "I") hk_X5_put_46) (fun _ h9 => h9) rfl dX5_put_48 ?_
      refine lv_iconst (v := 1) hx hb dX5_put_51 (by decide) ?_
      refine lv_isub hx hb dX5_put_52 ?_
      refine lv_goto (tgt := 60) hx hb dX5_put_53 (by decide) ?_
      refine va_put (D := (dC, dI)) (ci := 3) (v := .int (c_fu - (1 : Int32))) (ty := .int) (C := RX5) (T := TX5) (N := 12) hx hb hts hi_X5_put_X5 tyX5 tyX5_ok nmX5 hown hK hP hD hS 0 rfl rfl 2 (by decide) (hts (Cond.fieldLink RX5 46 "BuddyFilesModel" "fuse" "I") hk_X5_put_46) (fun _ h9 => h9) rfl (by decide +kernel) rfl rfl (Nat.le_of_ble_eq_true rfl) dX5_put_60 (fun H6 locs6 hP hD hS => ?_)
      have hP : va_P (dC, dI) vwCl (wM A_x A_da A_ma A_ha A_ho A_ti A_be A_te A_ch K_da K_ma K_ha K_ho K_ti K_be K_te K_ch c_da c_ma c_ha c_ho c_ti c_be c_te c_ch c_up (c_fu - (1 : Int32)) c_tm c_tc) H6 := hP
      have hD : va_D A (wM A_x A_da A_ma A_ha A_ho A_ti A_be A_te A_ch K_da K_ma K_ha K_ho K_ti K_be K_te K_ch c_da c_ma c_ha c_ho c_ti c_be c_te c_ch c_up (c_fu - (1 : Int32)) c_tm c_tc) := hD
      refine lv_aload_n hx hb dX5_put_63 rfl (lv_at hl 0 rfl) ?_
      refine va_get (D := (dC, dI)) (ci := 3) (v := .ref A_da) (C := RX5) (T := TX5) (N := 12) hx hb hts hi_X5_put_X5 hown hK hP 0 rfl rfl 0 (by decide) (hts (Cond.fieldLink RX5 7 "BuddyFilesModel" "disk" "[I") hk_X5_put_7) (fun _ h9 => h9) rfl dX5_put_64 ?_
      refine lv_iload_n hx hb dX5_put_67 rfl (lv_at hl 1 rfl) ?_
      refine lv_iload_n hx hb dX5_put_68 rfl (lv_at hl 2 rfl) ?_
      obtain ⟨f7, ex, hm⟩ := g_bind hm
      refine w_ast hx hb hK hP hD hS 1 0 rfl rfl ex dX5_put_69 (fun H8 locs8 hP hD hS => ?_)
      have hP : va_P (dC, dI) vwCl (wM A_x A_da A_ma A_ha A_ho A_ti A_be A_te A_ch K_da K_ma K_ha K_ho K_ti K_be K_te K_ch f7 c_ma c_ha c_ho c_ti c_be c_te c_ch c_up (c_fu - (1 : Int32)) c_tm c_tc) H8 := hP
      have hD : va_D A (wM A_x A_da A_ma A_ha A_ho A_ti A_be A_te A_ch K_da K_ma K_ha K_ho K_ti K_be K_te K_ch f7 c_ma c_ha c_ho c_ti c_be c_te c_ch c_up (c_fu - (1 : Int32)) c_tm c_tc) := hD
      refine lv_iconst (v := 1) hx hb dX5_put_70 (by decide) ?_
      cases hm
      subst hQ
      exact W.zret hx hb hr rfl (fun t ht hW => ⟨⟨_, (), rfl, rfl, by rw [ht]; exact hP, hD⟩, hS.F ht⟩) hS.2.2 dX5_put_71
  · have hm := g_t c1 hm
    refine lv_aload_n hx hb dX5_put_7 rfl (lv_at hl 0 rfl) ?_
    refine lv_iconst (v := -1) hx hb dX5_put_8 (by decide) ?_
    refine va_put (D := (dC, dI)) (ci := 3) (v := .int (-1 : Int32)) (ty := .int) (C := RX5) (T := TX5) (N := 12) hx hb hts hi_X5_put_X5 tyX5 tyX5_ok nmX5 hown hK hP hD hS 0 rfl rfl 2 (by decide) (hts (Cond.fieldLink RX5 46 "BuddyFilesModel" "fuse" "I") hk_X5_put_46) (fun _ h9 => h9) rfl (by decide +kernel) rfl rfl (Nat.le_of_ble_eq_true rfl) dX5_put_9 (fun H9 locs9 hP hD hS => ?_)
    have hP : va_P (dC, dI) vwCl (wM A_x A_da A_ma A_ha A_ho A_ti A_be A_te A_ch K_da K_ma K_ha K_ho K_ti K_be K_te K_ch c_da c_ma c_ha c_ho c_ti c_be c_te c_ch c_up (-1 : Int32) c_tm c_tc) H9 := hP
    have hD : va_D A (wM A_x A_da A_ma A_ha A_ho A_ti A_be A_te A_ch K_da K_ma K_ha K_ho K_ti K_be K_te K_ch c_da c_ma c_ha c_ho c_ti c_be c_te c_ch c_up (-1 : Int32) c_tm c_tc) := hD
    refine lv_aload_n hx hb dX5_put_12 rfl (lv_at hl 0 rfl) ?_
    refine lv_iconst (v := 0) hx hb dX5_put_13 (by decide) ?_
    refine va_put (D := (dC, dI)) (ci := 3) (v := .int (0 : Int32)) (ty := .boolean) (C := RX5) (T := TX5) (N := 12) hx hb hts hi_X5_put_X5 tyX5 tyX5_ok nmX5 hown hK hP hD hS 0 rfl rfl 1 (by decide) (hts (Cond.fieldLink RX5 42 "BuddyFilesModel" "up" "Z") hk_X5_put_42) (fun _ h9 => h9) rfl (by decide +kernel) rfl rfl (Nat.le_of_ble_eq_true rfl) dX5_put_14 (fun H10 locs10 hP hD hS => ?_)
    have hP : va_P (dC, dI) vwCl (wM A_x A_da A_ma A_ha A_ho A_ti A_be A_te A_ch K_da K_ma K_ha K_ho K_ti K_be K_te K_ch c_da c_ma c_ha c_ho c_ti c_be c_te c_ch (0 : Int32) (-1 : Int32) c_tm c_tc) H10 := hP
    have hD : va_D A (wM A_x A_da A_ma A_ha A_ho A_ti A_be A_te A_ch K_da K_ma K_ha K_ho K_ti K_be K_te K_ch c_da c_ma c_ha c_ho c_ti c_be c_te c_ch (0 : Int32) (-1 : Int32) c_tm c_tc) := hD
    refine lv_iconst (v := 0) hx hb dX5_put_17 (by decide) ?_
    refine lv_istore_n (lv' := [(3, .int (0 : Int32)), (0, .ref A_x), (1, .int p1), (2, .int p2)]) hx hb dX5_put_18 rfl hl (by decide) rfl (fun ls hl => ?_)
    obtain ⟨rl14, hlp, hm⟩ := g_bind hm
    have hE14 : ∀ (f13 : (Nat → Int32)), f13 = rl14 → ∀ (H14e : Heap) (locs14e : List Loc), va_P (dC, dI) vwCl (wM A_x A_da A_ma A_ha A_ho A_ti A_be A_te A_ch K_da K_ma K_ha K_ho K_ti K_be K_te K_ch c_da c_ma f13 c_ho c_ti c_be c_te c_ch (0 : Int32) (-1 : Int32) c_tm c_tc) H14e → va_D A (wM A_x A_da A_ma A_ha A_ho A_ti A_be A_te A_ch K_da K_ma K_ha K_ho K_ti K_be K_te K_ch c_da c_ma f13 c_ho c_ti c_be c_te c_ch (0 : Int32) (-1 : Int32) c_tm c_tc) → va_S A s.heap H14e locs14e → ∀ (ls : Array Slot), lv_has ls 4 [] → W p l e (headSpec wsX5_put rm_X5_put).room s m (([.ref A_x, .int p1, .int p2] : List Value).toArray) below meth c H14e locs14e 0 0 Q (F0 m 37 ls []) := by
      intro f13 hq H14e locs14e hP hD hS ls hl
      subst hq
      have hm := g_k1_s hm
      refine lv_iconst (v := 0) hx hb dX5_put_37 (by decide) ?_
      cases hm
      subst hQ
      exact W.zret hx hb hr rfl (fun t ht hW => ⟨⟨_, (), rfl, rfl, by rw [ht]; exact hP, hD⟩, hS.F ht⟩) hS.2.2 dX5_put_38
    have hL14 : ∀ (n : Nat) (y11 : Int32) (f12 : (Nat → Int32)), g_loop (fun q => m_X5_put_L19 q.1 q.2) n (y11, f12) = some rl14 → ∀ (H14b : Heap) (locs14b : List Loc), va_P (dC, dI) vwCl (wM A_x A_da A_ma A_ha A_ho A_ti A_be A_te A_ch K_da K_ma K_ha K_ho K_ti K_be K_te K_ch c_da c_ma f12 c_ho c_ti c_be c_te c_ch (0 : Int32) (-1 : Int32) c_tm c_tc) H14b → va_D A (wM A_x A_da A_ma A_ha A_ho A_ti A_be A_te A_ch K_da K_ma K_ha K_ho K_ti K_be K_te K_ch c_da c_ma f12 c_ho c_ti c_be c_te c_ch (0 : Int32) (-1 : Int32) c_tm c_tc) → va_S A s.heap H14b locs14b → ∀ (ls : Array Slot), lv_has ls 4 [(0, .ref A_x), (3, .int y11)] → W p l e (headSpec wsX5_put rm_X5_put).room s m (([.ref A_x, .int p1, .int p2] : List Value).toArray) below meth c H14b locs14b 0 0 Q (F0 m 19 ls []) := by
      intro n
      induction n with
      | zero =>
        intro y11 f12 hm
        exact g_loop_z hm
      | succ n ih =>
        intro y11 f12 hm H14b locs14b hP hD hS ls hl
        obtain ⟨q, hm, hy⟩ := g_loop_s hm
        have hm : m_X5_put_L19 y11 f12 = some q := hm
        unfold m_X5_put_L19 at hm
        refine lv_iload_n hx hb dX5_put_19 rfl (lv_at hl 1 rfl) ?_
        refine lv_iconst (v := 4) hx hb dX5_put_20 (by decide) ?_
        refine lv_icmp_ge (tgt := 37) hx hb dX5_put_21 (by decide) (fun c15 => ?_) (fun c15 => ?_)
        · have hm := g_t c15 hm
          cases hm
          exact hE14 _ hy _ _ hP hD hS _ (lv_sub hl [] rfl)
        · have hm := g_f c15 hm
          refine lv_aload_n hx hb dX5_put_24 rfl (lv_at hl 0 rfl) ?_
          refine va_get (D := (dC, dI)) (ci := 3) (v := .ref A_ha) (C := RX5) (T := TX5) (N := 12) hx hb hts hi_X5_put_X5 hown hK hP 0 rfl rfl 4 (by decide) (hts (Cond.fieldLink RX5 16 "BuddyFilesModel" "handle" "[I") hk_X5_put_16) (fun _ h9 => h9) rfl dX5_put_25 ?_
          refine lv_iload_n hx hb dX5_put_28 rfl (lv_at hl 1 rfl) ?_
          refine lv_iconst (v := 0) hx hb dX5_put_29 (by decide) ?_
          obtain ⟨f16, ex, hm⟩ := g_bind hm
          refine w_ast hx hb hK hP hD hS 3 2 rfl rfl ex dX5_put_30 (fun H17 locs17 hP hD hS => ?_)
          have hP : va_P (dC, dI) vwCl (wM A_x A_da A_ma A_ha A_ho A_ti A_be A_te A_ch K_da K_ma K_ha K_ho K_ti K_be K_te K_ch c_da c_ma f16 c_ho c_ti c_be c_te c_ch (0 : Int32) (-1 : Int32) c_tm c_tc) H17 := hP
          have hD : va_D A (wM A_x A_da A_ma A_ha A_ho A_ti A_be A_te A_ch K_da K_ma K_ha K_ho K_ti K_be K_te K_ch c_da c_ma f16 c_ho c_ti c_be c_te c_ch (0 : Int32) (-1 : Int32) c_tm c_tc) := hD
          refine lv_iinc (v := (y11 + (1 : Int32))) (lv' := [(3, .int (y11 + (1 : Int32))), (0, .ref A_x)]) hx hb dX5_put_31 hl (k := 1) rfl rfl (by decide) rfl (fun ls hl => ?_)
          refine lv_goto (tgt := 19) hx hb dX5_put_34 (by decide) ?_
          cases hm
          exact ih _ _ hy _ _ hP hD hS _ (lv_sub hl [1, 0] rfl)
    exact hL14 _ _ _ hlp _ _ hP hD hS _ (lv_sub hl [1, 0] rfl)
