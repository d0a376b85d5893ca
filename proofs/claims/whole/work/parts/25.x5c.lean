theorem hi_X5_sync_X5 : ∀ w ∈ wsX50, w ∈ wsX5_sync := by decide +kernel
theorem hk_X5_sync_42 : Cond.fieldLink RX5 42 "BuddyFilesModel" "up" "Z" ∈ wsX5_sync := by decide +kernel
theorem hk_X5_sync_7 : Cond.fieldLink RX5 7 "BuddyFilesModel" "disk" "[I" ∈ wsX5_sync := by decide +kernel
theorem hk_X5_sync_13 : Cond.fieldLink RX5 13 "BuddyFilesModel" "mem" "[I" ∈ wsX5_sync := by decide +kernel
theorem hk_X5_sync_32 : Cond.fieldLink RX5 32 "BuddyFilesModel" "changed" "[I" ∈ wsX5_sync := by decide +kernel
abbrev rm_X5_sync : Room := { frames := 1, cells := 0, slots := 0, locals := 23 }
set_option maxHeartbeats 4000000 in
set_option maxRecDepth 100000 in
theorem k_X5_sync (l : Launch) (dC : Nat → ClassId) (dI : Nat → Nat → Nat) (A_x A_da A_ma A_ha A_ho A_ti A_be A_te A_ch : Nat) (K_da K_ma K_ha K_ho K_ti K_be K_te K_ch : ClassId) (c_da c_ma c_ha c_ho c_ti c_be c_te c_ch : Nat → Int32) (c_up c_fu c_tm c_tc : Int32) (sz : Nat)  (r0 : Int32) (o_da : (Nat → Int32)) (o_ha : (Nat → Int32)) (o_ch : (Nat → Int32)) (o_up : Int32) (o_fu : Int32) (hm : m_X5_sync c_da c_ma c_ha c_ch c_up c_fu = some (r0, o_da, o_ha, o_ch, o_up, o_fu)) : Met l yX5_sync wsX5_sync rm_X5_sync (va_Pc [.ref A_x] (fun U => U.heap.size = sz ∧ va_P (dC, dI) vwCl (wM A_x A_da A_ma A_ha A_ho A_ti A_be A_te A_ch K_da K_ma K_ha K_ho K_ti K_be K_te K_ch c_da c_ma c_ha c_ho c_ti c_be c_te c_ch c_up c_fu c_tm c_tc) U.heap ∧ va_K (dC, dI) vwCl (tM K_da K_ma K_ha K_ho K_ti K_be K_te K_ch) U ∧ va_D (fun _ => True) (wM A_x A_da A_ma A_ha A_ho A_ti A_be A_te A_ch K_da K_ma K_ha K_ho K_ti K_be K_te K_ch c_da c_ma c_ha c_ho c_ti c_be c_te c_ch c_up c_fu c_tm c_tc))) (va_Qi (fun (r : Int32) (_ : Unit) => r0 = r) (fun _ t => va_P (dC, dI) vwCl (wM A_x A_da A_ma A_ha A_ho A_ti A_be A_te A_ch K_da K_ma K_ha K_ho K_ti K_be K_te K_ch o_da c_ma o_ha c_ho c_ti c_be c_te o_ch o_up o_fu c_tm c_tc) t.heap ∧ va_D (va_A (wM A_x A_da A_ma A_ha A_ho A_ti A_be A_te A_ch K_da K_ma K_ha K_ho K_ti K_be K_te K_ch c_da c_ma c_ha c_ho c_ti c_be c_te c_ch c_up c_fu c_tm c_tc) sz) (wM A_x A_da A_ma A_ha A_ho A_ti A_be A_te A_ch K_da K_ma K_ha K_ho K_ti K_be K_te K_ch o_da c_ma o_ha c_ho c_ti c_be c_te o_ch o_up o_fu c_tm c_tc)) (va_A (wM A_x A_da A_ma A_ha A_ho A_ti A_be A_te A_ch K_da K_ma K_ha K_ho K_ti K_be K_te K_ch c_da c_ma c_ha c_ho c_ti c_be c_te c_ch c_up c_fu c_tm c_tc) sz)) 0 0 (va_A (wM A_x A_da A_ma A_ha A_ho A_ti A_be A_te A_ch K_da K_ma K_ha K_ho K_ti K_be K_te K_ch c_da c_ma c_ha c_ho c_ti c_be c_te c_ch c_up c_fu c_tm c_tc) sz) := by
  refine Met.ofW (cc := cX5_sync) (maxL := 6) (ret := (some .int)) (by decide) rfl ?_
  intro p e s m args below meth c s₁ B hml hv
  obtain ⟨rfl, hsz, hP, hK, hD0⟩ := hv
  have hx := B.exec
  have hb := B.bytes
  have hr := B.returns
  have hts := atoms_spec (ws := wsX5_sync) B.pre
  have hown : s.vm.findClass RX5 = some m.cls := findClass_of_methodNamed B.named
  have hlocks := B.notSynchronized
  subst hsz
  have hD := hD0.self (sz := s.heap.size)
  generalize hAe : va_A (wM A_x A_da A_ma A_ha A_ho A_ti A_be A_te A_ch K_da K_ma K_ha K_ho K_ti K_be K_te K_ch c_da c_ma c_ha c_ho c_ti c_be c_te c_ch c_up c_fu c_tm c_tc) s.heap.size = A at hD ⊢
  have hA : ∀ q : Nat, s.heap.size ≤ q → A q := fun q h => by rw [← hAe]; exact Or.inr h
  have hS : va_S A s.heap s.heap [] := va_S.rf
  have hP : va_P (dC, dI) vwCl (wM A_x A_da A_ma A_ha A_ho A_ti A_be A_te A_ch K_da K_ma K_ha K_ho K_ti K_be K_te K_ch c_da c_ma c_ha c_ho c_ti c_be c_te c_ch c_up c_fu c_tm c_tc) s.heap := hP
  have hl := lv_entry ([.ref A_x]) (n := 6) (Nat.le_of_ble_eq_true rfl)
  rw [lg_entry_eq]
  generalize (lg_sl ([.ref A_x]) ++ List.replicate (6 - (lg_sl ([.ref A_x])).length) Slot.unset).toArray = ls at hl ⊢
  have hl : lv_has ls 6 [(0, .ref A_x)] := hl
  refine w_name (fun Q hQ => ?_)
  unfold m_X5_sync at hm
  refine lv_aload_n hx hb dX5_sync_0 rfl (lv_at hl 0 rfl) ?_
  refine va_get (D := (dC, dI)) (ci := 3) (v := .int c_up) (C := RX5) (T := TX5) (N := 12) hx hb hts hi_X5_sync_X5 hown hK hP 0 rfl rfl 1 (by decide) (hts (Cond.fieldLink RX5 42 "BuddyFilesModel" "up" "Z") hk_X5_sync_42) (fun _ h9 => h9) rfl dX5_sync_1 ?_
  refine lv_if_ne (tgt := 10) hx hb dX5_sync_4 (by decide) (fun c1 => ?_) (fun c1 => ?_)
  · have hm := g_f c1 hm
    refine lv_iconst (v := 0) hx hb dX5_sync_10 (by decide) ?_
    refine lv_istore_n (lv' := [(1, .int (0 : Int32)), (0, .ref A_x)]) hx hb dX5_sync_11 rfl hl (by decide) rfl (fun ls hl => ?_)
    refine lv_iconst (v := 0) hx hb dX5_sync_12 (by decide) ?_
    refine lv_istore_n (lv' := [(2, .int (0 : Int32)), (1, .int (0 : Int32)), (0, .ref A_x)]) hx hb dX5_sync_13 rfl hl (by decide) rfl (fun ls hl => ?_)
    obtain ⟨rl7, hlp, hm⟩ := g_bind hm
    have hE7 : ∀ (z5 : Int32) (f6 : (Nat → Int32)), (z5, f6) = rl7 → ∀ (H7e : Heap) (locs7e : List Loc), va_P (dC, dI) vwCl (wM A_x A_da A_ma A_ha A_ho A_ti A_be A_te A_ch K_da K_ma K_ha K_ho K_ti K_be K_te K_ch c_da c_ma c_ha c_ho c_ti c_be c_te f6 c_up c_fu c_tm c_tc) H7e → va_D A (wM A_x A_da A_ma A_ha A_ho A_ti A_be A_te A_ch K_da K_ma K_ha K_ho K_ti K_be K_te K_ch c_da c_ma c_ha c_ho c_ti c_be c_te f6 c_up c_fu c_tm c_tc) → va_S A s.heap H7e locs7e → ∀ (ls : Array Slot), lv_has ls 6 [(0, .ref A_x), (1, .int z5)] → W p l e (headSpec wsX5_sync rm_X5_sync).room s m (([.ref A_x] : List Value).toArray) below meth c H7e locs7e 0 0 Q (F0 m 51 ls []) := by
      intro z5 f6 hq H7e locs7e hP hD hS ls hl
      subst hq
      have hm := g_k2_s hm
      refine lv_iload_n hx hb dX5_sync_51 rfl (lv_at hl 1 rfl) ?_
      refine lv_if_ne (tgt := 57) hx hb dX5_sync_52 (by decide) (fun c14 => ?_) (fun c14 => ?_)
      · have hm := g_f c14 hm
        refine lv_iload_n hx hb dX5_sync_57 rfl (lv_at hl 1 rfl) ?_
        refine lv_istore_n (lv' := [(2, .int z5), (0, .ref A_x), (1, .int z5)]) hx hb dX5_sync_58 rfl hl (by decide) rfl (fun ls hl => ?_)
        refine lv_iconst (v := 1) hx hb dX5_sync_59 (by decide) ?_
        refine lv_istore_n (lv' := [(3, .int (1 : Int32)), (2, .int z5), (0, .ref A_x), (1, .int z5)]) hx hb dX5_sync_60 rfl hl (by decide) rfl (fun ls hl => ?_)
        refine lv_iconst (v := 0) hx hb dX5_sync_61 (by decide) ?_
        refine lv_istore (lv' := [(4, .int (0 : Int32)), (3, .int (1 : Int32)), (2, .int z5), (0, .ref A_x), (1, .int z5)]) hx hb dX5_sync_62 hl (by decide) rfl (fun ls hl => ?_)
        obtain ⟨rl28, hlp, hm⟩ := g_bind hm
        have hE28 : ∀ (z22 : Int32) (z23 : Int32) (f24 : (Nat → Int32)) (f25 : (Nat → Int32)) (f26 : Int32) (f27 : Int32), (z22, z23, f24, f25, f26, f27) = rl28 → ∀ (H28e : Heap) (locs28e : List Loc), va_P (dC, dI) vwCl (wM A_x A_da A_ma A_ha A_ho A_ti A_be A_te A_ch K_da K_ma K_ha K_ho K_ti K_be K_te K_ch f24 c_ma f25 c_ho c_ti c_be c_te f6 f26 f27 c_tm c_tc) H28e → va_D A (wM A_x A_da A_ma A_ha A_ho A_ti A_be A_te A_ch K_da K_ma K_ha K_ho K_ti K_be K_te K_ch f24 c_ma f25 c_ho c_ti c_be c_te f6 f26 f27 c_tm c_tc) → va_S A s.heap H28e locs28e → ∀ (ls : Array Slot), lv_has ls 6 [(0, .ref A_x), (1, .int z5), (2, .int z22), (3, .int z23)] → W p l e (headSpec wsX5_sync rm_X5_sync).room s m (([.ref A_x] : List Value).toArray) below meth c H28e locs28e 0 0 Q (F0 m 151 ls []) := by
          intro z22 z23 f24 f25 f26 f27 hq H28e locs28e hP hD hS ls hl
          subst hq
          have hm := g_k6_s hm
          refine lv_iload_n hx hb dX5_sync_151 rfl (lv_at hl 3 rfl) ?_
          obtain ⟨rj53, hreg, hm⟩ := g_bind hm
          have hJ53 : ∀ (v48 : Int32) (f49 : (Nat → Int32)) (f50 : (Nat → Int32)) (f51 : Int32) (f52 : Int32), (v48, f49, f50, f51, f52) = rj53 → ∀ (H53 : Heap) (locs53 : List Loc), va_P (dC, dI) vwCl (wM A_x A_da A_ma A_ha A_ho A_ti A_be A_te A_ch K_da K_ma K_ha K_ho K_ti K_be K_te K_ch f49 c_ma f50 c_ho c_ti c_be c_te f6 f51 f52 c_tm c_tc) H53 → va_D A (wM A_x A_da A_ma A_ha A_ho A_ti A_be A_te A_ch K_da K_ma K_ha K_ho K_ti K_be K_te K_ch f49 c_ma f50 c_ho c_ti c_be c_te f6 f51 f52 c_tm c_tc) → va_S A s.heap H53 locs53 → ∀ (ls : Array Slot), lv_has ls 6 [(0, .ref A_x), (1, .int z5)] → W p l e (headSpec wsX5_sync rm_X5_sync).room s m (([.ref A_x] : List Value).toArray) below meth c H53 locs53 0 0 Q (F0 m 180 ls [.int v48]) := by
            intro v48 f49 f50 f51 f52 hq H53 locs53 hP hD hS ls hl
            subst hq
            have hm := g_k5_s hm
            refine lv_istore_n (lv' := [(3, .int v48), (0, .ref A_x), (1, .int z5)]) hx hb dX5_sync_180 rfl hl (by decide) rfl (fun ls hl => ?_)
            refine lv_iconst (v := 0) hx hb dX5_sync_181 (by decide) ?_
            refine lv_istore (lv' := [(4, .int (0 : Int32)), (3, .int v48), (0, .ref A_x), (1, .int z5)]) hx hb dX5_sync_182 hl (by decide) rfl (fun ls hl => ?_)
            obtain ⟨rl65, hlp, hm⟩ := g_bind hm
            have hE65 : ∀ (z60 : Int32) (f61 : (Nat → Int32)) (f62 : (Nat → Int32)) (f63 : Int32) (f64 : Int32), (z60, f61, f62, f63, f64) = rl65 → ∀ (H65e : Heap) (locs65e : List Loc), va_P (dC, dI) vwCl (wM A_x A_da A_ma A_ha A_ho A_ti A_be A_te A_ch K_da K_ma K_ha K_ho K_ti K_be K_te K_ch f61 c_ma f62 c_ho c_ti c_be c_te f6 f63 f64 c_tm c_tc) H65e → va_D A (wM A_x A_da A_ma A_ha A_ho A_ti A_be A_te A_ch K_da K_ma K_ha K_ho K_ti K_be K_te K_ch f61 c_ma f62 c_ho c_ti c_be c_te f6 f63 f64 c_tm c_tc) → va_S A s.heap H65e locs65e → ∀ (ls : Array Slot), lv_has ls 6 [(0, .ref A_x), (1, .int z5), (3, .int z60)] → W p l e (headSpec wsX5_sync rm_X5_sync).room s m (([.ref A_x] : List Value).toArray) below meth c H65e locs65e 0 0 Q (F0 m 224 ls []) := by
              intro z60 f61 f62 f63 f64 hq H65e locs65e hP hD hS ls hl
              subst hq
              have hm := g_k5_s hm
              refine lv_iload_n hx hb dX5_sync_224 rfl (lv_at hl 2 rfl) ?_
              refine lv_if_eq (tgt := 242) hx hb dX5_sync_225 (by decide) (fun c77 => ?_) (fun c77 => ?_)
              · have hm := g_t c77 hm
                refine lv_iconst (v := 0) hx hb dX5_sync_242 (by decide) ?_
                refine lv_istore_n (lv' := [(3, .int (0 : Int32)), (0, .ref A_x), (1, .int z5)]) hx hb dX5_sync_243 rfl hl (by decide) rfl (fun ls hl => ?_)
                refine lv_iload_n hx hb dX5_sync_244 rfl (lv_at hl 0 rfl) ?_
                refine lv_if_eq (tgt := 252) hx hb dX5_sync_245 (by decide) (fun _ => ?_) (fun cx => absurd (by decide) cx)
                refine lv_bipush (v := -11) hx hb dX5_sync_252 (by decide) ?_
                cases hm
                subst hQ
                exact W.iret hx hb hr (fun t ht hW => ⟨⟨_, (), rfl, rfl, by rw [ht]; exact hP, hD⟩, hS.F ht⟩) hS.2.2 dX5_sync_254
              · have hm := g_f c77 hm
                refine lv_aload_n hx hb dX5_sync_228 rfl (lv_at hl 0 rfl) ?_
                refine lv_bipush (v := 110) hx hb dX5_sync_229 (by decide) ?_
                refine lv_iconst (v := 0) hx hb dX5_sync_231 (by decide) ?_
                obtain ⟨⟨x78, f79, f80, f81, f82⟩, ex, hm⟩ := g_bind hm
                have hm := g_k5_s hm
                have hPc := hP.sub (ws' := (wM A_x A_da A_ma A_ha A_ho A_ti A_be A_te A_ch K_da K_ma K_ha K_ho K_ti K_be K_te K_ch f61 c_ma f62 c_ho c_ti c_be c_te f6 f63 f64 c_tm c_tc)) [0, 1, 2, 3, 4, 5, 6, 7, 8] rfl
                have hDc := hD.sub (ws' := (wM A_x A_da A_ma A_ha A_ho A_ti A_be A_te A_ch K_da K_ma K_ha K_ho K_ti K_be K_te K_ch f61 c_ma f62 c_ho c_ti c_be c_te f6 f63 f64 c_tm c_tc)) [0, 1, 2, 3, 4, 5, 6, 7, 8] (by decide) rfl
                have hKc := hK.sub (tys' := (tM K_da K_ma K_ha K_ho K_ti K_be K_te K_ch)) [0, 1, 2, 3, 4, 5, 6, 7] rfl
                have hFc := va_free (wc := (wM A_x A_da A_ma A_ha A_ho A_ti A_be A_te A_ch K_da K_ma K_ha K_ho K_ti K_be K_te K_ch f61 c_ma f62 c_ho c_ti c_be c_te f6 f63 f64 c_tm c_tc)) hD hS hA [0, 1, 2, 3, 4, 5, 6, 7, 8] rfl
                refine va_calli (va_runV (As := [.int (110 : Int32), .int (0 : Int32)]) (rest := []) ⟨hx, hb, hml, hown, hts⟩ (k_X5_put l dC dI A_x A_da A_ma A_ha A_ho A_ti A_be A_te A_ch K_da K_ma K_ha K_ho K_ti K_be K_te K_ch f61 c_ma f62 c_ho c_ti c_be c_te f6 f63 f64 c_tm c_tc H65e.size (110 : Int32) (0 : Int32) _ _ _ _ _ ex) (cwV 2 hts gX5_sync_X5_put rfl rfl rfl (by decide +kernel) ⟨Nat.le_of_ble_eq_true rfl, Nat.le_of_ble_eq_true rfl⟩) ⟨w_blW, va_recv hKc hPc (ci := 3) (q0 := 0) rfl rfl, fun U hU hW => ⟨rfl, by rw [hU], by rw [hU]; exact hPc, va_K.moved hW.alike hKc, hDc.weaken (fun _ _ _ _ => trivial)⟩⟩ rfl rfl hl.1 rfl (lv_room (Nat.le_of_ble_eq_true rfl)) dX5_sync_232 ⟨Nat.zero_le _, Nat.zero_le _⟩) hS (fun q _ h => hFc q h) hFc (fun _ _ t H83 locs83 ht hvm hw hB hz1 hk1 hS => ?_)
                subst hw
                refine W.widen (k := 0) (n := 0) (Nat.le_refl 0) (Nat.le_refl 0) ?_
                obtain ⟨hP1, hD1⟩ := hB
                rw [ht] at hP1
                obtain ⟨hP, hD⟩ := va_join (wr := []) (w1 := (wM A_x A_da A_ma A_ha A_ho A_ti A_be A_te A_ch K_da K_ma K_ha K_ho K_ti K_be K_te K_ch f79 c_ma f80 c_ho c_ti c_be c_te f6 f81 f82 c_tm c_tc)) hP hD [0, 1, 2, 3, 4, 5, 6, 7, 8] [] rfl rfl (by decide) (by decide) hk1 hFc hP1 hD1
                have hP : va_P (dC, dI) vwCl (wM A_x A_da A_ma A_ha A_ho A_ti A_be A_te A_ch K_da K_ma K_ha K_ho K_ti K_be K_te K_ch f79 c_ma f80 c_ho c_ti c_be c_te f6 f81 f82 c_tm c_tc) H83 := hP.sub [0, 1, 2, 3, 4, 5, 6, 7, 8] rfl
                have hD : va_D A (wM A_x A_da A_ma A_ha A_ho A_ti A_be A_te A_ch K_da K_ma K_ha K_ho K_ti K_be K_te K_ch f79 c_ma f80 c_ho c_ti c_be c_te f6 f81 f82 c_tm c_tc) := hD.sub [0, 1, 2, 3, 4, 5, 6, 7, 8] (by decide) rfl
                refine lv_if_eq (tgt := 242) hx hb dX5_sync_235 (by decide) (fun c84 => ?_) (fun c84 => ?_)
                · have hm := g_t c84 hm
                  refine lv_iconst (v := 0) hx hb dX5_sync_242 (by decide) ?_
                  refine lv_istore_n (lv' := [(3, .int (0 : Int32)), (0, .ref A_x), (1, .int z5)]) hx hb dX5_sync_243 rfl hl (by decide) rfl (fun ls hl => ?_)
                  refine lv_iload_n hx hb dX5_sync_244 rfl (lv_at hl 0 rfl) ?_
                  refine lv_if_eq (tgt := 252) hx hb dX5_sync_245 (by decide) (fun _ => ?_) (fun cx => absurd (by decide) cx)
                  refine lv_bipush (v := -11) hx hb dX5_sync_252 (by decide) ?_
                  cases hm
                  subst hQ
                  exact W.iret hx hb hr (fun t ht hW => ⟨⟨_, (), rfl, rfl, by rw [ht]; exact hP, hD⟩, hS.F ht⟩) hS.2.2 dX5_sync_254
                · have hm := g_f c84 hm
                  refine lv_iconst (v := 1) hx hb dX5_sync_238 (by decide) ?_
                  refine lv_goto (tgt := 243) hx hb dX5_sync_239 (by decide) ?_
                  refine lv_istore_n (lv' := [(3, .int (1 : Int32)), (0, .ref A_x), (1, .int z5)]) hx hb dX5_sync_243 rfl hl (by decide) rfl (fun ls hl => ?_)
                  refine lv_iload_n hx hb dX5_sync_244 rfl (lv_at hl 0 rfl) ?_
                  refine lv_if_eq (tgt := 252) hx hb dX5_sync_245 (by decide) (fun cx => absurd cx (by decide)) (fun _ => ?_)
                  refine lv_iload_n hx hb dX5_sync_248 rfl (lv_at hl 2 rfl) ?_
                  refine lv_goto (tgt := 254) hx hb dX5_sync_249 (by decide) ?_
                  cases hm
                  subst hQ
                  exact W.iret hx hb hr (fun t ht hW => ⟨⟨_, (), rfl, rfl, by rw [ht]; exact hP, hD⟩, hS.F ht⟩) hS.2.2 dX5_sync_254
            have hL65 : ∀ (n : Nat) (y54 : Int32) (y55 : Int32) (f56 : (Nat → Int32)) (f57 : (Nat → Int32)) (f58 : Int32) (f59 : Int32), g_loop (fun q => m_X5_sync_L184 c_ma z5 f6 q.1 q.2.1 q.2.2.1 q.2.2.2.1 q.2.2.2.2.1 q.2.2.2.2.2) n (y54, y55, f56, f57, f58, f59) = some rl65 → ∀ (H65b : Heap) (locs65b : List Loc), va_P (dC, dI) vwCl (wM A_x A_da A_ma A_ha A_ho A_ti A_be A_te A_ch K_da K_ma K_ha K_ho K_ti K_be K_te K_ch f56 c_ma f57 c_ho c_ti c_be c_te f6 f58 f59 c_tm c_tc) H65b → va_D A (wM A_x A_da A_ma A_ha A_ho A_ti A_be A_te A_ch K_da K_ma K_ha K_ho K_ti K_be K_te K_ch f56 c_ma f57 c_ho c_ti c_be c_te f6 f58 f59 c_tm c_tc) → va_S A s.heap H65b locs65b → ∀ (ls : Array Slot), lv_has ls 6 [(0, .ref A_x), (1, .int z5), (3, .int y54), (4, .int y55)] → W p l e (headSpec wsX5_sync rm_X5_sync).room s m (([.ref A_x] : List Value).toArray) below meth c H65b locs65b 0 0 Q (F0 m 184 ls []) := by
              intro n
              induction n with
              | zero =>
                intro y54 y55 f56 f57 f58 f59 hm
                exact g_loop_z hm
              | succ n ih =>
                intro y54 y55 f56 f57 f58 f59 hm H65b locs65b hP hD hS ls hl
                obtain ⟨q, hm, hy⟩ := g_loop_s hm
                have hm : m_X5_sync_L184 c_ma z5 f6 y54 y55 f56 f57 f58 f59 = some q := hm
                unfold m_X5_sync_L184 at hm
                refine lv_iload hx hb dX5_sync_184 (lv_at hl 3 rfl) ?_
                refine lv_iload_n hx hb dX5_sync_186 rfl (lv_at hl 1 rfl) ?_
                refine lv_icmp_ge (tgt := 224) hx hb dX5_sync_187 (by decide) (fun c66 => ?_) (fun c66 => ?_)
                · have hm := g_t c66 hm
                  cases hm
                  exact hE65 _ _ _ _ _ hy _ _ hP hD hS _ (lv_sub hl [0, 1, 2] rfl)
                · have hm := g_f c66 hm
                  refine lv_iload_n hx hb dX5_sync_190 rfl (lv_at hl 2 rfl) ?_
                  refine lv_if_eq (tgt := 224) hx hb dX5_sync_191 (by decide) (fun c67 => ?_) (fun c67 => ?_)
                  · have hm := g_t c67 hm
                    cases hm
                    exact hE65 _ _ _ _ _ hy _ _ hP hD hS _ (lv_sub hl [0, 1, 2] rfl)
                  · have hm := g_f c67 hm
                    refine lv_aload_n hx hb dX5_sync_194 rfl (lv_at hl 0 rfl) ?_
                    refine lv_aload_n hx hb dX5_sync_195 rfl (lv_at hl 0 rfl) ?_
                    refine va_get (D := (dC, dI)) (ci := 3) (v := .ref A_ch) (C := RX5) (T := TX5) (N := 12) hx hb hts hi_X5_sync_X5 hown hK hP 0 rfl rfl 11 (by decide) (hts (Cond.fieldLink RX5 32 "BuddyFilesModel" "changed" "[I") hk_X5_sync_32) (fun _ h9 => h9) rfl dX5_sync_196 ?_
                    refine lv_iload hx hb dX5_sync_199 (lv_at hl 3 rfl) ?_
                    obtain ⟨x68, ex, hm⟩ := g_bind hm
                    refine w_ald hx hb hK hP 8 7 rfl rfl ex dX5_sync_201 ?_
                    refine lv_aload_n hx hb dX5_sync_202 rfl (lv_at hl 0 rfl) ?_
                    refine va_get (D := (dC, dI)) (ci := 3) (v := .ref A_ma) (C := RX5) (T := TX5) (N := 12) hx hb hts hi_X5_sync_X5 hown hK hP 0 rfl rfl 3 (by decide) (hts (Cond.fieldLink RX5 13 "BuddyFilesModel" "mem" "[I") hk_X5_sync_13) (fun _ h9 => h9) rfl dX5_sync_203 ?_
                    refine lv_aload_n hx hb dX5_sync_206 rfl (lv_at hl 0 rfl) ?_
                    refine va_get (D := (dC, dI)) (ci := 3) (v := .ref A_ch) (C := RX5) (T := TX5) (N := 12) hx hb hts hi_X5_sync_X5 hown hK hP 0 rfl rfl 11 (by decide) (hts (Cond.fieldLink RX5 32 "BuddyFilesModel" "changed" "[I") hk_X5_sync_32) (fun _ h9 => h9) rfl dX5_sync_207 ?_
                    refine lv_iload hx hb dX5_sync_210 (lv_at hl 3 rfl) ?_
                    obtain ⟨x69, ex, hm⟩ := g_bind hm
                    refine w_ald hx hb hK hP 8 7 rfl rfl ex dX5_sync_212 ?_
                    obtain ⟨x70, ex, hm⟩ := g_bind hm
                    refine w_ald hx hb hK hP 2 1 rfl rfl ex dX5_sync_213 ?_
                    obtain ⟨⟨x71, f72, f73, f74, f75⟩, ex, hm⟩ := g_bind hm
                    have hm := g_k5_s hm
                    have hPc := hP.sub (ws' := (wM A_x A_da A_ma A_ha A_ho A_ti A_be A_te A_ch K_da K_ma K_ha K_ho K_ti K_be K_te K_ch f56 c_ma f57 c_ho c_ti c_be c_te f6 f58 f59 c_tm c_tc)) [0, 1, 2, 3, 4, 5, 6, 7, 8] rfl
                    have hDc := hD.sub (ws' := (wM A_x A_da A_ma A_ha A_ho A_ti A_be A_te A_ch K_da K_ma K_ha K_ho K_ti K_be K_te K_ch f56 c_ma f57 c_ho c_ti c_be c_te f6 f58 f59 c_tm c_tc)) [0, 1, 2, 3, 4, 5, 6, 7, 8] (by decide) rfl
                    have hKc := hK.sub (tys' := (tM K_da K_ma K_ha K_ho K_ti K_be K_te K_ch)) [0, 1, 2, 3, 4, 5, 6, 7] rfl
                    have hFc := va_free (wc := (wM A_x A_da A_ma A_ha A_ho A_ti A_be A_te A_ch K_da K_ma K_ha K_ho K_ti K_be K_te K_ch f56 c_ma f57 c_ho c_ti c_be c_te f6 f58 f59 c_tm c_tc)) hD hS hA [0, 1, 2, 3, 4, 5, 6, 7, 8] rfl
                    refine va_calli (va_runV (As := [.int x68, .int x70]) (rest := []) ⟨hx, hb, hml, hown, hts⟩ (k_X5_put l dC dI A_x A_da A_ma A_ha A_ho A_ti A_be A_te A_ch K_da K_ma K_ha K_ho K_ti K_be K_te K_ch f56 c_ma f57 c_ho c_ti c_be c_te f6 f58 f59 c_tm c_tc H65b.size x68 x70 _ _ _ _ _ ex) (cwV 2 hts gX5_sync_X5_put rfl rfl rfl (by decide +kernel) ⟨Nat.le_of_ble_eq_true rfl, Nat.le_of_ble_eq_true rfl⟩) ⟨w_blW, va_recv hKc hPc (ci := 3) (q0 := 0) rfl rfl, fun U hU hW => ⟨rfl, by rw [hU], by rw [hU]; exact hPc, va_K.moved hW.alike hKc, hDc.weaken (fun _ _ _ _ => trivial)⟩⟩ rfl rfl hl.1 rfl (lv_room (Nat.le_of_ble_eq_true rfl)) dX5_sync_214 ⟨Nat.zero_le _, Nat.zero_le _⟩) hS (fun q _ h => hFc q h) hFc (fun _ _ t H76 locs76 ht hvm hw hB hz1 hk1 hS => ?_)
                    subst hw
                    refine W.widen (k := 0) (n := 0) (Nat.le_refl 0) (Nat.le_refl 0) ?_
                    obtain ⟨hP1, hD1⟩ := hB
                    rw [ht] at hP1
                    obtain ⟨hP, hD⟩ := va_join (wr := []) (w1 := (wM A_x A_da A_ma A_ha A_ho A_ti A_be A_te A_ch K_da K_ma K_ha K_ho K_ti K_be K_te K_ch f72 c_ma f73 c_ho c_ti c_be c_te f6 f74 f75 c_tm c_tc)) hP hD [0, 1, 2, 3, 4, 5, 6, 7, 8] [] rfl rfl (by decide) (by decide) hk1 hFc hP1 hD1
                    have hP : va_P (dC, dI) vwCl (wM A_x A_da A_ma A_ha A_ho A_ti A_be A_te A_ch K_da K_ma K_ha K_ho K_ti K_be K_te K_ch f72 c_ma f73 c_ho c_ti c_be c_te f6 f74 f75 c_tm c_tc) H76 := hP.sub [0, 1, 2, 3, 4, 5, 6, 7, 8] rfl
                    have hD : va_D A (wM A_x A_da A_ma A_ha A_ho A_ti A_be A_te A_ch K_da K_ma K_ha K_ho K_ti K_be K_te K_ch f72 c_ma f73 c_ho c_ti c_be c_te f6 f74 f75 c_tm c_tc) := hD.sub [0, 1, 2, 3, 4, 5, 6, 7, 8] (by decide) rfl
                    refine lv_istore_n (lv' := [(3, .int x71), (0, .ref A_x), (1, .int z5), (4, .int y55)]) hx hb dX5_sync_217 rfl hl (by decide) rfl (fun ls hl => ?_)
                    refine lv_iinc (v := (y55 + (1 : Int32))) (lv' := [(4, .int (y55 + (1 : Int32))), (3, .int x71), (0, .ref A_x), (1, .int z5)]) hx hb dX5_sync_218 hl (k := 3) rfl rfl (by decide) rfl (fun ls hl => ?_)
                    refine lv_goto (tgt := 184) hx hb dX5_sync_221 (by decide) ?_
                    cases hm
                    exact ih _ _ _ _ _ _ hy _ _ hP hD hS _ (lv_sub hl [2, 3, 1, 0] rfl)
            exact hL65 _ _ _ _ _ _ _ hlp _ _ hP hD hS _ (lv_sub hl [2, 3, 1, 0] rfl)
          have hm := hreg
          refine lv_if_eq (tgt := 179) hx hb dX5_sync_152 (by decide) (fun c85 => ?_) (fun c85 => ?_)
          · have hm := g_t c85 hm
            refine lv_iconst (v := 0) hx hb dX5_sync_179 (by decide) ?_
            exact hJ53 _ _ _ _ _ (Option.some.inj hm) _ _ hP hD hS _ (lv_sub hl [0, 1] rfl)
          · have hm := g_f c85 hm
            refine lv_aload_n hx hb dX5_sync_155 rfl (lv_at hl 0 rfl) ?_
            refine lv_bipush (v := 111) hx hb dX5_sync_156 (by decide) ?_
            refine lv_iload_n hx hb dX5_sync_158 rfl (lv_at hl 2 rfl) ?_
            obtain ⟨⟨x86, f87, f88, f89, f90⟩, ex, hm⟩ := g_bind hm
            have hm := g_k5_s hm
            have hPc := hP.sub (ws' := (wM A_x A_da A_ma A_ha A_ho A_ti A_be A_te A_ch K_da K_ma K_ha K_ho K_ti K_be K_te K_ch f24 c_ma f25 c_ho c_ti c_be c_te f6 f26 f27 c_tm c_tc)) [0, 1, 2, 3, 4, 5, 6, 7, 8] rfl
            have hDc := hD.sub (ws' := (wM A_x A_da A_ma A_ha A_ho A_ti A_be A_te A_ch K_da K_ma K_ha K_ho K_ti K_be K_te K_ch f24 c_ma f25 c_ho c_ti c_be c_te f6 f26 f27 c_tm c_tc)) [0, 1, 2, 3, 4, 5, 6, 7, 8] (by decide) rfl
            have hKc := hK.sub (tys' := (tM K_da K_ma K_ha K_ho K_ti K_be K_te K_ch)) [0, 1, 2, 3, 4, 5, 6, 7] rfl
            have hFc := va_free (wc := (wM A_x A_da A_ma A_ha A_ho A_ti A_be A_te A_ch K_da K_ma K_ha K_ho K_ti K_be K_te K_ch f24 c_ma f25 c_ho c_ti c_be c_te f6 f26 f27 c_tm c_tc)) hD hS hA [0, 1, 2, 3, 4, 5, 6, 7, 8] rfl
            refine va_calli (va_runV (As := [.int (111 : Int32), .int z22]) (rest := []) ⟨hx, hb, hml, hown, hts⟩ (k_X5_put l dC dI A_x A_da A_ma A_ha A_ho A_ti A_be A_te A_ch K_da K_ma K_ha K_ho K_ti K_be K_te K_ch f24 c_ma f25 c_ho c_ti c_be c_te f6 f26 f27 c_tm c_tc H28e.size (111 : Int32) z22 _ _ _ _ _ ex) (cwV 2 hts gX5_sync_X5_put rfl rfl rfl (by decide +kernel) ⟨Nat.le_of_ble_eq_true rfl, Nat.le_of_ble_eq_true rfl⟩) ⟨w_blW, va_recv hKc hPc (ci := 3) (q0 := 0) rfl rfl, fun U hU hW => ⟨rfl, by rw [hU], by rw [hU]; exact hPc, va_K.moved hW.alike hKc, hDc.weaken (fun _ _ _ _ => trivial)⟩⟩ rfl rfl hl.1 rfl (lv_room (Nat.le_of_ble_eq_true rfl)) dX5_sync_159 ⟨Nat.zero_le _, Nat.zero_le _⟩) hS (fun q _ h => hFc q h) hFc (fun _ _ t H91 locs91 ht hvm hw hB hz1 hk1 hS => ?_)
            subst hw
            refine W.widen (k := 0) (n := 0) (Nat.le_refl 0) (Nat.le_refl 0) ?_
            obtain ⟨hP1, hD1⟩ := hB
            rw [ht] at hP1
            obtain ⟨hP, hD⟩ := va_join (wr := []) (w1 := (wM A_x A_da A_ma A_ha A_ho A_ti A_be A_te A_ch K_da K_ma K_ha K_ho K_ti K_be K_te K_ch f87 c_ma f88 c_ho c_ti c_be c_te f6 f89 f90 c_tm c_tc)) hP hD [0, 1, 2, 3, 4, 5, 6, 7, 8] [] rfl rfl (by decide) (by decide) hk1 hFc hP1 hD1
            have hP : va_P (dC, dI) vwCl (wM A_x A_da A_ma A_ha A_ho A_ti A_be A_te A_ch K_da K_ma K_ha K_ho K_ti K_be K_te K_ch f87 c_ma f88 c_ho c_ti c_be c_te f6 f89 f90 c_tm c_tc) H91 := hP.sub [0, 1, 2, 3, 4, 5, 6, 7, 8] rfl
            have hD : va_D A (wM A_x A_da A_ma A_ha A_ho A_ti A_be A_te A_ch K_da K_ma K_ha K_ho K_ti K_be K_te K_ch f87 c_ma f88 c_ho c_ti c_be c_te f6 f89 f90 c_tm c_tc) := hD.sub [0, 1, 2, 3, 4, 5, 6, 7, 8] (by decide) rfl
            refine lv_if_eq (tgt := 179) hx hb dX5_sync_162 (by decide) (fun c92 => ?_) (fun c92 => ?_)
            · have hm := g_t c92 hm
              refine lv_iconst (v := 0) hx hb dX5_sync_179 (by decide) ?_
              exact hJ53 _ _ _ _ _ (Option.some.inj hm) _ _ hP hD hS _ (lv_sub hl [0, 1] rfl)
            · have hm := g_f c92 hm
              refine lv_aload_n hx hb dX5_sync_165 rfl (lv_at hl 0 rfl) ?_
              refine lv_bipush (v := 110) hx hb dX5_sync_166 (by decide) ?_
              refine lv_iload_n hx hb dX5_sync_168 rfl (lv_at hl 1 rfl) ?_
              obtain ⟨⟨x93, f94, f95, f96, f97⟩, ex, hm⟩ := g_bind hm
              have hm := g_k5_s hm
              have hPc := hP.sub (ws' := (wM A_x A_da A_ma A_ha A_ho A_ti A_be A_te A_ch K_da K_ma K_ha K_ho K_ti K_be K_te K_ch f87 c_ma f88 c_ho c_ti c_be c_te f6 f89 f90 c_tm c_tc)) [0, 1, 2, 3, 4, 5, 6, 7, 8] rfl
              have hDc := hD.sub (ws' := (wM A_x A_da A_ma A_ha A_ho A_ti A_be A_te A_ch K_da K_ma K_ha K_ho K_ti K_be K_te K_ch f87 c_ma f88 c_ho c_ti c_be c_te f6 f89 f90 c_tm c_tc)) [0, 1, 2, 3, 4, 5, 6, 7, 8] (by decide) rfl
              have hKc := hK.sub (tys' := (tM K_da K_ma K_ha K_ho K_ti K_be K_te K_ch)) [0, 1, 2, 3, 4, 5, 6, 7] rfl
              have hFc := va_free (wc := (wM A_x A_da A_ma A_ha A_ho A_ti A_be A_te A_ch K_da K_ma K_ha K_ho K_ti K_be K_te K_ch f87 c_ma f88 c_ho c_ti c_be c_te f6 f89 f90 c_tm c_tc)) hD hS hA [0, 1, 2, 3, 4, 5, 6, 7, 8] rfl
              refine va_calli (va_runV (As := [.int (110 : Int32), .int z5]) (rest := []) ⟨hx, hb, hml, hown, hts⟩ (k_X5_put l dC dI A_x A_da A_ma A_ha A_ho A_ti A_be A_te A_ch K_da K_ma K_ha K_ho K_ti K_be K_te K_ch f87 c_ma f88 c_ho c_ti c_be c_te f6 f89 f90 c_tm c_tc H91.size (110 : Int32) z5 _ _ _ _ _ ex) (cwV 2 hts gX5_sync_X5_put rfl rfl rfl (by decide +kernel) ⟨Nat.le_of_ble_eq_true rfl, Nat.le_of_ble_eq_true rfl⟩) ⟨w_blW, va_recv hKc hPc (ci := 3) (q0 := 0) rfl rfl, fun U hU hW => ⟨rfl, by rw [hU], by rw [hU]; exact hPc, va_K.moved hW.alike hKc, hDc.weaken (fun _ _ _ _ => trivial)⟩⟩ rfl rfl hl.1 rfl (lv_room (Nat.le_of_ble_eq_true rfl)) dX5_sync_169 ⟨Nat.zero_le _, Nat.zero_le _⟩) hS (fun q _ h => hFc q h) hFc (fun _ _ t H98 locs98 ht hvm hw hB hz1 hk1 hS => ?_)
              subst hw
              refine W.widen (k := 0) (n := 0) (Nat.le_refl 0) (Nat.le_refl 0) ?_
              obtain ⟨hP1, hD1⟩ := hB
              rw [ht] at hP1
              obtain ⟨hP, hD⟩ := va_join (wr := []) (w1 := (wM A_x A_da A_ma A_ha A_ho A_ti A_be A_te A_ch K_da K_ma K_ha K_ho K_ti K_be K_te K_ch f94 c_ma f95 c_ho c_ti c_be c_te f6 f96 f97 c_tm c_tc)) hP hD [0, 1, 2, 3, 4, 5, 6, 7, 8] [] rfl rfl (by decide) (by decide) hk1 hFc hP1 hD1
              have hP : va_P (dC, dI) vwCl (wM A_x A_da A_ma A_ha A_ho A_ti A_be A_te A_ch K_da K_ma K_ha K_ho K_ti K_be K_te K_ch f94 c_ma f95 c_ho c_ti c_be c_te f6 f96 f97 c_tm c_tc) H98 := hP.sub [0, 1, 2, 3, 4, 5, 6, 7, 8] rfl
              have hD : va_D A (wM A_x A_da A_ma A_ha A_ho A_ti A_be A_te A_ch K_da K_ma K_ha K_ho K_ti K_be K_te K_ch f94 c_ma f95 c_ho c_ti c_be c_te f6 f96 f97 c_tm c_tc) := hD.sub [0, 1, 2, 3, 4, 5, 6, 7, 8] (by decide) rfl
              refine lv_if_eq (tgt := 179) hx hb dX5_sync_172 (by decide) (fun c99 => ?_) (fun c99 => ?_)
              · have hm := g_t c99 hm
                refine lv_iconst (v := 0) hx hb dX5_sync_179 (by decide) ?_
                exact hJ53 _ _ _ _ _ (Option.some.inj hm) _ _ hP hD hS _ (lv_sub hl [0, 1] rfl)
              · have hm := g_f c99 hm
                refine lv_iconst (v := 1) hx hb dX5_sync_175 (by decide) ?_
                refine lv_goto (tgt := 180) hx hb dX5_sync_176 (by decide) ?_
                exact hJ53 _ _ _ _ _ (Option.some.inj hm) _ _ hP hD hS _ (lv_sub hl [0, 1] rfl)
        have hL28 : ∀ (n : Nat) (y15 : Int32) (y16 : Int32) (y17 : Int32) (f18 : (Nat → Int32)) (f19 : (Nat → Int32)) (f20 : Int32) (f21 : Int32), g_loop (fun q => m_X5_sync_L64 c_ma z5 f6 q.1 q.2.1 q.2.2.1 q.2.2.2.1 q.2.2.2.2.1 q.2.2.2.2.2.1 q.2.2.2.2.2.2) n (y15, y16, y17, f18, f19, f20, f21) = some rl28 → ∀ (H28b : Heap) (locs28b : List Loc), va_P (dC, dI) vwCl (wM A_x A_da A_ma A_ha A_ho A_ti A_be A_te A_ch K_da K_ma K_ha K_ho K_ti K_be K_te K_ch f18 c_ma f19 c_ho c_ti c_be c_te f6 f20 f21 c_tm c_tc) H28b → va_D A (wM A_x A_da A_ma A_ha A_ho A_ti A_be A_te A_ch K_da K_ma K_ha K_ho K_ti K_be K_te K_ch f18 c_ma f19 c_ho c_ti c_be c_te f6 f20 f21 c_tm c_tc) → va_S A s.heap H28b locs28b → ∀ (ls : Array Slot), lv_has ls 6 [(0, .ref A_x), (1, .int z5), (2, .int y15), (3, .int y16), (4, .int y17)] → W p l e (headSpec wsX5_sync rm_X5_sync).room s m (([.ref A_x] : List Value).toArray) below meth c H28b locs28b 0 0 Q (F0 m 64 ls []) := by
          intro n
          induction n with
          | zero =>
            intro y15 y16 y17 f18 f19 f20 f21 hm
            exact g_loop_z hm
          | succ n ih =>
            intro y15 y16 y17 f18 f19 f20 f21 hm H28b locs28b hP hD hS ls hl
            obtain ⟨q, hm, hy⟩ := g_loop_s hm
            have hm : m_X5_sync_L64 c_ma z5 f6 y15 y16 y17 f18 f19 f20 f21 = some q := hm
            unfold m_X5_sync_L64 at hm
            refine lv_iload hx hb dX5_sync_64 (lv_at hl 4 rfl) ?_
            refine lv_iload_n hx hb dX5_sync_66 rfl (lv_at hl 1 rfl) ?_
            refine lv_icmp_ge (tgt := 151) hx hb dX5_sync_67 (by decide) (fun c29 => ?_) (fun c29 => ?_)
            · have hm := g_t c29 hm
              cases hm
              exact hE28 _ _ _ _ _ _ hy _ _ hP hD hS _ (lv_sub hl [0, 1, 2, 3] rfl)
            · have hm := g_f c29 hm
              refine lv_iload_n hx hb dX5_sync_70 rfl (lv_at hl 3 rfl) ?_
              refine lv_if_eq (tgt := 151) hx hb dX5_sync_71 (by decide) (fun c30 => ?_) (fun c30 => ?_)
              · have hm := g_t c30 hm
                cases hm
                exact hE28 _ _ _ _ _ _ hy _ _ hP hD hS _ (lv_sub hl [0, 1, 2, 3] rfl)
              · have hm := g_f c30 hm
                refine lv_aload_n hx hb dX5_sync_74 rfl (lv_at hl 0 rfl) ?_
                refine va_get (D := (dC, dI)) (ci := 3) (v := .ref A_ch) (C := RX5) (T := TX5) (N := 12) hx hb hts hi_X5_sync_X5 hown hK hP 0 rfl rfl 11 (by decide) (hts (Cond.fieldLink RX5 32 "BuddyFilesModel" "changed" "[I") hk_X5_sync_32) (fun _ h9 => h9) rfl dX5_sync_75 ?_
                refine lv_iload hx hb dX5_sync_78 (lv_at hl 4 rfl) ?_
                obtain ⟨x31, ex, hm⟩ := g_bind hm
                refine w_ald hx hb hK hP 8 7 rfl rfl ex dX5_sync_80 ?_
                refine lv_istore (lv' := [(5, .int x31), (0, .ref A_x), (1, .int z5), (2, .int y15), (3, .int y16), (4, .int y17)]) hx hb dX5_sync_81 hl (by decide) rfl (fun ls hl => ?_)
                refine lv_iload_n hx hb dX5_sync_83 rfl (lv_at hl 3 rfl) ?_
                refine lv_bipush (v := 31) hx hb dX5_sync_84 (by decide) ?_
                refine lv_imul hx hb dX5_sync_86 ?_
                refine lv_iload hx hb dX5_sync_87 (lv_at hl 0 rfl) ?_
                refine lv_iadd hx hb dX5_sync_89 ?_
                refine lv_bipush (v := 31) hx hb dX5_sync_90 (by decide) ?_
                refine lv_imul hx hb dX5_sync_92 ?_
                refine lv_aload_n hx hb dX5_sync_93 rfl (lv_at hl 1 rfl) ?_
                refine va_get (D := (dC, dI)) (ci := 3) (v := .ref A_ma) (C := RX5) (T := TX5) (N := 12) hx hb hts hi_X5_sync_X5 hown hK hP 0 rfl rfl 3 (by decide) (hts (Cond.fieldLink RX5 13 "BuddyFilesModel" "mem" "[I") hk_X5_sync_13) (fun _ h9 => h9) rfl dX5_sync_94 ?_
                refine lv_iload hx hb dX5_sync_97 (lv_at hl 0 rfl) ?_
                obtain ⟨x32, ex, hm⟩ := g_bind hm
                refine w_ald hx hb hK hP 2 1 rfl rfl ex dX5_sync_99 ?_
                refine lv_iadd hx hb dX5_sync_100 ?_
                refine lv_istore_n (lv' := [(2, .int ((((y15 * (31 : Int32)) + x31) * (31 : Int32)) + x32)), (5, .int x31), (0, .ref A_x), (1, .int z5), (3, .int y16), (4, .int y17)]) hx hb dX5_sync_101 rfl hl (by decide) rfl (fun ls hl => ?_)
                refine lv_aload_n hx hb dX5_sync_102 rfl (lv_at hl 2 rfl) ?_
                refine lv_bipush (v := 112) hx hb dX5_sync_103 (by decide) ?_
                refine lv_iconst (v := 2) hx hb dX5_sync_105 (by decide) ?_
                refine lv_iload hx hb dX5_sync_106 (lv_at hl 5 rfl) ?_
                refine lv_imul hx hb dX5_sync_108 ?_
                refine lv_iadd hx hb dX5_sync_109 ?_
                refine lv_iload hx hb dX5_sync_110 (lv_at hl 1 rfl) ?_
                obtain ⟨⟨x33, f34, f35, f36, f37⟩, ex, hm⟩ := g_bind hm
                have hm := g_k5_s hm
                have hPc := hP.sub (ws' := (wM A_x A_da A_ma A_ha A_ho A_ti A_be A_te A_ch K_da K_ma K_ha K_ho K_ti K_be K_te K_ch f18 c_ma f19 c_ho c_ti c_be c_te f6 f20 f21 c_tm c_tc)) [0, 1, 2, 3, 4, 5, 6, 7, 8] rfl
                have hDc := hD.sub (ws' := (wM A_x A_da A_ma A_ha A_ho A_ti A_be A_te A_ch K_da K_ma K_ha K_ho K_ti K_be K_te K_ch f18 c_ma f19 c_ho c_ti c_be c_te f6 f20 f21 c_tm c_tc)) [0, 1, 2, 3, 4, 5, 6, 7, 8] (by decide) rfl
                have hKc := hK.sub (tys' := (tM K_da K_ma K_ha K_ho K_ti K_be K_te K_ch)) [0, 1, 2, 3, 4, 5, 6, 7] rfl
                have hFc := va_free (wc := (wM A_x A_da A_ma A_ha A_ho A_ti A_be A_te A_ch K_da K_ma K_ha K_ho K_ti K_be K_te K_ch f18 c_ma f19 c_ho c_ti c_be c_te f6 f20 f21 c_tm c_tc)) hD hS hA [0, 1, 2, 3, 4, 5, 6, 7, 8] rfl
                refine va_calli (va_runV (As := [.int ((112 : Int32) + ((2 : Int32) * y17)), .int x31]) (rest := []) ⟨hx, hb, hml, hown, hts⟩ (k_X5_put l dC dI A_x A_da A_ma A_ha A_ho A_ti A_be A_te A_ch K_da K_ma K_ha K_ho K_ti K_be K_te K_ch f18 c_ma f19 c_ho c_ti c_be c_te f6 f20 f21 c_tm c_tc H28b.size ((112 : Int32) + ((2 : Int32) * y17)) x31 _ _ _ _ _ ex) (cwV 2 hts gX5_sync_X5_put rfl rfl rfl (by decide +kernel) ⟨Nat.le_of_ble_eq_true rfl, Nat.le_of_ble_eq_true rfl⟩) ⟨w_blW, va_recv hKc hPc (ci := 3) (q0 := 0) rfl rfl, fun U hU hW => ⟨rfl, by rw [hU], by rw [hU]; exact hPc, va_K.moved hW.alike hKc, hDc.weaken (fun _ _ _ _ => trivial)⟩⟩ rfl rfl hl.1 rfl (lv_room (Nat.le_of_ble_eq_true rfl)) dX5_sync_112 ⟨Nat.zero_le _, Nat.zero_le _⟩) hS (fun q _ h => hFc q h) hFc (fun _ _ t H38 locs38 ht hvm hw hB hz1 hk1 hS => ?_)
                subst hw
                refine W.widen (k := 0) (n := 0) (Nat.le_refl 0) (Nat.le_refl 0) ?_
                obtain ⟨hP1, hD1⟩ := hB
                rw [ht] at hP1
                obtain ⟨hP, hD⟩ := va_join (wr := []) (w1 := (wM A_x A_da A_ma A_ha A_ho A_ti A_be A_te A_ch K_da K_ma K_ha K_ho K_ti K_be K_te K_ch f34 c_ma f35 c_ho c_ti c_be c_te f6 f36 f37 c_tm c_tc)) hP hD [0, 1, 2, 3, 4, 5, 6, 7, 8] [] rfl rfl (by decide) (by decide) hk1 hFc hP1 hD1
                have hP : va_P (dC, dI) vwCl (wM A_x A_da A_ma A_ha A_ho A_ti A_be A_te A_ch K_da K_ma K_ha K_ho K_ti K_be K_te K_ch f34 c_ma f35 c_ho c_ti c_be c_te f6 f36 f37 c_tm c_tc) H38 := hP.sub [0, 1, 2, 3, 4, 5, 6, 7, 8] rfl
                have hD : va_D A (wM A_x A_da A_ma A_ha A_ho A_ti A_be A_te A_ch K_da K_ma K_ha K_ho K_ti K_be K_te K_ch f34 c_ma f35 c_ho c_ti c_be c_te f6 f36 f37 c_tm c_tc) := hD.sub [0, 1, 2, 3, 4, 5, 6, 7, 8] (by decide) rfl
                refine lv_if_eq (tgt := 143) hx hb dX5_sync_115 (by decide) (fun c39 => ?_) (fun c39 => ?_)
                · have hm := g_t c39 hm
                  refine lv_iconst (v := 0) hx hb dX5_sync_143 (by decide) ?_
                  refine lv_istore_n (lv' := [(3, .int (0 : Int32)), (2, .int ((((y15 * (31 : Int32)) + x31) * (31 : Int32)) + x32)), (5, .int x31), (0, .ref A_x), (1, .int z5), (4, .int y17)]) hx hb dX5_sync_144 rfl hl (by decide) rfl (fun ls hl => ?_)
                  refine lv_iinc (v := (y17 + (1 : Int32))) (lv' := [(4, .int (y17 + (1 : Int32))), (3, .int (0 : Int32)), (2, .int ((((y15 * (31 : Int32)) + x31) * (31 : Int32)) + x32)), (5, .int x31), (0, .ref A_x), (1, .int z5)]) hx hb dX5_sync_145 hl (k := 5) rfl rfl (by decide) rfl (fun ls hl => ?_)
                  refine lv_goto (tgt := 64) hx hb dX5_sync_148 (by decide) ?_
                  cases hm
                  exact ih _ _ _ _ _ _ _ hy _ _ hP hD hS _ (lv_sub hl [4, 5, 2, 1, 0] rfl)
                · have hm := g_f c39 hm
                  refine lv_aload_n hx hb dX5_sync_118 rfl (lv_at hl 2 rfl) ?_
                  refine lv_bipush (v := 113) hx hb dX5_sync_119 (by decide) ?_
                  refine lv_iconst (v := 2) hx hb dX5_sync_121 (by decide) ?_
                  refine lv_iload hx hb dX5_sync_122 (lv_at hl 5 rfl) ?_
                  refine lv_imul hx hb dX5_sync_124 ?_
                  refine lv_iadd hx hb dX5_sync_125 ?_
                  refine lv_aload_n hx hb dX5_sync_126 rfl (lv_at hl 2 rfl) ?_
                  refine va_get (D := (dC, dI)) (ci := 3) (v := .ref A_ma) (C := RX5) (T := TX5) (N := 12) hx hb hts hi_X5_sync_X5 hown hK hP 0 rfl rfl 3 (by decide) (hts (Cond.fieldLink RX5 13 "BuddyFilesModel" "mem" "[I") hk_X5_sync_13) (fun _ h9 => h9) rfl dX5_sync_127 ?_
                  refine lv_iload hx hb dX5_sync_130 (lv_at hl 1 rfl) ?_
                  obtain ⟨x40, ex, hm⟩ := g_bind hm
                  refine w_ald hx hb hK hP 2 1 rfl rfl ex dX5_sync_132 ?_
                  obtain ⟨⟨x41, f42, f43, f44, f45⟩, ex, hm⟩ := g_bind hm
                  have hm := g_k5_s hm
                  have hPc := hP.sub (ws' := (wM A_x A_da A_ma A_ha A_ho A_ti A_be A_te A_ch K_da K_ma K_ha K_ho K_ti K_be K_te K_ch f34 c_ma f35 c_ho c_ti c_be c_te f6 f36 f37 c_tm c_tc)) [0, 1, 2, 3, 4, 5, 6, 7, 8] rfl
                  have hDc := hD.sub (ws' := (wM A_x A_da A_ma A_ha A_ho A_ti A_be A_te A_ch K_da K_ma K_ha K_ho K_ti K_be K_te K_ch f34 c_ma f35 c_ho c_ti c_be c_te f6 f36 f37 c_tm c_tc)) [0, 1, 2, 3, 4, 5, 6, 7, 8] (by decide) rfl
                  have hKc := hK.sub (tys' := (tM K_da K_ma K_ha K_ho K_ti K_be K_te K_ch)) [0, 1, 2, 3, 4, 5, 6, 7] rfl
                  have hFc := va_free (wc := (wM A_x A_da A_ma A_ha A_ho A_ti A_be A_te A_ch K_da K_ma K_ha K_ho K_ti K_be K_te K_ch f34 c_ma f35 c_ho c_ti c_be c_te f6 f36 f37 c_tm c_tc)) hD hS hA [0, 1, 2, 3, 4, 5, 6, 7, 8] rfl
                  refine va_calli (va_runV (As := [.int ((113 : Int32) + ((2 : Int32) * y17)), .int x40]) (rest := []) ⟨hx, hb, hml, hown, hts⟩ (k_X5_put l dC dI A_x A_da A_ma A_ha A_ho A_ti A_be A_te A_ch K_da K_ma K_ha K_ho K_ti K_be K_te K_ch f34 c_ma f35 c_ho c_ti c_be c_te f6 f36 f37 c_tm c_tc H38.size ((113 : Int32) + ((2 : Int32) * y17)) x40 _ _ _ _ _ ex) (cwV 2 hts gX5_sync_X5_put rfl rfl rfl (by decide +kernel) ⟨Nat.le_of_ble_eq_true rfl, Nat.le_of_ble_eq_true rfl⟩) ⟨w_blW, va_recv hKc hPc (ci := 3) (q0 := 0) rfl rfl, fun U hU hW => ⟨rfl, by rw [hU], by rw [hU]; exact hPc, va_K.moved hW.alike hKc, hDc.weaken (fun _ _ _ _ => trivial)⟩⟩ rfl rfl hl.1 rfl (lv_room (Nat.le_of_ble_eq_true rfl)) dX5_sync_133 ⟨Nat.zero_le _, Nat.zero_le _⟩) hS (fun q _ h => hFc q h) hFc (fun _ _ t H46 locs46 ht hvm hw hB hz1 hk1 hS => ?_)
                  subst hw
                  refine W.widen (k := 0) (n := 0) (Nat.le_refl 0) (Nat.le_refl 0) ?_
                  obtain ⟨hP1, hD1⟩ := hB
                  rw [ht] at hP1
                  obtain ⟨hP, hD⟩ := va_join (wr := []) (w1 := (wM A_x A_da A_ma A_ha A_ho A_ti A_be A_te A_ch K_da K_ma K_ha K_ho K_ti K_be K_te K_ch f42 c_ma f43 c_ho c_ti c_be c_te f6 f44 f45 c_tm c_tc)) hP hD [0, 1, 2, 3, 4, 5, 6, 7, 8] [] rfl rfl (by decide) (by decide) hk1 hFc hP1 hD1
                  have hP : va_P (dC, dI) vwCl (wM A_x A_da A_ma A_ha A_ho A_ti A_be A_te A_ch K_da K_ma K_ha K_ho K_ti K_be K_te K_ch f42 c_ma f43 c_ho c_ti c_be c_te f6 f44 f45 c_tm c_tc) H46 := hP.sub [0, 1, 2, 3, 4, 5, 6, 7, 8] rfl
                  have hD : va_D A (wM A_x A_da A_ma A_ha A_ho A_ti A_be A_te A_ch K_da K_ma K_ha K_ho K_ti K_be K_te K_ch f42 c_ma f43 c_ho c_ti c_be c_te f6 f44 f45 c_tm c_tc) := hD.sub [0, 1, 2, 3, 4, 5, 6, 7, 8] (by decide) rfl
                  refine lv_if_eq (tgt := 143) hx hb dX5_sync_136 (by decide) (fun c47 => ?_) (fun c47 => ?_)
                  · have hm := g_t c47 hm
                    refine lv_iconst (v := 0) hx hb dX5_sync_143 (by decide) ?_
                    refine lv_istore_n (lv' := [(3, .int (0 : Int32)), (2, .int ((((y15 * (31 : Int32)) + x31) * (31 : Int32)) + x32)), (5, .int x31), (0, .ref A_x), (1, .int z5), (4, .int y17)]) hx hb dX5_sync_144 rfl hl (by decide) rfl (fun ls hl => ?_)
                    refine lv_iinc (v := (y17 + (1 : Int32))) (lv' := [(4, .int (y17 + (1 : Int32))), (3, .int (0 : Int32)), (2, .int ((((y15 * (31 : Int32)) + x31) * (31 : Int32)) + x32)), (5, .int x31), (0, .ref A_x), (1, .int z5)]) hx hb dX5_sync_145 hl (k := 5) rfl rfl (by decide) rfl (fun ls hl => ?_)
                    refine lv_goto (tgt := 64) hx hb dX5_sync_148 (by decide) ?_
                    cases hm
                    exact ih _ _ _ _ _ _ _ hy _ _ hP hD hS _ (lv_sub hl [4, 5, 2, 1, 0] rfl)
                  · have hm := g_f c47 hm
                    refine lv_iconst (v := 1) hx hb dX5_sync_139 (by decide) ?_
                    refine lv_goto (tgt := 144) hx hb dX5_sync_140 (by decide) ?_
                    refine lv_istore_n (lv' := [(3, .int (1 : Int32)), (2, .int ((((y15 * (31 : Int32)) + x31) * (31 : Int32)) + x32)), (5, .int x31), (0, .ref A_x), (1, .int z5), (4, .int y17)]) hx hb dX5_sync_144 rfl hl (by decide) rfl (fun ls hl => ?_)
                    refine lv_iinc (v := (y17 + (1 : Int32))) (lv' := [(4, .int (y17 + (1 : Int32))), (3, .int (1 : Int32)), (2, .int ((((y15 * (31 : Int32)) + x31) * (31 : Int32)) + x32)), (5, .int x31), (0, .ref A_x), (1, .int z5)]) hx hb dX5_sync_145 hl (k := 5) rfl rfl (by decide) rfl (fun ls hl => ?_)
                    refine lv_goto (tgt := 64) hx hb dX5_sync_148 (by decide) ?_
                    cases hm
                    exact ih _ _ _ _ _ _ _ hy _ _ hP hD hS _ (lv_sub hl [4, 5, 2, 1, 0] rfl)
        exact hL28 _ _ _ _ _ _ _ _ hlp _ _ hP hD hS _ (lv_sub hl [3, 4, 2, 1, 0] rfl)
      · have hm := g_t c14 hm
        refine lv_iconst (v := 0) hx hb dX5_sync_55 (by decide) ?_
        cases hm
        subst hQ
        exact W.iret hx hb hr (fun t ht hW => ⟨⟨_, (), rfl, rfl, by rw [ht]; exact hP, hD⟩, hS.F ht⟩) hS.2.2 dX5_sync_56
    have hL7 : ∀ (n : Nat) (y2 : Int32) (y3 : Int32) (f4 : (Nat → Int32)), g_loop (fun q => m_X5_sync_L14 c_da c_ma q.1 q.2.1 q.2.2) n (y2, y3, f4) = some rl7 → ∀ (H7b : Heap) (locs7b : List Loc), va_P (dC, dI) vwCl (wM A_x A_da A_ma A_ha A_ho A_ti A_be A_te A_ch K_da K_ma K_ha K_ho K_ti K_be K_te K_ch c_da c_ma c_ha c_ho c_ti c_be c_te f4 c_up c_fu c_tm c_tc) H7b → va_D A (wM A_x A_da A_ma A_ha A_ho A_ti A_be A_te A_ch K_da K_ma K_ha K_ho K_ti K_be K_te K_ch c_da c_ma c_ha c_ho c_ti c_be c_te f4 c_up c_fu c_tm c_tc) → va_S A s.heap H7b locs7b → ∀ (ls : Array Slot), lv_has ls 6 [(0, .ref A_x), (1, .int y2), (2, .int y3)] → W p l e (headSpec wsX5_sync rm_X5_sync).room s m (([.ref A_x] : List Value).toArray) below meth c H7b locs7b 0 0 Q (F0 m 14 ls []) := by
      intro n
      induction n with
      | zero =>
        intro y2 y3 f4 hm
        exact g_loop_z hm
      | succ n ih =>
        intro y2 y3 f4 hm H7b locs7b hP hD hS ls hl
        obtain ⟨q, hm, hy⟩ := g_loop_s hm
        have hm : m_X5_sync_L14 c_da c_ma y2 y3 f4 = some q := hm
        unfold m_X5_sync_L14 at hm
        refine lv_iload_n hx hb dX5_sync_14 rfl (lv_at hl 2 rfl) ?_
        refine lv_bipush (v := 110) hx hb dX5_sync_15 (by decide) ?_
        refine lv_icmp_ge (tgt := 51) hx hb dX5_sync_17 (by decide) (fun c8 => ?_) (fun c8 => ?_)
        · have hm := g_t c8 hm
          cases hm
          exact hE7 _ _ hy _ _ hP hD hS _ (lv_sub hl [0, 1] rfl)
        · have hm := g_f c8 hm
          refine lv_aload_n hx hb dX5_sync_20 rfl (lv_at hl 0 rfl) ?_
          refine va_get (D := (dC, dI)) (ci := 3) (v := .ref A_da) (C := RX5) (T := TX5) (N := 12) hx hb hts hi_X5_sync_X5 hown hK hP 0 rfl rfl 0 (by decide) (hts (Cond.fieldLink RX5 7 "BuddyFilesModel" "disk" "[I") hk_X5_sync_7) (fun _ h9 => h9) rfl dX5_sync_21 ?_
          refine lv_iload_n hx hb dX5_sync_24 rfl (lv_at hl 2 rfl) ?_
          obtain ⟨x9, ex, hm⟩ := g_bind hm
          refine w_ald hx hb hK hP 1 0 rfl rfl ex dX5_sync_25 ?_
          refine lv_aload_n hx hb dX5_sync_26 rfl (lv_at hl 0 rfl) ?_
          refine va_get (D := (dC, dI)) (ci := 3) (v := .ref A_ma) (C := RX5) (T := TX5) (N := 12) hx hb hts hi_X5_sync_X5 hown hK hP 0 rfl rfl 3 (by decide) (hts (Cond.fieldLink RX5 13 "BuddyFilesModel" "mem" "[I") hk_X5_sync_13) (fun _ h9 => h9) rfl dX5_sync_27 ?_
          refine lv_iload_n hx hb dX5_sync_30 rfl (lv_at hl 2 rfl) ?_
          obtain ⟨x10, ex, hm⟩ := g_bind hm
          refine w_ald hx hb hK hP 2 1 rfl rfl ex dX5_sync_31 ?_
          refine lv_icmp_eq (tgt := 45) hx hb dX5_sync_32 (by decide) (fun c11 => ?_) (fun c11 => ?_)
          · have hm := g_t c11 hm
            refine lv_iinc (v := (y3 + (1 : Int32))) (lv' := [(2, .int (y3 + (1 : Int32))), (0, .ref A_x), (1, .int y2)]) hx hb dX5_sync_45 hl (k := 2) rfl rfl (by decide) rfl (fun ls hl => ?_)
            refine lv_goto (tgt := 14) hx hb dX5_sync_48 (by decide) ?_
            cases hm
            exact ih _ _ _ hy _ _ hP hD hS _ (lv_sub hl [1, 2, 0] rfl)
          · have hm := g_f c11 hm
            refine lv_aload_n hx hb dX5_sync_35 rfl (lv_at hl 0 rfl) ?_
            refine va_get (D := (dC, dI)) (ci := 3) (v := .ref A_ch) (C := RX5) (T := TX5) (N := 12) hx hb hts hi_X5_sync_X5 hown hK hP 0 rfl rfl 11 (by decide) (hts (Cond.fieldLink RX5 32 "BuddyFilesModel" "changed" "[I") hk_X5_sync_32) (fun _ h9 => h9) rfl dX5_sync_36 ?_
            refine lv_iload_n hx hb dX5_sync_39 rfl (lv_at hl 1 rfl) ?_
            refine lv_iload_n hx hb dX5_sync_40 rfl (lv_at hl 2 rfl) ?_
            obtain ⟨f12, ex, hm⟩ := g_bind hm
            refine w_ast hx hb hK hP hD hS 8 7 rfl rfl ex dX5_sync_41 (fun H13 locs13 hP hD hS => ?_)
            have hP : va_P (dC, dI) vwCl (wM A_x A_da A_ma A_ha A_ho A_ti A_be A_te A_ch K_da K_ma K_ha K_ho K_ti K_be K_te K_ch c_da c_ma c_ha c_ho c_ti c_be c_te f12 c_up c_fu c_tm c_tc) H13 := hP
            have hD : va_D A (wM A_x A_da A_ma A_ha A_ho A_ti A_be A_te A_ch K_da K_ma K_ha K_ho K_ti K_be K_te K_ch c_da c_ma c_ha c_ho c_ti c_be c_te f12 c_up c_fu c_tm c_tc) := hD
            refine lv_iinc (v := (y2 + (1 : Int32))) (lv' := [(1, .int (y2 + (1 : Int32))), (0, .ref A_x), (2, .int y3)]) hx hb dX5_sync_42 hl (k := 1) rfl rfl (by decide) rfl (fun ls hl => ?_)
            refine lv_iinc (v := (y3 + (1 : Int32))) (lv' := [(2, .int (y3 + (1 : Int32))), (1, .int (y2 + (1 : Int32))), (0, .ref A_x)]) hx hb dX5_sync_45 hl (k := 2) rfl rfl (by decide) rfl (fun ls hl => ?_)
            refine lv_goto (tgt := 14) hx hb dX5_sync_48 (by decide) ?_
            cases hm
            exact ih _ _ _ hy _ _ hP hD hS _ (lv_sub hl [2, 1, 0] rfl)
    exact hL7 _ _ _ _ hlp _ _ hP hD hS _ (lv_sub hl [2, 1, 0] rfl)
  · have hm := g_t c1 hm
    refine lv_bipush (v := -11) hx hb dX5_sync_7 (by decide) ?_
    cases hm
    subst hQ
    exact W.iret hx hb hr (fun t ht hW => ⟨⟨_, (), rfl, rfl, by rw [ht]; exact hP, hD⟩, hS.F ht⟩) hS.2.2 dX5_sync_9
theorem hi_X5_crashAfter_X5 : ∀ w ∈ wsX50, w ∈ wsX5_crashAfter := by decide +kernel
theorem hk_X5_crashAfter_42 : Cond.fieldLink RX5 42 "BuddyFilesModel" "up" "Z" ∈ wsX5_crashAfter := by decide +kernel
theorem hk_X5_crashAfter_46 : Cond.fieldLink RX5 46 "BuddyFilesModel" "fuse" "I" ∈ wsX5_crashAfter := by decide +kernel
abbrev rm_X5_crashAfter : Room := { frames := 0, cells := 0, slots := 0, locals := 0 }
set_option maxHeartbeats 4000000 in
set_option maxRecDepth 100000 in
theorem k_X5_crashAfter (l : Launch) (dC : Nat → ClassId) (dI : Nat → Nat → Nat) (A_x A_da A_ma A_ha A_ho A_ti A_be A_te A_ch : Nat) (K_da K_ma K_ha K_ho K_ti K_be K_te K_ch : ClassId) (c_da c_ma c_ha c_ho c_ti c_be c_te c_ch : Nat → Int32) (c_up c_fu c_tm c_tc : Int32) (sz : Nat) (p1 : Int32) (r0 : Int32) (o_fu : Int32) (hm : m_X5_crashAfter c_up c_fu p1 = some (r0, o_fu)) : Met l yX5_crashAfter wsX5_crashAfter rm_X5_crashAfter (va_Pc [.ref A_x, .int p1] (fun U => U.heap.size = sz ∧ va_P (dC, dI) vwCl (wM A_x A_da A_ma A_ha A_ho A_ti A_be A_te A_ch K_da K_ma K_ha K_ho K_ti K_be K_te K_ch c_da c_ma c_ha c_ho c_ti c_be c_te c_ch c_up c_fu c_tm c_tc) U.heap ∧ va_K (dC, dI) vwCl (tM K_da K_ma K_ha K_ho K_ti K_be K_te K_ch) U ∧ va_D (fun _ => True) (wM A_x A_da A_ma A_ha A_ho A_ti A_be A_te A_ch K_da K_ma K_ha K_ho K_ti K_be K_te K_ch c_da c_ma c_ha c_ho c_ti c_be c_te c_ch c_up c_fu c_tm c_tc))) (va_Qi (fun (r : Int32) (_ : Unit) => r0 = r) (fun _ t => va_P (dC, dI) vwCl (wM A_x A_da A_ma A_ha A_ho A_ti A_be A_te A_ch K_da K_ma K_ha K_ho K_ti K_be K_te K_ch c_da c_ma c_ha c_ho c_ti c_be c_te c_ch c_up o_fu c_tm c_tc) t.heap ∧ va_D (va_A (wM A_x A_da A_ma A_ha A_ho A_ti A_be A_te A_ch K_da K_ma K_ha K_ho K_ti K_be K_te K_ch c_da c_ma c_ha c_ho c_ti c_be c_te c_ch c_up c_fu c_tm c_tc) sz) (wM A_x A_da A_ma A_ha A_ho A_ti A_be A_te A_ch K_da K_ma K_ha K_ho K_ti K_be K_te K_ch c_da c_ma c_ha c_ho c_ti c_be c_te c_ch c_up o_fu c_tm c_tc)) (va_A (wM A_x A_da A_ma A_ha A_ho A_ti A_be A_te A_ch K_da K_ma K_ha K_ho K_ti K_be K_te K_ch c_da c_ma c_ha c_ho c_ti c_be c_te c_ch c_up c_fu c_tm c_tc) sz)) 0 0 (va_A (wM A_x A_da A_ma A_ha A_ho A_ti A_be A_te A_ch K_da K_ma K_ha K_ho K_ti K_be K_te K_ch c_da c_ma c_ha c_ho c_ti c_be c_te c_ch c_up c_fu c_tm c_tc) sz) := by
  refine Met.ofW (cc := cX5_crashAfter) (maxL := 2) (ret := (some .boolean)) (by decide) rfl ?_
  intro p e s m args below meth c s₁ B hml hv
  obtain ⟨rfl, hsz, hP, hK, hD0⟩ := hv
  have hx := B.exec
  have hb := B.bytes
  have hr := B.returns
  have hts := atoms_spec (ws := wsX5_crashAfter) B.pre
  have hown : s.vm.findClass RX5 = some m.cls := findClass_of_methodNamed B.named
  have hlocks := B.notSynchronized
  subst hsz
  have hD := hD0.self (sz := s.heap.size)
  generalize hAe : va_A (wM A_x A_da A_ma A_ha A_ho A_ti A_be A_te A_ch K_da K_ma K_ha K_ho K_ti K_be K_te K_ch c_da c_ma c_ha c_ho c_ti c_be c_te c_ch c_up c_fu c_tm c_tc) s.heap.size = A at hD ⊢
  have hA : ∀ q : Nat, s.heap.size ≤ q → A q := fun q h => by rw [← hAe]; exact Or.inr h
  have hS : va_S A s.heap s.heap [] := va_S.rf
  have hP : va_P (dC, dI) vwCl (wM A_x A_da A_ma A_ha A_ho A_ti A_be A_te A_ch K_da K_ma K_ha K_ho K_ti K_be K_te K_ch c_da c_ma c_ha c_ho c_ti c_be c_te c_ch c_up c_fu c_tm c_tc) s.heap := hP
  have hl := lv_entry ([.ref A_x, .int p1]) (n := 2) (Nat.le_of_ble_eq_true rfl)
  rw [lg_entry_eq]
  generalize (lg_sl ([.ref A_x, .int p1]) ++ List.replicate (2 - (lg_sl ([.ref A_x, .int p1])).length) Slot.unset).toArray = ls at hl ⊢
  have hl : lv_has ls 2 [(0, .ref A_x), (1, .int p1)] := hl
  refine w_name (fun Q hQ => ?_)
  unfold m_X5_crashAfter at hm
  refine lv_aload_n hx hb dX5_crashAfter_0 rfl (lv_at hl 0 rfl) ?_
  refine va_get (D := (dC, dI)) (ci := 3) (v := .int c_up) (C := RX5) (T := TX5) (N := 12) hx hb hts hi_X5_crashAfter_X5 hown hK hP 0 rfl rfl 1 (by decide) (hts (Cond.fieldLink RX5 42 "BuddyFilesModel" "up" "Z") hk_X5_crashAfter_42) (fun _ h9 => h9) rfl dX5_crashAfter_1 ?_
  refine lv_if_eq (tgt := 12) hx hb dX5_crashAfter_4 (by decide) (fun c1 => ?_) (fun c1 => ?_)
  · have hm := g_t c1 hm
    refine lv_iconst (v := 0) hx hb dX5_crashAfter_12 (by decide) ?_
    cases hm
    subst hQ
    exact W.zret hx hb hr rfl (fun t ht hW => ⟨⟨_, (), rfl, rfl, by rw [ht]; exact hP, hD⟩, hS.F ht⟩) hS.2.2 dX5_crashAfter_13
  · have hm := g_f c1 hm
    refine lv_iload_n hx hb dX5_crashAfter_7 rfl (lv_at hl 1 rfl) ?_
    refine lv_iconst (v := -1) hx hb dX5_crashAfter_8 (by decide) ?_
    refine lv_icmp_ge (tgt := 14) hx hb dX5_crashAfter_9 (by decide) (fun c2 => ?_) (fun c2 => ?_)
    · have hm := g_t c2 hm
      refine lv_aload_n hx hb dX5_crashAfter_14 rfl (lv_at hl 0 rfl) ?_
      refine lv_iload_n hx hb dX5_crashAfter_15 rfl (lv_at hl 1 rfl) ?_
      refine va_put (D := (dC, dI)) (ci := 3) (v := .int p1) (ty := .int) (C := RX5) (T := TX5) (N := 12) hx hb hts hi_X5_crashAfter_X5 tyX5 tyX5_ok nmX5 hown hK hP hD hS 0 rfl rfl 2 (by decide) (hts (Cond.fieldLink RX5 46 "BuddyFilesModel" "fuse" "I") hk_X5_crashAfter_46) (fun _ h9 => h9) rfl (by decide +kernel) rfl rfl (Nat.le_of_ble_eq_true rfl) dX5_crashAfter_16 (fun H3 locs3 hP hD hS => ?_)
      have hP : va_P (dC, dI) vwCl (wM A_x A_da A_ma A_ha A_ho A_ti A_be A_te A_ch K_da K_ma K_ha K_ho K_ti K_be K_te K_ch c_da c_ma c_ha c_ho c_ti c_be c_te c_ch c_up p1 c_tm c_tc) H3 := hP
      have hD : va_D A (wM A_x A_da A_ma A_ha A_ho A_ti A_be A_te A_ch K_da K_ma K_ha K_ho K_ti K_be K_te K_ch c_da c_ma c_ha c_ho c_ti c_be c_te c_ch c_up p1 c_tm c_tc) := hD
      refine lv_iconst (v := 1) hx hb dX5_crashAfter_19 (by decide) ?_
      cases hm
      subst hQ
      exact W.zret hx hb hr rfl (fun t ht hW => ⟨⟨_, (), rfl, rfl, by rw [ht]; exact hP, hD⟩, hS.F ht⟩) hS.2.2 dX5_crashAfter_20
    · have hm := g_f c2 hm
      refine lv_iconst (v := 0) hx hb dX5_crashAfter_12 (by decide) ?_
      cases hm
      subst hQ
      exact W.zret hx hb hr rfl (fun t ht hW => ⟨⟨_, (), rfl, rfl, by rw [ht]; exact hP, hD⟩, hS.F ht⟩) hS.2.2 dX5_crashAfter_13
theorem hi_X5_holds_X5 : ∀ w ∈ wsX50, w ∈ wsX5_holds := by decide +kernel
theorem hk_X5_holds_7 : Cond.fieldLink RX5 7 "BuddyFilesModel" "disk" "[I" ∈ wsX5_holds := by decide +kernel
abbrev rm_X5_holds : Room := { frames := 1, cells := 0, slots := 0, locals := 22 }
set_option maxHeartbeats 4000000 in
set_option maxRecDepth 100000 in
theorem k_X5_holds (l : Launch) (dC : Nat → ClassId) (dI : Nat → Nat → Nat) (A_x A_da A_ma A_ha A_ho A_ti A_be A_te A_ch : Nat) (K_da K_ma K_ha K_ho K_ti K_be K_te K_ch : ClassId) (c_da c_ma c_ha c_ho c_ti c_be c_te c_ch : Nat → Int32) (c_up c_fu c_tm c_tc : Int32)  (r0 : Int32) (hm : m_X5_holds c_da = some r0) : Met l yX5_holds wsX5_holds rm_X5_holds (va_Pc [.ref A_x] (fun U => va_P (dC, dI) vwCl (wM A_x A_da A_ma A_ha A_ho A_ti A_be A_te A_ch K_da K_ma K_ha K_ho K_ti K_be K_te K_ch c_da c_ma c_ha c_ho c_ti c_be c_te c_ch c_up c_fu c_tm c_tc) U.heap ∧ va_K (dC, dI) vwCl (tM K_da K_ma K_ha K_ho K_ti K_be K_te K_ch) U)) (vp_Si (fun r => r0 = r)) 0 0 (fun _ => False) := by
  refine Met.ofW (cc := cX5_holds) (maxL := 6) (ret := (some .boolean)) (by decide) rfl ?_
  intro p e s m args below meth c s₁ B hml hv
  obtain ⟨rfl, hP, hK⟩ := hv
  have hx := B.exec
  have hb := B.bytes
  have hr := B.returns
  have hts := atoms_spec (ws := wsX5_holds) B.pre
  have hown : s.vm.findClass RX5 = some m.cls := findClass_of_methodNamed B.named
  have hlocks := B.notSynchronized
  have hl := lv_entry ([.ref A_x]) (n := 6) (Nat.le_of_ble_eq_true rfl)
  rw [lg_entry_eq]
  generalize (lg_sl ([.ref A_x]) ++ List.replicate (6 - (lg_sl ([.ref A_x])).length) Slot.unset).toArray = ls at hl ⊢
  have hl : lv_has ls 6 [(0, .ref A_x)] := hl
  refine w_name (fun Q hQ => ?_)
  unfold m_X5_holds at hm
  refine lv_aload_n hx hb dX5_holds_0 rfl (lv_at hl 0 rfl) ?_
  refine va_get (D := (dC, dI)) (ci := 3) (v := .ref A_da) (C := RX5) (T := TX5) (N := 12) hx hb hts hi_X5_holds_X5 hown hK hP 0 rfl rfl 0 (by decide) (hts (Cond.fieldLink RX5 7 "BuddyFilesModel" "disk" "[I") hk_X5_holds_7) (fun _ h9 => h9) rfl dX5_holds_1 ?_
  refine lv_bipush (v := 110) hx hb dX5_holds_4 (by decide) ?_
  obtain ⟨x1, ex, hm⟩ := g_bind hm
  refine w_ald hx hb hK hP 1 0 rfl rfl ex dX5_holds_6 ?_
  refine lv_istore_n (lv' := [(1, .int x1), (0, .ref A_x)]) hx hb dX5_holds_7 rfl hl (by decide) rfl (fun ls hl => ?_)
  refine lv_iload_n hx hb dX5_holds_8 rfl (lv_at hl 0 rfl) ?_
  refine lv_iconst (v := 1) hx hb dX5_holds_9 (by decide) ?_
  refine lv_bipush (v := 110) hx hb dX5_holds_10 (by decide) ?_
  obtain ⟨x2, ex, hm⟩ := g_bind hm
  refine vp_callSi (W.runS (As := [.int x1, .int (1 : Int32), .int (110 : Int32)]) (rest := []) ⟨hx, hb, hml, hown, hts⟩ (k_X5_within l  x1 (1 : Int32) (110 : Int32) _ ex) (va_cwS 3 hts gX5_holds_X5_within rfl rfl rfl (by decide +kernel) ⟨Nat.le_of_ble_eq_true rfl, Nat.le_of_ble_eq_true rfl⟩) ⟨w_bl0, fun U hU hW => ⟨rfl, trivial⟩⟩ rfl rfl hl.1 rfl (lv_room (Nat.le_of_ble_eq_true rfl)) dX5_holds_12 ⟨Nat.zero_le _, Nat.zero_le _⟩) (fun _ ey => ?_)
  subst ey
  refine lv_if_ne (tgt := 20) hx hb dX5_holds_15 (by decide) (fun c3 => ?_) (fun c3 => ?_)
  · have hm := g_f c3 hm
    refine lv_iload_n hx hb dX5_holds_20 rfl (lv_at hl 0 rfl) ?_
    refine lv_istore_n (lv' := [(2, .int x1), (1, .int x1), (0, .ref A_x)]) hx hb dX5_holds_21 rfl hl (by decide) rfl (fun ls hl => ?_)
    refine lv_iconst (v := -1) hx hb dX5_holds_22 (by decide) ?_
    refine lv_istore_n (lv' := [(3, .int (-1 : Int32)), (2, .int x1), (1, .int x1), (0, .ref A_x)]) hx hb dX5_holds_23 rfl hl (by decide) rfl (fun ls hl => ?_)
    refine lv_iconst (v := 0) hx hb dX5_holds_24 (by decide) ?_
    refine lv_istore (lv' := [(4, .int (0 : Int32)), (3, .int (-1 : Int32)), (2, .int x1), (1, .int x1), (0, .ref A_x)]) hx hb dX5_holds_25 hl (by decide) rfl (fun ls hl => ?_)
    obtain ⟨rl8, hlp, hm⟩ := g_bind hm
    have hE8 : ∀ (z7 : Int32), Sum.inr z7 = rl8 → ∀ (ls : Array Slot), lv_has ls 6 [(0, .ref A_x), (2, .int z7)] → W p l e (headSpec wsX5_holds rm_X5_holds).room s m (([.ref A_x] : List Value).toArray) below meth c s.heap [] 0 0 Q (F0 m 95 ls []) := by
      intro z7 hq ls hl
      subst hq
      have hm := g_sk_r hm
      have hm := g_k1_s hm
      refine lv_iload_n hx hb dX5_holds_95 rfl (lv_at hl 1 rfl) ?_
      refine lv_aload_n hx hb dX5_holds_96 rfl (lv_at hl 0 rfl) ?_
      refine va_get (D := (dC, dI)) (ci := 3) (v := .ref A_da) (C := RX5) (T := TX5) (N := 12) hx hb hts hi_X5_holds_X5 hown hK hP 0 rfl rfl 0 (by decide) (hts (Cond.fieldLink RX5 7 "BuddyFilesModel" "disk" "[I") hk_X5_holds_7) (fun _ h9 => h9) rfl dX5_holds_97 ?_
      refine lv_bipush (v := 111) hx hb dX5_holds_100 (by decide) ?_
      obtain ⟨x14, ex, hm⟩ := g_bind hm
      refine w_ald hx hb hK hP 1 0 rfl rfl ex dX5_holds_102 ?_
      refine lv_icmp_ne (tgt := 110) hx hb dX5_holds_103 (by decide) (fun c15 => ?_) (fun c15 => ?_)
      · have hm := g_f c15 hm
        refine lv_iconst (v := 0) hx hb dX5_holds_110 (by decide) ?_
        cases hm
        subst hQ
        exact W.zret hx hb hr rfl (fun t ht hW => ⟨_, rfl, rfl, ht⟩) (fun _ h => nomatch h) dX5_holds_111
      · have hm := g_t c15 hm
        refine lv_iconst (v := 1) hx hb dX5_holds_106 (by decide) ?_
        refine lv_goto (tgt := 111) hx hb dX5_holds_107 (by decide) ?_
        cases hm
        subst hQ
        exact W.zret hx hb hr rfl (fun t ht hW => ⟨_, rfl, rfl, ht⟩) (fun _ h => nomatch h) dX5_holds_111
    have hV8 : ∀ v, Sum.inl v = rl8 → v = r0 := by
      intro v hq
      subst hq
      have hm := g_sk_l hm
      exact Option.some.inj hm
    have hL8 : ∀ (n : Nat) (y4 : Int32) (y5 : Int32) (y6 : Int32), g_loop (fun q => m_X5_holds_L27 c_da x1 q.1 q.2.1 q.2.2) n (y4, y5, y6) = some rl8 → ∀ (ls : Array Slot), lv_has ls 6 [(0, .ref A_x), (1, .int x1), (2, .int y4), (3, .int y5), (4, .int y6)] → W p l e (headSpec wsX5_holds rm_X5_holds).room s m (([.ref A_x] : List Value).toArray) below meth c s.heap [] 0 0 Q (F0 m 27 ls []) := by
      intro n
      induction n with
      | zero =>
        intro y4 y5 y6 hm
        exact g_loop_z hm
      | succ n ih =>
        intro y4 y5 y6 hm ls hl
        obtain ⟨q, hm, hy⟩ := g_loop_s hm
        have hm : m_X5_holds_L27 c_da x1 y4 y5 y6 = some q := hm
        unfold m_X5_holds_L27 at hm
        refine lv_iload hx hb dX5_holds_27 (lv_at hl 4 rfl) ?_
        refine lv_iload_n hx hb dX5_holds_29 rfl (lv_at hl 1 rfl) ?_
        refine lv_icmp_ge (tgt := 95) hx hb dX5_holds_30 (by decide) (fun c9 => ?_) (fun c9 => ?_)
        · have hm := g_t c9 hm
          cases hm
          exact hE8 _ hy _ (lv_sub hl [0, 2] rfl)
        · have hm := g_f c9 hm
          refine lv_aload_n hx hb dX5_holds_33 rfl (lv_at hl 0 rfl) ?_
          refine va_get (D := (dC, dI)) (ci := 3) (v := .ref A_da) (C := RX5) (T := TX5) (N := 12) hx hb hts hi_X5_holds_X5 hown hK hP 0 rfl rfl 0 (by decide) (hts (Cond.fieldLink RX5 7 "BuddyFilesModel" "disk" "[I") hk_X5_holds_7) (fun _ h9 => h9) rfl dX5_holds_34 ?_
          refine lv_bipush (v := 112) hx hb dX5_holds_37 (by decide) ?_
          refine lv_iconst (v := 2) hx hb dX5_holds_39 (by decide) ?_
          refine lv_iload hx hb dX5_holds_40 (lv_at hl 4 rfl) ?_
          refine lv_imul hx hb dX5_holds_42 ?_
          refine lv_iadd hx hb dX5_holds_43 ?_
          obtain ⟨x10, ex, hm⟩ := g_bind hm
          refine w_ald hx hb hK hP 1 0 rfl rfl ex dX5_holds_44 ?_
          refine lv_istore (lv' := [(5, .int x10), (0, .ref A_x), (1, .int x1), (2, .int y4), (3, .int y5), (4, .int y6)]) hx hb dX5_holds_45 hl (by decide) rfl (fun ls hl => ?_)
          refine lv_iload hx hb dX5_holds_47 (lv_at hl 0 rfl) ?_
          refine lv_iload_n hx hb dX5_holds_49 rfl (lv_at hl 4 rfl) ?_
          refine lv_iconst (v := 1) hx hb dX5_holds_50 (by decide) ?_
          refine lv_iadd hx hb dX5_holds_51 ?_
          refine lv_bipush (v := 109) hx hb dX5_holds_52 (by decide) ?_
          obtain ⟨x11, ex, hm⟩ := g_bind hm
          refine vp_callSi (W.runS (As := [.int x10, .int (y5 + (1 : Int32)), .int (109 : Int32)]) (rest := []) ⟨hx, hb, hml, hown, hts⟩ (k_X5_within l  x10 (y5 + (1 : Int32)) (109 : Int32) _ ex) (va_cwS 3 hts gX5_holds_X5_within rfl rfl rfl (by decide +kernel) ⟨Nat.le_of_ble_eq_true rfl, Nat.le_of_ble_eq_true rfl⟩) ⟨w_bl0, fun U hU hW => ⟨rfl, trivial⟩⟩ rfl rfl hl.1 rfl (lv_room (Nat.le_of_ble_eq_true rfl)) dX5_holds_54 ⟨Nat.zero_le _, Nat.zero_le _⟩) (fun _ ey => ?_)
          subst ey
          refine lv_if_ne (tgt := 62) hx hb dX5_holds_57 (by decide) (fun c12 => ?_) (fun c12 => ?_)
          · have hm := g_f c12 hm
            refine lv_iload hx hb dX5_holds_62 (lv_at hl 0 rfl) ?_
            refine lv_istore_n (lv' := [(3, .int x10), (5, .int x10), (0, .ref A_x), (1, .int x1), (2, .int y4), (4, .int y6)]) hx hb dX5_holds_64 rfl hl (by decide) rfl (fun ls hl => ?_)
            refine lv_iload_n hx hb dX5_holds_65 rfl (lv_at hl 4 rfl) ?_
            refine lv_bipush (v := 31) hx hb dX5_holds_66 (by decide) ?_
            refine lv_imul hx hb dX5_holds_68 ?_
            refine lv_iload hx hb dX5_holds_69 (lv_at hl 1 rfl) ?_
            refine lv_iadd hx hb dX5_holds_71 ?_
            refine lv_bipush (v := 31) hx hb dX5_holds_72 (by decide) ?_
            refine lv_imul hx hb dX5_holds_74 ?_
            refine lv_aload_n hx hb dX5_holds_75 rfl (lv_at hl 2 rfl) ?_
            refine va_get (D := (dC, dI)) (ci := 3) (v := .ref A_da) (C := RX5) (T := TX5) (N := 12) hx hb hts hi_X5_holds_X5 hown hK hP 0 rfl rfl 0 (by decide) (hts (Cond.fieldLink RX5 7 "BuddyFilesModel" "disk" "[I") hk_X5_holds_7) (fun _ h9 => h9) rfl dX5_holds_76 ?_
            refine lv_bipush (v := 113) hx hb dX5_holds_79 (by decide) ?_
            refine lv_iconst (v := 2) hx hb dX5_holds_81 (by decide) ?_
            refine lv_iload hx hb dX5_holds_82 (lv_at hl 5 rfl) ?_
            refine lv_imul hx hb dX5_holds_84 ?_
            refine lv_iadd hx hb dX5_holds_85 ?_
            obtain ⟨x13, ex, hm⟩ := g_bind hm
            refine w_ald hx hb hK hP 1 0 rfl rfl ex dX5_holds_86 ?_
            refine lv_iadd hx hb dX5_holds_87 ?_
            refine lv_istore_n (lv' := [(2, .int ((((y4 * (31 : Int32)) + x10) * (31 : Int32)) + x13)), (3, .int x10), (5, .int x10), (0, .ref A_x), (1, .int x1), (4, .int y6)]) hx hb dX5_holds_88 rfl hl (by decide) rfl (fun ls hl => ?_)
            refine lv_iinc (v := (y6 + (1 : Int32))) (lv' := [(4, .int (y6 + (1 : Int32))), (2, .int ((((y4 * (31 : Int32)) + x10) * (31 : Int32)) + x13)), (3, .int x10), (5, .int x10), (0, .ref A_x), (1, .int x1)]) hx hb dX5_holds_89 hl (k := 5) rfl rfl (by decide) rfl (fun ls hl => ?_)
            refine lv_goto (tgt := 27) hx hb dX5_holds_92 (by decide) ?_
            cases hm
            exact ih _ _ _ hy _ (lv_sub hl [4, 5, 1, 2, 0] rfl)
          · have hm := g_t c12 hm
            refine lv_iconst (v := 0) hx hb dX5_holds_60 (by decide) ?_
            cases hm
            have hq := hV8 _ hy
            cases hq
            subst hQ
            exact W.zret hx hb hr rfl (fun t ht hW => ⟨_, rfl, rfl, ht⟩) (fun _ h => nomatch h) dX5_holds_61
    exact hL8 _ _ _ _ hlp _ (lv_sub hl [4, 3, 2, 1, 0] rfl)
  · have hm := g_t c3 hm
    refine lv_iconst (v := 0) hx hb dX5_holds_18 (by decide) ?_
    cases hm
    subst hQ
    exact W.zret hx hb hr rfl (fun t ht hW => ⟨_, rfl, rfl, ht⟩) (fun _ h => nomatch h) dX5_holds_19
theorem hi_X5_fetch_X5 : ∀ w ∈ wsX50, w ∈ wsX5_fetch := by decide +kernel
theorem hk_X5_fetch_19 : Cond.fieldLink RX5 19 "BuddyFilesModel" "home" "[I" ∈ wsX5_fetch := by decide +kernel
theorem hk_X5_fetch_7 : Cond.fieldLink RX5 7 "BuddyFilesModel" "disk" "[I" ∈ wsX5_fetch := by decide +kernel
abbrev rm_X5_fetch : Room := { frames := 2, cells := 0, slots := 0, locals := 47 }
set_option maxHeartbeats 4000000 in
set_option maxRecDepth 100000 in
theorem k_X5_fetch (l : Launch) (dC : Nat → ClassId) (dI : Nat → Nat → Nat) (A_x A_da A_ma A_ha A_ho A_ti A_be A_te A_ch : Nat) (K_da K_ma K_ha K_ho K_ti K_be K_te K_ch : ClassId) (c_da c_ma c_ha c_ho c_ti c_be c_te c_ch : Nat → Int32) (c_up c_fu c_tm c_tc : Int32) (sz : Nat)  (o_ho : (Nat → Int32)) (hm : m_X5_fetch c_da c_ho = some o_ho) : Met l yX5_fetch wsX5_fetch rm_X5_fetch (va_Pc [.ref A_x] (fun U => U.heap.size = sz ∧ va_P (dC, dI) vwCl (wM A_x A_da A_ma A_ha A_ho A_ti A_be A_te A_ch K_da K_ma K_ha K_ho K_ti K_be K_te K_ch c_da c_ma c_ha c_ho c_ti c_be c_te c_ch c_up c_fu c_tm c_tc) U.heap ∧ va_K (dC, dI) vwCl (tM K_da K_ma K_ha K_ho K_ti K_be K_te K_ch) U ∧ va_D (fun _ => True) (wM A_x A_da A_ma A_ha A_ho A_ti A_be A_te A_ch K_da K_ma K_ha K_ho K_ti K_be K_te K_ch c_da c_ma c_ha c_ho c_ti c_be c_te c_ch c_up c_fu c_tm c_tc))) (va_Qv (fun (_ : Unit) => True) (fun _ t => va_P (dC, dI) vwCl (wM A_x A_da A_ma A_ha A_ho A_ti A_be A_te A_ch K_da K_ma K_ha K_ho K_ti K_be K_te K_ch c_da c_ma c_ha o_ho c_ti c_be c_te c_ch c_up c_fu c_tm c_tc) t.heap ∧ va_D (va_A (wM A_x A_da A_ma A_ha A_ho A_ti A_be A_te A_ch K_da K_ma K_ha K_ho K_ti K_be K_te K_ch c_da c_ma c_ha c_ho c_ti c_be c_te c_ch c_up c_fu c_tm c_tc) sz) (wM A_x A_da A_ma A_ha A_ho A_ti A_be A_te A_ch K_da K_ma K_ha K_ho K_ti K_be K_te K_ch c_da c_ma c_ha o_ho c_ti c_be c_te c_ch c_up c_fu c_tm c_tc)) (va_A (wM A_x A_da A_ma A_ha A_ho A_ti A_be A_te A_ch K_da K_ma K_ha K_ho K_ti K_be K_te K_ch c_da c_ma c_ha c_ho c_ti c_be c_te c_ch c_up c_fu c_tm c_tc) sz)) 0 0 (va_A (wM A_x A_da A_ma A_ha A_ho A_ti A_be A_te A_ch K_da K_ma K_ha K_ho K_ti K_be K_te K_ch c_da c_ma c_ha c_ho c_ti c_be c_te c_ch c_up c_fu c_tm c_tc) sz) := by
  refine Met.ofW (cc := cX5_fetch) (maxL := 2) (ret := (none)) (by decide) rfl ?_
  intro p e s m args below meth c s₁ B hml hv
  obtain ⟨rfl, hsz, hP, hK, hD0⟩ := hv
  have hx := B.exec
  have hb := B.bytes
  have hr := B.returns
  have hts := atoms_spec (ws := wsX5_fetch) B.pre
  have hown : s.vm.findClass RX5 = some m.cls := findClass_of_methodNamed B.named
  have hlocks := B.notSynchronized
  subst hsz
  have hD := hD0.self (sz := s.heap.size)
  generalize hAe : va_A (wM A_x A_da A_ma A_ha A_ho A_ti A_be A_te A_ch K_da K_ma K_ha K_ho K_ti K_be K_te K_ch c_da c_ma c_ha c_ho c_ti c_be c_te c_ch c_up c_fu c_tm c_tc) s.heap.size = A at hD ⊢
  have hA : ∀ q : Nat, s.heap.size ≤ q → A q := fun q h => by rw [← hAe]; exact Or.inr h
  have hS : va_S A s.heap s.heap [] := va_S.rf
  have hP : va_P (dC, dI) vwCl (wM A_x A_da A_ma A_ha A_ho A_ti A_be A_te A_ch K_da K_ma K_ha K_ho K_ti K_be K_te K_ch c_da c_ma c_ha c_ho c_ti c_be c_te c_ch c_up c_fu c_tm c_tc) s.heap := hP
  have hl := lv_entry ([.ref A_x]) (n := 2) (Nat.le_of_ble_eq_true rfl)
  rw [lg_entry_eq]
  generalize (lg_sl ([.ref A_x]) ++ List.replicate (2 - (lg_sl ([.ref A_x])).length) Slot.unset).toArray = ls at hl ⊢
  have hl : lv_has ls 2 [(0, .ref A_x)] := hl
  refine w_name (fun Q hQ => ?_)
  unfold m_X5_fetch at hm
  refine lv_iconst (v := 0) hx hb dX5_fetch_0 (by decide) ?_
  refine lv_istore_n (lv' := [(1, .int (0 : Int32)), (0, .ref A_x)]) hx hb dX5_fetch_1 rfl hl (by decide) rfl (fun ls hl => ?_)
  obtain ⟨rl4, hlp, hm⟩ := g_bind hm
  have hE4 : ∀ (f3 : (Nat → Int32)), f3 = rl4 → ∀ (H4e : Heap) (locs4e : List Loc), va_P (dC, dI) vwCl (wM A_x A_da A_ma A_ha A_ho A_ti A_be A_te A_ch K_da K_ma K_ha K_ho K_ti K_be K_te K_ch c_da c_ma c_ha f3 c_ti c_be c_te c_ch c_up c_fu c_tm c_tc) H4e → va_D A (wM A_x A_da A_ma A_ha A_ho A_ti A_be A_te A_ch K_da K_ma K_ha K_ho K_ti K_be K_te K_ch c_da c_ma c_ha f3 c_ti c_be c_te c_ch c_up c_fu c_tm c_tc) → va_S A s.heap H4e locs4e → ∀ (ls : Array Slot), lv_has ls 2 [(0, .ref A_x)] → W p l e (headSpec wsX5_fetch rm_X5_fetch).room s m (([.ref A_x] : List Value).toArray) below meth c H4e locs4e 0 0 Q (F0 m 26 ls []) := by
    intro f3 hq H4e locs4e hP hD hS ls hl
    subst hq
    have hm := g_k1_s hm
    refine lv_aload_n hx hb dX5_fetch_26 rfl (lv_at hl 0 rfl) ?_
    obtain ⟨x9, ex, hm⟩ := g_bind hm
    refine vp_callSi (W.runV (As := []) (rest := []) ⟨hx, hb, hml, hown, hts⟩ (k_X5_holds l dC dI A_x A_da A_ma A_ha A_ho A_ti A_be A_te A_ch K_da K_ma K_ha K_ho K_ti K_be K_te K_ch c_da c_ma c_ha f3 c_ti c_be c_te c_ch c_up c_fu c_tm c_tc  _ ex) (cwV 0 hts gX5_fetch_X5_holds rfl rfl rfl (by decide +kernel) ⟨Nat.le_of_ble_eq_true rfl, Nat.le_of_ble_eq_true rfl⟩) ⟨w_blR, va_recv hK hP (ci := 3) (q0 := 0) rfl rfl, fun U hU hW => ⟨rfl, by rw [hU]; exact hP.sub [0, 1, 2, 3, 4, 5, 6, 7, 8] rfl, va_K.moved hW.alike (hK.sub [0, 1, 2, 3, 4, 5, 6, 7] rfl)⟩⟩ rfl rfl hl.1 rfl (lv_room (Nat.le_of_ble_eq_true rfl)) dX5_fetch_27 ⟨Nat.zero_le _, Nat.zero_le _⟩) (fun _ ey => ?_)
    subst ey
    refine lv_if_eq (tgt := 79) hx hb dX5_fetch_30 (by decide) (fun c10 => ?_) (fun c10 => ?_)
    · have hm := g_t c10 hm
      cases hm
      subst hQ
      exact W.vret hx hb hr (fun t ht hW => ⟨⟨(), rfl, trivial, by rw [ht]; exact hP, hD⟩, hS.F ht⟩) hS.2.2 dX5_fetch_79
    · have hm := g_f c10 hm
      refine lv_iconst (v := 0) hx hb dX5_fetch_33 (by decide) ?_
      refine lv_istore_n (lv' := [(1, .int (0 : Int32)), (0, .ref A_x)]) hx hb dX5_fetch_34 rfl hl (by decide) rfl (fun ls hl => ?_)
      obtain ⟨rl14, hlp, hm⟩ := g_bind hm
      have hE14 : ∀ (f13 : (Nat → Int32)), f13 = rl14 → ∀ (H14e : Heap) (locs14e : List Loc), va_P (dC, dI) vwCl (wM A_x A_da A_ma A_ha A_ho A_ti A_be A_te A_ch K_da K_ma K_ha K_ho K_ti K_be K_te K_ch c_da c_ma c_ha f13 c_ti c_be c_te c_ch c_up c_fu c_tm c_tc) H14e → va_D A (wM A_x A_da A_ma A_ha A_ho A_ti A_be A_te A_ch K_da K_ma K_ha K_ho K_ti K_be K_te K_ch c_da c_ma c_ha f13 c_ti c_be c_te c_ch c_up c_fu c_tm c_tc) → va_S A s.heap H14e locs14e → ∀ (ls : Array Slot), lv_has ls 2 [] → W p l e (headSpec wsX5_fetch rm_X5_fetch).room s m (([.ref A_x] : List Value).toArray) below meth c H14e locs14e 0 0 Q (F0 m 79 ls []) := by
        intro f13 hq H14e locs14e hP hD hS ls hl
        subst hq
        have hm := g_k1_s hm
        cases hm
        subst hQ
        exact W.vret hx hb hr (fun t ht hW => ⟨⟨(), rfl, trivial, by rw [ht]; exact hP, hD⟩, hS.F ht⟩) hS.2.2 dX5_fetch_79
      have hL14 : ∀ (n : Nat) (y11 : Int32) (f12 : (Nat → Int32)), g_loop (fun q => m_X5_fetch_L35 c_da q.1 q.2) n (y11, f12) = some rl14 → ∀ (H14b : Heap) (locs14b : List Loc), va_P (dC, dI) vwCl (wM A_x A_da A_ma A_ha A_ho A_ti A_be A_te A_ch K_da K_ma K_ha K_ho K_ti K_be K_te K_ch c_da c_ma c_ha f12 c_ti c_be c_te c_ch c_up c_fu c_tm c_tc) H14b → va_D A (wM A_x A_da A_ma A_ha A_ho A_ti A_be A_te A_ch K_da K_ma K_ha K_ho K_ti K_be K_te K_ch c_da c_ma c_ha f12 c_ti c_be c_te c_ch c_up c_fu c_tm c_tc) → va_S A s.heap H14b locs14b → ∀ (ls : Array Slot), lv_has ls 2 [(0, .ref A_x), (1, .int y11)] → W p l e (headSpec wsX5_fetch rm_X5_fetch).room s m (([.ref A_x] : List Value).toArray) below meth c H14b locs14b 0 0 Q (F0 m 35 ls []) := by
        intro n
        induction n with
        | zero =>
          intro y11 f12 hm
          exact g_loop_z hm
        | succ n ih =>
          intro y11 f12 hm H14b locs14b hP hD hS ls hl
          obtain ⟨q, hm, hy⟩ := g_loop_s hm
          have hm : m_X5_fetch_L35 c_da y11 f12 = some q := hm
          unfold m_X5_fetch_L35 at hm
          refine lv_iload_n hx hb dX5_fetch_35 rfl (lv_at hl 1 rfl) ?_
          refine lv_aload_n hx hb dX5_fetch_36 rfl (lv_at hl 0 rfl) ?_
          refine va_get (D := (dC, dI)) (ci := 3) (v := .ref A_da) (C := RX5) (T := TX5) (N := 12) hx hb hts hi_X5_fetch_X5 hown hK hP 0 rfl rfl 0 (by decide) (hts (Cond.fieldLink RX5 7 "BuddyFilesModel" "disk" "[I") hk_X5_fetch_7) (fun _ h9 => h9) rfl dX5_fetch_37 ?_
          refine lv_bipush (v := 110) hx hb dX5_fetch_40 (by decide) ?_
          obtain ⟨x15, ex, hm⟩ := g_bind hm
          refine w_ald hx hb hK hP 1 0 rfl rfl ex dX5_fetch_42 ?_
          refine lv_icmp_ge (tgt := 79) hx hb dX5_fetch_43 (by decide) (fun c16 => ?_) (fun c16 => ?_)
          · have hm := g_t c16 hm
            cases hm
            exact hE14 _ hy _ _ hP hD hS _ (lv_sub hl [] rfl)
          · have hm := g_f c16 hm
            refine lv_aload_n hx hb dX5_fetch_46 rfl (lv_at hl 0 rfl) ?_
            refine va_get (D := (dC, dI)) (ci := 3) (v := .ref A_ho) (C := RX5) (T := TX5) (N := 12) hx hb hts hi_X5_fetch_X5 hown hK hP 0 rfl rfl 5 (by decide) (hts (Cond.fieldLink RX5 19 "BuddyFilesModel" "home" "[I") hk_X5_fetch_19) (fun _ h9 => h9) rfl dX5_fetch_47 ?_
            refine lv_aload_n hx hb dX5_fetch_50 rfl (lv_at hl 0 rfl) ?_
            refine va_get (D := (dC, dI)) (ci := 3) (v := .ref A_da) (C := RX5) (T := TX5) (N := 12) hx hb hts hi_X5_fetch_X5 hown hK hP 0 rfl rfl 0 (by decide) (hts (Cond.fieldLink RX5 7 "BuddyFilesModel" "disk" "[I") hk_X5_fetch_7) (fun _ h9 => h9) rfl dX5_fetch_51 ?_
            refine lv_bipush (v := 112) hx hb dX5_fetch_54 (by decide) ?_
            refine lv_iconst (v := 2) hx hb dX5_fetch_56 (by decide) ?_
            refine lv_iload_n hx hb dX5_fetch_57 rfl (lv_at hl 1 rfl) ?_
            refine lv_imul hx hb dX5_fetch_58 ?_
            refine lv_iadd hx hb dX5_fetch_59 ?_
            obtain ⟨x17, ex, hm⟩ := g_bind hm
            refine w_ald hx hb hK hP 1 0 rfl rfl ex dX5_fetch_60 ?_
            refine lv_aload_n hx hb dX5_fetch_61 rfl (lv_at hl 0 rfl) ?_
            refine va_get (D := (dC, dI)) (ci := 3) (v := .ref A_da) (C := RX5) (T := TX5) (N := 12) hx hb hts hi_X5_fetch_X5 hown hK hP 0 rfl rfl 0 (by decide) (hts (Cond.fieldLink RX5 7 "BuddyFilesModel" "disk" "[I") hk_X5_fetch_7) (fun _ h9 => h9) rfl dX5_fetch_62 ?_
            refine lv_bipush (v := 113) hx hb dX5_fetch_65 (by decide) ?_
            refine lv_iconst (v := 2) hx hb dX5_fetch_67 (by decide) ?_
            refine lv_iload_n hx hb dX5_fetch_68 rfl (lv_at hl 1 rfl) ?_
            refine lv_imul hx hb dX5_fetch_69 ?_
            refine lv_iadd hx hb dX5_fetch_70 ?_
            obtain ⟨x18, ex, hm⟩ := g_bind hm
            refine w_ald hx hb hK hP 1 0 rfl rfl ex dX5_fetch_71 ?_
            obtain ⟨f19, ex, hm⟩ := g_bind hm
            refine w_ast hx hb hK hP hD hS 4 3 rfl rfl ex dX5_fetch_72 (fun H20 locs20 hP hD hS => ?_)
            have hP : va_P (dC, dI) vwCl (wM A_x A_da A_ma A_ha A_ho A_ti A_be A_te A_ch K_da K_ma K_ha K_ho K_ti K_be K_te K_ch c_da c_ma c_ha f19 c_ti c_be c_te c_ch c_up c_fu c_tm c_tc) H20 := hP
            have hD : va_D A (wM A_x A_da A_ma A_ha A_ho A_ti A_be A_te A_ch K_da K_ma K_ha K_ho K_ti K_be K_te K_ch c_da c_ma c_ha f19 c_ti c_be c_te c_ch c_up c_fu c_tm c_tc) := hD
            refine lv_iinc (v := (y11 + (1 : Int32))) (lv' := [(1, .int (y11 + (1 : Int32))), (0, .ref A_x)]) hx hb dX5_fetch_73 hl (k := 1) rfl rfl (by decide) rfl (fun ls hl => ?_)
            refine lv_goto (tgt := 35) hx hb dX5_fetch_76 (by decide) ?_
            cases hm
            exact ih _ _ hy _ _ hP hD hS _ (lv_sub hl [1, 0] rfl)
      exact hL14 _ _ _ hlp _ _ hP hD hS _ (lv_sub hl [1, 0] rfl)
  have hL4 : ∀ (n : Nat) (y1 : Int32) (f2 : (Nat → Int32)), g_loop (fun q => m_X5_fetch_L2 c_da q.1 q.2) n (y1, f2) = some rl4 → ∀ (H4b : Heap) (locs4b : List Loc), va_P (dC, dI) vwCl (wM A_x A_da A_ma A_ha A_ho A_ti A_be A_te A_ch K_da K_ma K_ha K_ho K_ti K_be K_te K_ch c_da c_ma c_ha f2 c_ti c_be c_te c_ch c_up c_fu c_tm c_tc) H4b → va_D A (wM A_x A_da A_ma A_ha A_ho A_ti A_be A_te A_ch K_da K_ma K_ha K_ho K_ti K_be K_te K_ch c_da c_ma c_ha f2 c_ti c_be c_te c_ch c_up c_fu c_tm c_tc) → va_S A s.heap H4b locs4b → ∀ (ls : Array Slot), lv_has ls 2 [(0, .ref A_x), (1, .int y1)] → W p l e (headSpec wsX5_fetch rm_X5_fetch).room s m (([.ref A_x] : List Value).toArray) below meth c H4b locs4b 0 0 Q (F0 m 2 ls []) := by
    intro n
    induction n with
    | zero =>
      intro y1 f2 hm
      exact g_loop_z hm
    | succ n ih =>
      intro y1 f2 hm H4b locs4b hP hD hS ls hl
      obtain ⟨q, hm, hy⟩ := g_loop_s hm
      have hm : m_X5_fetch_L2 c_da y1 f2 = some q := hm
      unfold m_X5_fetch_L2 at hm
      refine lv_iload_n hx hb dX5_fetch_2 rfl (lv_at hl 1 rfl) ?_
      refine lv_bipush (v := 110) hx hb dX5_fetch_3 (by decide) ?_
      refine lv_icmp_ge (tgt := 26) hx hb dX5_fetch_5 (by decide) (fun c5 => ?_) (fun c5 => ?_)
      · have hm := g_t c5 hm
        cases hm
        exact hE4 _ hy _ _ hP hD hS _ (lv_sub hl [0] rfl)
      · have hm := g_f c5 hm
        refine lv_aload_n hx hb dX5_fetch_8 rfl (lv_at hl 0 rfl) ?_
        refine va_get (D := (dC, dI)) (ci := 3) (v := .ref A_ho) (C := RX5) (T := TX5) (N := 12) hx hb hts hi_X5_fetch_X5 hown hK hP 0 rfl rfl 5 (by decide) (hts (Cond.fieldLink RX5 19 "BuddyFilesModel" "home" "[I") hk_X5_fetch_19) (fun _ h9 => h9) rfl dX5_fetch_9 ?_
        refine lv_iload_n hx hb dX5_fetch_12 rfl (lv_at hl 1 rfl) ?_
        refine lv_aload_n hx hb dX5_fetch_13 rfl (lv_at hl 0 rfl) ?_
        refine va_get (D := (dC, dI)) (ci := 3) (v := .ref A_da) (C := RX5) (T := TX5) (N := 12) hx hb hts hi_X5_fetch_X5 hown hK hP 0 rfl rfl 0 (by decide) (hts (Cond.fieldLink RX5 7 "BuddyFilesModel" "disk" "[I") hk_X5_fetch_7) (fun _ h9 => h9) rfl dX5_fetch_14 ?_
        refine lv_iload_n hx hb dX5_fetch_17 rfl (lv_at hl 1 rfl) ?_
        obtain ⟨x6, ex, hm⟩ := g_bind hm
        refine w_ald hx hb hK hP 1 0 rfl rfl ex dX5_fetch_18 ?_
        obtain ⟨f7, ex, hm⟩ := g_bind hm
        refine w_ast hx hb hK hP hD hS 4 3 rfl rfl ex dX5_fetch_19 (fun H8 locs8 hP hD hS => ?_)
        have hP : va_P (dC, dI) vwCl (wM A_x A_da A_ma A_ha A_ho A_ti A_be A_te A_ch K_da K_ma K_ha K_ho K_ti K_be K_te K_ch c_da c_ma c_ha f7 c_ti c_be c_te c_ch c_up c_fu c_tm c_tc) H8 := hP
        have hD : va_D A (wM A_x A_da A_ma A_ha A_ho A_ti A_be A_te A_ch K_da K_ma K_ha K_ho K_ti K_be K_te K_ch c_da c_ma c_ha f7 c_ti c_be c_te c_ch c_up c_fu c_tm c_tc) := hD
        refine lv_iinc (v := (y1 + (1 : Int32))) (lv' := [(1, .int (y1 + (1 : Int32))), (0, .ref A_x)]) hx hb dX5_fetch_20 hl (k := 1) rfl rfl (by decide) rfl (fun ls hl => ?_)
        refine lv_goto (tgt := 2) hx hb dX5_fetch_23 (by decide) ?_
        cases hm
        exact ih _ _ hy _ _ hP hD hS _ (lv_sub hl [1, 0] rfl)
  exact hL4 _ _ _ hlp _ _ hP hD hS _ (lv_sub hl [1, 0] rfl)
theorem hi_X5_slotsRight_X5 : ∀ w ∈ wsX50, w ∈ wsX5_slotsRight := by decide +kernel
theorem hk_X5_slotsRight_19 : Cond.fieldLink RX5 19 "BuddyFilesModel" "home" "[I" ∈ wsX5_slotsRight := by decide +kernel
abbrev rm_X5_slotsRight : Room := { frames := 1, cells := 0, slots := 0, locals := 22 }
set_option maxHeartbeats 4000000 in
set_option maxRecDepth 100000 in
theorem k_X5_slotsRight (l : Launch) (dC : Nat → ClassId) (dI : Nat → Nat → Nat) (A_x A_da A_ma A_ha A_ho A_ti A_be A_te A_ch : Nat) (K_da K_ma K_ha K_ho K_ti K_be K_te K_ch : ClassId) (c_da c_ma c_ha c_ho c_ti c_be c_te c_ch : Nat → Int32) (c_up c_fu c_tm c_tc : Int32)  (r0 : Int32) (hm : m_X5_slotsRight c_ho = some r0) : Met l yX5_slotsRight wsX5_slotsRight rm_X5_slotsRight (va_Pc [.ref A_x] (fun U => va_P (dC, dI) vwCl (wM A_x A_da A_ma A_ha A_ho A_ti A_be A_te A_ch K_da K_ma K_ha K_ho K_ti K_be K_te K_ch c_da c_ma c_ha c_ho c_ti c_be c_te c_ch c_up c_fu c_tm c_tc) U.heap ∧ va_K (dC, dI) vwCl (tM K_da K_ma K_ha K_ho K_ti K_be K_te K_ch) U)) (vp_Si (fun r => r0 = r)) 0 0 (fun _ => False) := by
  refine Met.ofW (cc := cX5_slotsRight) (maxL := 4) (ret := (some .boolean)) (by decide) rfl ?_
  intro p e s m args below meth c s₁ B hml hv
  obtain ⟨rfl, hP, hK⟩ := hv
  have hx := B.exec
  have hb := B.bytes
  have hr := B.returns
  have hts := atoms_spec (ws := wsX5_slotsRight) B.pre
  have hown : s.vm.findClass RX5 = some m.cls := findClass_of_methodNamed B.named
  have hlocks := B.notSynchronized
  have hl := lv_entry ([.ref A_x]) (n := 4) (Nat.le_of_ble_eq_true rfl)
  rw [lg_entry_eq]
  generalize (lg_sl ([.ref A_x]) ++ List.replicate (4 - (lg_sl ([.ref A_x])).length) Slot.unset).toArray = ls at hl ⊢
  have hl : lv_has ls 4 [(0, .ref A_x)] := hl
  refine w_name (fun Q hQ => ?_)
  unfold m_X5_slotsRight at hm
  refine lv_iconst (v := 0) hx hb dX5_slotsRight_0 (by decide) ?_
  refine lv_istore_n (lv' := [(1, .int (0 : Int32)), (0, .ref A_x)]) hx hb dX5_slotsRight_1 rfl hl (by decide) rfl (fun ls hl => ?_)
  obtain ⟨rl2, hlp, hm⟩ := g_bind hm
  have hE2 : Sum.inr () = rl2 → ∀ (ls : Array Slot), lv_has ls 4 [] → W p l e (headSpec wsX5_slotsRight rm_X5_slotsRight).room s m (([.ref A_x] : List Value).toArray) below meth c s.heap [] 0 0 Q (F0 m 105 ls []) := by
    intro  hq ls hl
    subst hq
    have hm := g_sk_r hm
    have hm := g_k0_s hm
    refine lv_iconst (v := 1) hx hb dX5_slotsRight_105 (by decide) ?_
    cases hm
    subst hQ
    exact W.zret hx hb hr rfl (fun t ht hW => ⟨_, rfl, rfl, ht⟩) (fun _ h => nomatch h) dX5_slotsRight_106
  have hV2 : ∀ v, Sum.inl v = rl2 → v = r0 := by
    intro v hq
    subst hq
    have hm := g_sk_l hm
    exact Option.some.inj hm
  have hL2 : ∀ (n : Nat) (y1 : Int32), g_loop (fun q => m_X5_slotsRight_L2 c_ho q) n y1 = some rl2 → ∀ (ls : Array Slot), lv_has ls 4 [(0, .ref A_x), (1, .int y1)] → W p l e (headSpec wsX5_slotsRight rm_X5_slotsRight).room s m (([.ref A_x] : List Value).toArray) below meth c s.heap [] 0 0 Q (F0 m 2 ls []) := by
    intro n
    induction n with
    | zero =>
      intro y1 hm
      exact g_loop_z hm
    | succ n ih =>
      intro y1 hm ls hl
      obtain ⟨q, hm, hy⟩ := g_loop_s hm
      have hm : m_X5_slotsRight_L2 c_ho y1 = some q := hm
      unfold m_X5_slotsRight_L2 at hm
      refine lv_iload_n hx hb dX5_slotsRight_2 rfl (lv_at hl 1 rfl) ?_
      refine lv_bipush (v := 6) hx hb dX5_slotsRight_3 (by decide) ?_
      refine lv_icmp_ge (tgt := 105) hx hb dX5_slotsRight_5 (by decide) (fun c3 => ?_) (fun c3 => ?_)
      · have hm := g_t c3 hm
        cases hm
        exact hE2 hy _ (lv_sub hl [] rfl)
      · have hm := g_f c3 hm
        refine lv_bipush (v := 7) hx hb dX5_slotsRight_8 (by decide) ?_
        refine lv_iload_n hx hb dX5_slotsRight_10 rfl (lv_at hl 1 rfl) ?_
        refine lv_imul hx hb dX5_slotsRight_11 ?_
        refine lv_istore_n (lv' := [(2, .int ((7 : Int32) * y1)), (0, .ref A_x), (1, .int y1)]) hx hb dX5_slotsRight_12 rfl hl (by decide) rfl (fun ls hl => ?_)
        refine lv_aload_n hx hb dX5_slotsRight_13 rfl (lv_at hl 1 rfl) ?_
        refine va_get (D := (dC, dI)) (ci := 3) (v := .ref A_ho) (C := RX5) (T := TX5) (N := 12) hx hb hts hi_X5_slotsRight_X5 hown hK hP 0 rfl rfl 5 (by decide) (hts (Cond.fieldLink RX5 19 "BuddyFilesModel" "home" "[I") hk_X5_slotsRight_19) (fun _ h9 => h9) rfl dX5_slotsRight_14 ?_
        refine lv_iload_n hx hb dX5_slotsRight_17 rfl (lv_at hl 0 rfl) ?_
        obtain ⟨x4, ex, hm⟩ := g_bind hm
        refine w_ald hx hb hK hP 4 3 rfl rfl ex dX5_slotsRight_18 ?_
        refine lv_iconst (v := 0) hx hb dX5_slotsRight_19 (by decide) ?_
        refine lv_bipush (v := 99) hx hb dX5_slotsRight_20 (by decide) ?_
        obtain ⟨x5, ex, hm⟩ := g_bind hm
        refine vp_callSi (W.runS (As := [.int x4, .int (0 : Int32), .int (99 : Int32)]) (rest := []) ⟨hx, hb, hml, hown, hts⟩ (k_X5_within l  x4 (0 : Int32) (99 : Int32) _ ex) (va_cwS 3 hts gX5_slotsRight_X5_within rfl rfl rfl (by decide +kernel) ⟨Nat.le_of_ble_eq_true rfl, Nat.le_of_ble_eq_true rfl⟩) ⟨w_bl0, fun U hU hW => ⟨rfl, trivial⟩⟩ rfl rfl hl.1 rfl (lv_room (Nat.le_of_ble_eq_true rfl)) dX5_slotsRight_22 ⟨Nat.zero_le _, Nat.zero_le _⟩) (fun _ ey => ?_)
        subst ey
        refine lv_if_eq (tgt := 61) hx hb dX5_slotsRight_25 (by decide) (fun c6 => ?_) (fun c6 => ?_)
        · have hm := g_t c6 hm
          refine lv_iconst (v := 0) hx hb dX5_slotsRight_61 (by decide) ?_
          cases hm
          have hq := hV2 _ hy
          cases hq
          subst hQ
          exact W.zret hx hb hr rfl (fun t ht hW => ⟨_, rfl, rfl, ht⟩) (fun _ h => nomatch h) dX5_slotsRight_62
        · have hm := g_f c6 hm
          refine lv_aload_n hx hb dX5_slotsRight_28 rfl (lv_at hl 1 rfl) ?_
          refine va_get (D := (dC, dI)) (ci := 3) (v := .ref A_ho) (C := RX5) (T := TX5) (N := 12) hx hb hts hi_X5_slotsRight_X5 hown hK hP 0 rfl rfl 5 (by decide) (hts (Cond.fieldLink RX5 19 "BuddyFilesModel" "home" "[I") hk_X5_slotsRight_19) (fun _ h9 => h9) rfl dX5_slotsRight_29 ?_
          refine lv_iload_n hx hb dX5_slotsRight_32 rfl (lv_at hl 0 rfl) ?_
          refine lv_iconst (v := 1) hx hb dX5_slotsRight_33 (by decide) ?_
          refine lv_iadd hx hb dX5_slotsRight_34 ?_
          obtain ⟨x7, ex, hm⟩ := g_bind hm
          refine w_ald hx hb hK hP 4 3 rfl rfl ex dX5_slotsRight_35 ?_
          refine lv_iconst (v := 0) hx hb dX5_slotsRight_36 (by decide) ?_
          refine lv_iconst (v := 2) hx hb dX5_slotsRight_37 (by decide) ?_
          obtain ⟨x8, ex, hm⟩ := g_bind hm
          refine vp_callSi (W.runS (As := [.int x7, .int (0 : Int32), .int (2 : Int32)]) (rest := []) ⟨hx, hb, hml, hown, hts⟩ (k_X5_within l  x7 (0 : Int32) (2 : Int32) _ ex) (va_cwS 3 hts gX5_slotsRight_X5_within rfl rfl rfl (by decide +kernel) ⟨Nat.le_of_ble_eq_true rfl, Nat.le_of_ble_eq_true rfl⟩) ⟨w_bl0, fun U hU hW => ⟨rfl, trivial⟩⟩ rfl rfl hl.1 rfl (lv_room (Nat.le_of_ble_eq_true rfl)) dX5_slotsRight_38 ⟨Nat.zero_le _, Nat.zero_le _⟩) (fun _ ey => ?_)
          subst ey
          refine lv_if_eq (tgt := 61) hx hb dX5_slotsRight_41 (by decide) (fun c9 => ?_) (fun c9 => ?_)
          · have hm := g_t c9 hm
            refine lv_iconst (v := 0) hx hb dX5_slotsRight_61 (by decide) ?_
            cases hm
            have hq := hV2 _ hy
            cases hq
            subst hQ
            exact W.zret hx hb hr rfl (fun t ht hW => ⟨_, rfl, rfl, ht⟩) (fun _ h => nomatch h) dX5_slotsRight_62
          · have hm := g_f c9 hm
            refine lv_aload_n hx hb dX5_slotsRight_44 rfl (lv_at hl 1 rfl) ?_
            refine va_get (D := (dC, dI)) (ci := 3) (v := .ref A_ho) (C := RX5) (T := TX5) (N := 12) hx hb hts hi_X5_slotsRight_X5 hown hK hP 0 rfl rfl 5 (by decide) (hts (Cond.fieldLink RX5 19 "BuddyFilesModel" "home" "[I") hk_X5_slotsRight_19) (fun _ h9 => h9) rfl dX5_slotsRight_45 ?_
            refine lv_iload_n hx hb dX5_slotsRight_48 rfl (lv_at hl 0 rfl) ?_
            refine lv_iconst (v := 2) hx hb dX5_slotsRight_49 (by decide) ?_
            refine lv_iadd hx hb dX5_slotsRight_50 ?_
            obtain ⟨x10, ex, hm⟩ := g_bind hm
            refine w_ald hx hb hK hP 4 3 rfl rfl ex dX5_slotsRight_51 ?_
            refine lv_iconst (v := 0) hx hb dX5_slotsRight_52 (by decide) ?_
            refine lv_bipush (v := 64) hx hb dX5_slotsRight_53 (by decide) ?_
            obtain ⟨x11, ex, hm⟩ := g_bind hm
            refine vp_callSi (W.runS (As := [.int x10, .int (0 : Int32), .int (64 : Int32)]) (rest := []) ⟨hx, hb, hml, hown, hts⟩ (k_X5_within l  x10 (0 : Int32) (64 : Int32) _ ex) (va_cwS 3 hts gX5_slotsRight_X5_within rfl rfl rfl (by decide +kernel) ⟨Nat.le_of_ble_eq_true rfl, Nat.le_of_ble_eq_true rfl⟩) ⟨w_bl0, fun U hU hW => ⟨rfl, trivial⟩⟩ rfl rfl hl.1 rfl (lv_room (Nat.le_of_ble_eq_true rfl)) dX5_slotsRight_55 ⟨Nat.zero_le _, Nat.zero_le _⟩) (fun _ ey => ?_)
            subst ey
            refine lv_if_ne (tgt := 63) hx hb dX5_slotsRight_58 (by decide) (fun c12 => ?_) (fun c12 => ?_)
            · have hm := g_f c12 hm
              refine lv_iconst (v := 1) hx hb dX5_slotsRight_63 (by decide) ?_
              refine lv_istore_n (lv' := [(3, .int (1 : Int32)), (2, .int ((7 : Int32) * y1)), (0, .ref A_x), (1, .int y1)]) hx hb dX5_slotsRight_64 rfl hl (by decide) rfl (fun ls hl => ?_)
              obtain ⟨rl14, hlp, hm⟩ := g_bind hm
              have hE14 : Sum.inr () = rl14 → ∀ (ls : Array Slot), lv_has ls 4 [(0, .ref A_x), (1, .int y1)] → W p l e (headSpec wsX5_slotsRight rm_X5_slotsRight).room s m (([.ref A_x] : List Value).toArray) below meth c s.heap [] 0 0 Q (F0 m 99 ls []) := by
                intro  hq ls hl
                subst hq
                have hm := g_sk_r hm
                have hm := g_k0_s hm
                refine lv_iinc (v := (y1 + (1 : Int32))) (lv' := [(1, .int (y1 + (1 : Int32))), (0, .ref A_x)]) hx hb dX5_slotsRight_99 hl (k := 1) rfl rfl (by decide) rfl (fun ls hl => ?_)
                refine lv_goto (tgt := 2) hx hb dX5_slotsRight_102 (by decide) ?_
                cases hm
                exact ih _ hy _ (lv_sub hl [1, 0] rfl)
              have hV14 : ∀ v, Sum.inl v = rl14 → v = r0 := by
                intro v hq
                subst hq
                have hm := g_sk_l hm
                cases hm
                exact hV2 v hy
              have hL14 : ∀ (n : Nat) (y13 : Int32), g_loop (fun q => m_X5_slotsRight_L65 c_ho y1 q) n y13 = some rl14 → ∀ (ls : Array Slot), lv_has ls 4 [(0, .ref A_x), (1, .int y1), (2, .int ((7 : Int32) * y1)), (3, .int y13)] → W p l e (headSpec wsX5_slotsRight rm_X5_slotsRight).room s m (([.ref A_x] : List Value).toArray) below meth c s.heap [] 0 0 Q (F0 m 65 ls []) := by
                intro n
                induction n with
                | zero =>
                  intro y13 hm
                  exact g_loop_z hm
                | succ n ih =>
                  intro y13 hm ls hl
                  obtain ⟨q, hm, hy⟩ := g_loop_s hm
                  have hm : m_X5_slotsRight_L65 c_ho y1 y13 = some q := hm
                  unfold m_X5_slotsRight_L65 at hm
                  refine lv_iload_n hx hb dX5_slotsRight_65 rfl (lv_at hl 3 rfl) ?_
                  refine lv_bipush (v := 7) hx hb dX5_slotsRight_66 (by decide) ?_
                  refine lv_icmp_ge (tgt := 99) hx hb dX5_slotsRight_68 (by decide) (fun c15 => ?_) (fun c15 => ?_)
                  · have hm := g_t c15 hm
                    cases hm
                    exact hE14 hy _ (lv_sub hl [0, 1] rfl)
                  · have hm := g_f c15 hm
                    refine lv_aload_n hx hb dX5_slotsRight_71 rfl (lv_at hl 0 rfl) ?_
                    refine va_get (D := (dC, dI)) (ci := 3) (v := .ref A_ho) (C := RX5) (T := TX5) (N := 12) hx hb hts hi_X5_slotsRight_X5 hown hK hP 0 rfl rfl 5 (by decide) (hts (Cond.fieldLink RX5 19 "BuddyFilesModel" "home" "[I") hk_X5_slotsRight_19) (fun _ h9 => h9) rfl dX5_slotsRight_72 ?_
                    refine lv_iload_n hx hb dX5_slotsRight_75 rfl (lv_at hl 2 rfl) ?_
                    obtain ⟨x16, ex, hm⟩ := g_bind hm
                    refine w_ald hx hb hK hP 4 3 rfl rfl ex dX5_slotsRight_76 ?_
                    refine lv_if_ne (tgt := 93) hx hb dX5_slotsRight_77 (by decide) (fun c17 => ?_) (fun c17 => ?_)
                    · have hm := g_f c17 hm
                      refine lv_iinc (v := (y13 + (1 : Int32))) (lv' := [(3, .int (y13 + (1 : Int32))), (0, .ref A_x), (1, .int y1), (2, .int ((7 : Int32) * y1))]) hx hb dX5_slotsRight_93 hl (k := 3) rfl rfl (by decide) rfl (fun ls hl => ?_)
                      refine lv_goto (tgt := 65) hx hb dX5_slotsRight_96 (by decide) ?_
                      cases hm
                      exact ih _ hy _ (lv_sub hl [1, 2, 3, 0] rfl)
                    · have hm := g_t c17 hm
                      refine lv_aload_n hx hb dX5_slotsRight_80 rfl (lv_at hl 0 rfl) ?_
                      refine va_get (D := (dC, dI)) (ci := 3) (v := .ref A_ho) (C := RX5) (T := TX5) (N := 12) hx hb hts hi_X5_slotsRight_X5 hown hK hP 0 rfl rfl 5 (by decide) (hts (Cond.fieldLink RX5 19 "BuddyFilesModel" "home" "[I") hk_X5_slotsRight_19) (fun _ h9 => h9) rfl dX5_slotsRight_81 ?_
                      refine lv_iload_n hx hb dX5_slotsRight_84 rfl (lv_at hl 2 rfl) ?_
                      refine lv_iload_n hx hb dX5_slotsRight_85 rfl (lv_at hl 3 rfl) ?_
                      refine lv_iadd hx hb dX5_slotsRight_86 ?_
                      obtain ⟨x18, ex, hm⟩ := g_bind hm
                      refine w_ald hx hb hK hP 4 3 rfl rfl ex dX5_slotsRight_87 ?_
                      refine lv_if_eq (tgt := 93) hx hb dX5_slotsRight_88 (by decide) (fun c19 => ?_) (fun c19 => ?_)
                      · have hm := g_t c19 hm
                        refine lv_iinc (v := (y13 + (1 : Int32))) (lv' := [(3, .int (y13 + (1 : Int32))), (0, .ref A_x), (1, .int y1), (2, .int ((7 : Int32) * y1))]) hx hb dX5_slotsRight_93 hl (k := 3) rfl rfl (by decide) rfl (fun ls hl => ?_)
                        refine lv_goto (tgt := 65) hx hb dX5_slotsRight_96 (by decide) ?_
                        cases hm
                        exact ih _ hy _ (lv_sub hl [1, 2, 3, 0] rfl)
                      · have hm := g_f c19 hm
                        refine lv_iconst (v := 0) hx hb dX5_slotsRight_91 (by decide) ?_
                        cases hm
                        have hq := hV14 _ hy
                        cases hq
                        subst hQ
                        exact W.zret hx hb hr rfl (fun t ht hW => ⟨_, rfl, rfl, ht⟩) (fun _ h => nomatch h) dX5_slotsRight_92
              exact hL14 _ _ hlp _ (lv_sub hl [2, 3, 1, 0] rfl)
            · have hm := g_t c12 hm
              refine lv_iconst (v := 0) hx hb dX5_slotsRight_61 (by decide) ?_
              cases hm
              have hq := hV2 _ hy
              cases hq
              subst hQ
              exact W.zret hx hb hr rfl (fun t ht hW => ⟨_, rfl, rfl, ht⟩) (fun _ h => nomatch h) dX5_slotsRight_62
  exact hL2 _ _ hlp _ (lv_sub hl [1, 0] rfl)
theorem hi_X5_namesRight_X5 : ∀ w ∈ wsX50, w ∈ wsX5_namesRight := by decide +kernel
theorem hk_X5_namesRight_19 : Cond.fieldLink RX5 19 "BuddyFilesModel" "home" "[I" ∈ wsX5_namesRight := by decide +kernel
abbrev rm_X5_namesRight : Room := { frames := 0, cells := 0, slots := 0, locals := 0 }
set_option maxHeartbeats 4000000 in
set_option maxRecDepth 100000 in
theorem k_X5_namesRight (l : Launch) (dC : Nat → ClassId) (dI : Nat → Nat → Nat) (A_x A_da A_ma A_ha A_ho A_ti A_be A_te A_ch : Nat) (K_da K_ma K_ha K_ho K_ti K_be K_te K_ch : ClassId) (c_da c_ma c_ha c_ho c_ti c_be c_te c_ch : Nat → Int32) (c_up c_fu c_tm c_tc : Int32)  (r0 : Int32) (hm : m_X5_namesRight c_ho = some r0) : Met l yX5_namesRight wsX5_namesRight rm_X5_namesRight (va_Pc [.ref A_x] (fun U => va_P (dC, dI) vwCl (wM A_x A_da A_ma A_ha A_ho A_ti A_be A_te A_ch K_da K_ma K_ha K_ho K_ti K_be K_te K_ch c_da c_ma c_ha c_ho c_ti c_be c_te c_ch c_up c_fu c_tm c_tc) U.heap ∧ va_K (dC, dI) vwCl (tM K_da K_ma K_ha K_ho K_ti K_be K_te K_ch) U)) (vp_Si (fun r => r0 = r)) 0 0 (fun _ => False) := by
  refine Met.ofW (cc := cX5_namesRight) (maxL := 3) (ret := (some .boolean)) (by decide) rfl ?_
  intro p e s m args below meth c s₁ B hml hv
  obtain ⟨rfl, hP, hK⟩ := hv
  have hx := B.exec
  have hb := B.bytes
  have hr := B.returns
  have hts := atoms_spec (ws := wsX5_namesRight) B.pre
  have hown : s.vm.findClass RX5 = some m.cls := findClass_of_methodNamed B.named
  have hlocks := B.notSynchronized
  have hl := lv_entry ([.ref A_x]) (n := 3) (Nat.le_of_ble_eq_true rfl)
  rw [lg_entry_eq]
  generalize (lg_sl ([.ref A_x]) ++ List.replicate (3 - (lg_sl ([.ref A_x])).length) Slot.unset).toArray = ls at hl ⊢
  have hl : lv_has ls 3 [(0, .ref A_x)] := hl
  refine w_name (fun Q hQ => ?_)
  unfold m_X5_namesRight at hm
  refine lv_iconst (v := 0) hx hb dX5_namesRight_0 (by decide) ?_
  refine lv_istore_n (lv' := [(1, .int (0 : Int32)), (0, .ref A_x)]) hx hb dX5_namesRight_1 rfl hl (by decide) rfl (fun ls hl => ?_)
  obtain ⟨rl2, hlp, hm⟩ := g_bind hm
  have hE2 : Sum.inr () = rl2 → ∀ (ls : Array Slot), lv_has ls 3 [] → W p l e (headSpec wsX5_namesRight rm_X5_namesRight).room s m (([.ref A_x] : List Value).toArray) below meth c s.heap [] 0 0 Q (F0 m 62 ls []) := by
    intro  hq ls hl
    subst hq
    have hm := g_sk_r hm
    have hm := g_k0_s hm
    refine lv_iconst (v := 1) hx hb dX5_namesRight_62 (by decide) ?_
    cases hm
    subst hQ
    exact W.zret hx hb hr rfl (fun t ht hW => ⟨_, rfl, rfl, ht⟩) (fun _ h => nomatch h) dX5_namesRight_63
  have hV2 : ∀ v, Sum.inl v = rl2 → v = r0 := by
    intro v hq
    subst hq
    have hm := g_sk_l hm
    exact Option.some.inj hm
  have hL2 : ∀ (n : Nat) (y1 : Int32), g_loop (fun q => m_X5_namesRight_L2 c_ho q) n y1 = some rl2 → ∀ (ls : Array Slot), lv_has ls 3 [(0, .ref A_x), (1, .int y1)] → W p l e (headSpec wsX5_namesRight rm_X5_namesRight).room s m (([.ref A_x] : List Value).toArray) below meth c s.heap [] 0 0 Q (F0 m 2 ls []) := by
    intro n
    induction n with
    | zero =>
      intro y1 hm
      exact g_loop_z hm
    | succ n ih =>
      intro y1 hm ls hl
      obtain ⟨q, hm, hy⟩ := g_loop_s hm
      have hm : m_X5_namesRight_L2 c_ho y1 = some q := hm
      unfold m_X5_namesRight_L2 at hm
      refine lv_iload_n hx hb dX5_namesRight_2 rfl (lv_at hl 1 rfl) ?_
      refine lv_bipush (v := 6) hx hb dX5_namesRight_3 (by decide) ?_
      refine lv_icmp_ge (tgt := 62) hx hb dX5_namesRight_5 (by decide) (fun c3 => ?_) (fun c3 => ?_)
      · have hm := g_t c3 hm
        cases hm
        exact hE2 hy _ (lv_sub hl [] rfl)
      · have hm := g_f c3 hm
        refine lv_iconst (v := 0) hx hb dX5_namesRight_8 (by decide) ?_
        refine lv_istore_n (lv' := [(2, .int (0 : Int32)), (0, .ref A_x), (1, .int y1)]) hx hb dX5_namesRight_9 rfl hl (by decide) rfl (fun ls hl => ?_)
        obtain ⟨rl5, hlp, hm⟩ := g_bind hm
        have hE5 : Sum.inr () = rl5 → ∀ (ls : Array Slot), lv_has ls 3 [(0, .ref A_x), (1, .int y1)] → W p l e (headSpec wsX5_namesRight rm_X5_namesRight).room s m (([.ref A_x] : List Value).toArray) below meth c s.heap [] 0 0 Q (F0 m 56 ls []) := by
          intro  hq ls hl
          subst hq
          have hm := g_sk_r hm
          have hm := g_k0_s hm
          refine lv_iinc (v := (y1 + (1 : Int32))) (lv' := [(1, .int (y1 + (1 : Int32))), (0, .ref A_x)]) hx hb dX5_namesRight_56 hl (k := 1) rfl rfl (by decide) rfl (fun ls hl => ?_)
          refine lv_goto (tgt := 2) hx hb dX5_namesRight_59 (by decide) ?_
          cases hm
          exact ih _ hy _ (lv_sub hl [1, 0] rfl)
        have hV5 : ∀ v, Sum.inl v = rl5 → v = r0 := by
          intro v hq
          subst hq
          have hm := g_sk_l hm
          cases hm
          exact hV2 v hy
        have hL5 : ∀ (n : Nat) (y4 : Int32), g_loop (fun q => m_X5_namesRight_L10 c_ho y1 q) n y4 = some rl5 → ∀ (ls : Array Slot), lv_has ls 3 [(0, .ref A_x), (1, .int y1), (2, .int y4)] → W p l e (headSpec wsX5_namesRight rm_X5_namesRight).room s m (([.ref A_x] : List Value).toArray) below meth c s.heap [] 0 0 Q (F0 m 10 ls []) := by
          intro n
          induction n with
          | zero =>
            intro y4 hm
            exact g_loop_z hm
          | succ n ih =>
            intro y4 hm ls hl
            obtain ⟨q, hm, hy⟩ := g_loop_s hm
            have hm : m_X5_namesRight_L10 c_ho y1 y4 = some q := hm
            unfold m_X5_namesRight_L10 at hm
            refine lv_iload_n hx hb dX5_namesRight_10 rfl (lv_at hl 2 rfl) ?_
            refine lv_iload_n hx hb dX5_namesRight_11 rfl (lv_at hl 1 rfl) ?_
            refine lv_icmp_ge (tgt := 56) hx hb dX5_namesRight_12 (by decide) (fun c6 => ?_) (fun c6 => ?_)
            · have hm := g_t c6 hm
              cases hm
              exact hE5 hy _ (lv_sub hl [0, 1] rfl)
            · have hm := g_f c6 hm
              refine lv_aload_n hx hb dX5_namesRight_15 rfl (lv_at hl 0 rfl) ?_
              refine va_get (D := (dC, dI)) (ci := 3) (v := .ref A_ho) (C := RX5) (T := TX5) (N := 12) hx hb hts hi_X5_namesRight_X5 hown hK hP 0 rfl rfl 5 (by decide) (hts (Cond.fieldLink RX5 19 "BuddyFilesModel" "home" "[I") hk_X5_namesRight_19) (fun _ h9 => h9) rfl dX5_namesRight_16 ?_
              refine lv_bipush (v := 7) hx hb dX5_namesRight_19 (by decide) ?_
              refine lv_iload_n hx hb dX5_namesRight_21 rfl (lv_at hl 1 rfl) ?_
              refine lv_imul hx hb dX5_namesRight_22 ?_
              obtain ⟨x7, ex, hm⟩ := g_bind hm
              refine w_ald hx hb hK hP 4 3 rfl rfl ex dX5_namesRight_23 ?_
              refine lv_if_eq (tgt := 50) hx hb dX5_namesRight_24 (by decide) (fun c8 => ?_) (fun c8 => ?_)
              · have hm := g_t c8 hm
                refine lv_iinc (v := (y4 + (1 : Int32))) (lv' := [(2, .int (y4 + (1 : Int32))), (0, .ref A_x), (1, .int y1)]) hx hb dX5_namesRight_50 hl (k := 2) rfl rfl (by decide) rfl (fun ls hl => ?_)
                refine lv_goto (tgt := 10) hx hb dX5_namesRight_53 (by decide) ?_
                cases hm
                exact ih _ hy _ (lv_sub hl [1, 2, 0] rfl)
              · have hm := g_f c8 hm
                refine lv_aload_n hx hb dX5_namesRight_27 rfl (lv_at hl 0 rfl) ?_
                refine va_get (D := (dC, dI)) (ci := 3) (v := .ref A_ho) (C := RX5) (T := TX5) (N := 12) hx hb hts hi_X5_namesRight_X5 hown hK hP 0 rfl rfl 5 (by decide) (hts (Cond.fieldLink RX5 19 "BuddyFilesModel" "home" "[I") hk_X5_namesRight_19) (fun _ h9 => h9) rfl dX5_namesRight_28 ?_
                refine lv_bipush (v := 7) hx hb dX5_namesRight_31 (by decide) ?_
                refine lv_iload_n hx hb dX5_namesRight_33 rfl (lv_at hl 1 rfl) ?_
                refine lv_imul hx hb dX5_namesRight_34 ?_
                obtain ⟨x9, ex, hm⟩ := g_bind hm
                refine w_ald hx hb hK hP 4 3 rfl rfl ex dX5_namesRight_35 ?_
                refine lv_aload_n hx hb dX5_namesRight_36 rfl (lv_at hl 0 rfl) ?_
                refine va_get (D := (dC, dI)) (ci := 3) (v := .ref A_ho) (C := RX5) (T := TX5) (N := 12) hx hb hts hi_X5_namesRight_X5 hown hK hP 0 rfl rfl 5 (by decide) (hts (Cond.fieldLink RX5 19 "BuddyFilesModel" "home" "[I") hk_X5_namesRight_19) (fun _ h9 => h9) rfl dX5_namesRight_37 ?_
                refine lv_bipush (v := 7) hx hb dX5_namesRight_40 (by decide) ?_
                refine lv_iload_n hx hb dX5_namesRight_42 rfl (lv_at hl 2 rfl) ?_
                refine lv_imul hx hb dX5_namesRight_43 ?_
                obtain ⟨x10, ex, hm⟩ := g_bind hm
                refine w_ald hx hb hK hP 4 3 rfl rfl ex dX5_namesRight_44 ?_
                refine lv_icmp_ne (tgt := 50) hx hb dX5_namesRight_45 (by decide) (fun c11 => ?_) (fun c11 => ?_)
                · have hm := g_f c11 hm
                  refine lv_iinc (v := (y4 + (1 : Int32))) (lv' := [(2, .int (y4 + (1 : Int32))), (0, .ref A_x), (1, .int y1)]) hx hb dX5_namesRight_50 hl (k := 2) rfl rfl (by decide) rfl (fun ls hl => ?_)
                  refine lv_goto (tgt := 10) hx hb dX5_namesRight_53 (by decide) ?_
                  cases hm
                  exact ih _ hy _ (lv_sub hl [1, 2, 0] rfl)
                · have hm := g_t c11 hm
                  refine lv_iconst (v := 0) hx hb dX5_namesRight_48 (by decide) ?_
                  cases hm
                  have hq := hV5 _ hy
                  cases hq
                  subst hQ
                  exact W.zret hx hb hr rfl (fun t ht hW => ⟨_, rfl, rfl, ht⟩) (fun _ h => nomatch h) dX5_namesRight_49
        exact hL5 _ _ hlp _ (lv_sub hl [1, 2, 0] rfl)
  exact hL2 _ _ hlp _ (lv_sub hl [1, 0] rfl)
theorem hi_X5_extentsRight_X5 : ∀ w ∈ wsX50, w ∈ wsX5_extentsRight := by decide +kernel
theorem hk_X5_extentsRight_19 : Cond.fieldLink RX5 19 "BuddyFilesModel" "home" "[I" ∈ wsX5_extentsRight := by decide +kernel
abbrev rm_X5_extentsRight : Room := { frames := 2, cells := 0, slots := 0, locals := 42 }
set_option maxHeartbeats 4000000 in
set_option maxRecDepth 100000 in
theorem k_X5_extentsRight (l : Launch) (dC : Nat → ClassId) (dI : Nat → Nat → Nat) (A_x A_da A_ma A_ha A_ho A_ti A_be A_te A_ch : Nat) (K_da K_ma K_ha K_ho K_ti K_be K_te K_ch : ClassId) (c_da c_ma c_ha c_ho c_ti c_be c_te c_ch : Nat → Int32) (c_up c_fu c_tm c_tc : Int32)  (r0 : Int32) (hm : m_X5_extentsRight c_ho = some r0) : Met l yX5_extentsRight wsX5_extentsRight rm_X5_extentsRight (va_Pc [.ref A_x] (fun U => va_P (dC, dI) vwCl (wM A_x A_da A_ma A_ha A_ho A_ti A_be A_te A_ch K_da K_ma K_ha K_ho K_ti K_be K_te K_ch c_da c_ma c_ha c_ho c_ti c_be c_te c_ch c_up c_fu c_tm c_tc) U.heap ∧ va_K (dC, dI) vwCl (tM K_da K_ma K_ha K_ho K_ti K_be K_te K_ch) U)) (vp_Si (fun r => r0 = r)) 0 0 (fun _ => False) := by
  refine Met.ofW (cc := cX5_extentsRight) (maxL := 4) (ret := (some .boolean)) (by decide) rfl ?_
  intro p e s m args below meth c s₁ B hml hv
  obtain ⟨rfl, hP, hK⟩ := hv
  have hx := B.exec
  have hb := B.bytes
  have hr := B.returns
  have hts := atoms_spec (ws := wsX5_extentsRight) B.pre
  have hown : s.vm.findClass RX5 = some m.cls := findClass_of_methodNamed B.named
  have hlocks := B.notSynchronized
  have hl := lv_entry ([.ref A_x]) (n := 4) (Nat.le_of_ble_eq_true rfl)
  rw [lg_entry_eq]
  generalize (lg_sl ([.ref A_x]) ++ List.replicate (4 - (lg_sl ([.ref A_x])).length) Slot.unset).toArray = ls at hl ⊢
  have hl : lv_has ls 4 [(0, .ref A_x)] := hl
  refine w_name (fun Q hQ => ?_)
  unfold m_X5_extentsRight at hm
  refine lv_iconst (v := 0) hx hb dX5_extentsRight_0 (by decide) ?_
  refine lv_istore_n (lv' := [(1, .int (0 : Int32)), (0, .ref A_x)]) hx hb dX5_extentsRight_1 rfl hl (by decide) rfl (fun ls hl => ?_)
  obtain ⟨rl2, hlp, hm⟩ := g_bind hm
  have hE2 : Sum.inr () = rl2 → ∀ (ls : Array Slot), lv_has ls 4 [] → W p l e (headSpec wsX5_extentsRight rm_X5_extentsRight).room s m (([.ref A_x] : List Value).toArray) below meth c s.heap [] 0 0 Q (F0 m 74 ls []) := by
    intro  hq ls hl
    subst hq
    have hm := g_sk_r hm
    have hm := g_k0_s hm
    refine lv_iconst (v := 1) hx hb dX5_extentsRight_74 (by decide) ?_
    cases hm
    subst hQ
    exact W.zret hx hb hr rfl (fun t ht hW => ⟨_, rfl, rfl, ht⟩) (fun _ h => nomatch h) dX5_extentsRight_75
  have hV2 : ∀ v, Sum.inl v = rl2 → v = r0 := by
    intro v hq
    subst hq
    have hm := g_sk_l hm
    exact Option.some.inj hm
  have hL2 : ∀ (n : Nat) (y1 : Int32), g_loop (fun q => m_X5_extentsRight_L2 c_ho q) n y1 = some rl2 → ∀ (ls : Array Slot), lv_has ls 4 [(0, .ref A_x), (1, .int y1)] → W p l e (headSpec wsX5_extentsRight rm_X5_extentsRight).room s m (([.ref A_x] : List Value).toArray) below meth c s.heap [] 0 0 Q (F0 m 2 ls []) := by
    intro n
    induction n with
    | zero =>
      intro y1 hm
      exact g_loop_z hm
    | succ n ih =>
      intro y1 hm ls hl
      obtain ⟨q, hm, hy⟩ := g_loop_s hm
      have hm : m_X5_extentsRight_L2 c_ho y1 = some q := hm
      unfold m_X5_extentsRight_L2 at hm
      refine lv_iload_n hx hb dX5_extentsRight_2 rfl (lv_at hl 1 rfl) ?_
      refine lv_bipush (v := 6) hx hb dX5_extentsRight_3 (by decide) ?_
      refine lv_icmp_ge (tgt := 74) hx hb dX5_extentsRight_5 (by decide) (fun c3 => ?_) (fun c3 => ?_)
      · have hm := g_t c3 hm
        cases hm
        exact hE2 hy _ (lv_sub hl [] rfl)
      · have hm := g_f c3 hm
        refine lv_iconst (v := 0) hx hb dX5_extentsRight_8 (by decide) ?_
        refine lv_istore_n (lv' := [(2, .int (0 : Int32)), (0, .ref A_x), (1, .int y1)]) hx hb dX5_extentsRight_9 rfl hl (by decide) rfl (fun ls hl => ?_)
        obtain ⟨rl5, hlp, hm⟩ := g_bind hm
        have hE5 : Sum.inr () = rl5 → ∀ (ls : Array Slot), lv_has ls 4 [(0, .ref A_x), (1, .int y1)] → W p l e (headSpec wsX5_extentsRight rm_X5_extentsRight).room s m (([.ref A_x] : List Value).toArray) below meth c s.heap [] 0 0 Q (F0 m 68 ls []) := by
          intro  hq ls hl
          subst hq
          have hm := g_sk_r hm
          have hm := g_k0_s hm
          refine lv_iinc (v := (y1 + (1 : Int32))) (lv' := [(1, .int (y1 + (1 : Int32))), (0, .ref A_x)]) hx hb dX5_extentsRight_68 hl (k := 1) rfl rfl (by decide) rfl (fun ls hl => ?_)
          refine lv_goto (tgt := 2) hx hb dX5_extentsRight_71 (by decide) ?_
          cases hm
          exact ih _ hy _ (lv_sub hl [1, 0] rfl)
        have hV5 : ∀ v, Sum.inl v = rl5 → v = r0 := by
          intro v hq
          subst hq
          have hm := g_sk_l hm
          cases hm
          exact hV2 v hy
        have hL5 : ∀ (n : Nat) (y4 : Int32), g_loop (fun q => m_X5_extentsRight_L10 c_ho y1 q) n y4 = some rl5 → ∀ (ls : Array Slot), lv_has ls 4 [(0, .ref A_x), (1, .int y1), (2, .int y4)] → W p l e (headSpec wsX5_extentsRight rm_X5_extentsRight).room s m (([.ref A_x] : List Value).toArray) below meth c s.heap [] 0 0 Q (F0 m 10 ls []) := by
          intro n
          induction n with
          | zero =>
            intro y4 hm
            exact g_loop_z hm
          | succ n ih =>
            intro y4 hm ls hl
            obtain ⟨q, hm, hy⟩ := g_loop_s hm
            have hm : m_X5_extentsRight_L10 c_ho y1 y4 = some q := hm
            unfold m_X5_extentsRight_L10 at hm
            refine lv_iload_n hx hb dX5_extentsRight_10 rfl (lv_at hl 2 rfl) ?_
            refine lv_iconst (v := 4) hx hb dX5_extentsRight_11 (by decide) ?_
            refine lv_icmp_ge (tgt := 68) hx hb dX5_extentsRight_12 (by decide) (fun c6 => ?_) (fun c6 => ?_)
            · have hm := g_t c6 hm
              cases hm
              exact hE5 hy _ (lv_sub hl [0, 1] rfl)
            · have hm := g_f c6 hm
              refine lv_aload_n hx hb dX5_extentsRight_15 rfl (lv_at hl 0 rfl) ?_
              refine va_get (D := (dC, dI)) (ci := 3) (v := .ref A_ho) (C := RX5) (T := TX5) (N := 12) hx hb hts hi_X5_extentsRight_X5 hown hK hP 0 rfl rfl 5 (by decide) (hts (Cond.fieldLink RX5 19 "BuddyFilesModel" "home" "[I") hk_X5_extentsRight_19) (fun _ h9 => h9) rfl dX5_extentsRight_16 ?_
              refine lv_bipush (v := 7) hx hb dX5_extentsRight_19 (by decide) ?_
              refine lv_iload_n hx hb dX5_extentsRight_21 rfl (lv_at hl 1 rfl) ?_
              refine lv_imul hx hb dX5_extentsRight_22 ?_
              refine lv_iconst (v := 3) hx hb dX5_extentsRight_23 (by decide) ?_
              refine lv_iadd hx hb dX5_extentsRight_24 ?_
              refine lv_iload_n hx hb dX5_extentsRight_25 rfl (lv_at hl 2 rfl) ?_
              refine lv_iadd hx hb dX5_extentsRight_26 ?_
              obtain ⟨x7, ex, hm⟩ := g_bind hm
              refine w_ald hx hb hK hP 4 3 rfl rfl ex dX5_extentsRight_27 ?_
              refine lv_istore_n (lv' := [(3, .int x7), (0, .ref A_x), (1, .int y1), (2, .int y4)]) hx hb dX5_extentsRight_28 rfl hl (by decide) rfl (fun ls hl => ?_)
              refine lv_iload_n hx hb dX5_extentsRight_29 rfl (lv_at hl 0 rfl) ?_
              refine lv_if_eq (tgt := 62) hx hb dX5_extentsRight_30 (by decide) (fun c8 => ?_) (fun c8 => ?_)
              · have hm := g_t c8 hm
                refine lv_iinc (v := (y4 + (1 : Int32))) (lv' := [(2, .int (y4 + (1 : Int32))), (3, .int x7), (0, .ref A_x), (1, .int y1)]) hx hb dX5_extentsRight_62 hl (k := 3) rfl rfl (by decide) rfl (fun ls hl => ?_)
                refine lv_goto (tgt := 10) hx hb dX5_extentsRight_65 (by decide) ?_
                cases hm
                exact ih _ hy _ (lv_sub hl [2, 3, 0] rfl)
              · have hm := g_f c8 hm
                refine lv_iload_n hx hb dX5_extentsRight_33 rfl (lv_at hl 0 rfl) ?_
                obtain ⟨x9, ex, hm⟩ := g_bind hm
                refine vp_callSi (W.runS (As := [.int x7]) (rest := []) ⟨hx, hb, hml, hown, hts⟩ (k_X5_isRun l  x7 _ ex) (va_cwS 1 hts gX5_extentsRight_X5_isRun rfl rfl rfl (by decide +kernel) ⟨Nat.le_of_ble_eq_true rfl, Nat.le_of_ble_eq_true rfl⟩) ⟨w_bl0, fun U hU hW => ⟨rfl, trivial⟩⟩ rfl rfl hl.1 rfl (lv_room (Nat.le_of_ble_eq_true rfl)) dX5_extentsRight_34 ⟨Nat.zero_le _, Nat.zero_le _⟩) (fun _ ey => ?_)
                subst ey
                refine lv_if_eq (tgt := 60) hx hb dX5_extentsRight_37 (by decide) (fun c10 => ?_) (fun c10 => ?_)
                · have hm := g_t c10 hm
                  refine lv_iconst (v := 0) hx hb dX5_extentsRight_60 (by decide) ?_
                  cases hm
                  have hq := hV5 _ hy
                  cases hq
                  subst hQ
                  exact W.zret hx hb hr rfl (fun t ht hW => ⟨_, rfl, rfl, ht⟩) (fun _ h => nomatch h) dX5_extentsRight_61
                · have hm := g_f c10 hm
                  refine lv_iload_n hx hb dX5_extentsRight_40 rfl (lv_at hl 3 rfl) ?_
                  refine lv_if_le (tgt := 62) hx hb dX5_extentsRight_41 (by decide) (fun c11 => ?_) (fun c11 => ?_)
                  · have hm := g_t c11 hm
                    refine lv_iinc (v := (y4 + (1 : Int32))) (lv' := [(2, .int (y4 + (1 : Int32))), (3, .int x7), (0, .ref A_x), (1, .int y1)]) hx hb dX5_extentsRight_62 hl (k := 3) rfl rfl (by decide) rfl (fun ls hl => ?_)
                    refine lv_goto (tgt := 10) hx hb dX5_extentsRight_65 (by decide) ?_
                    cases hm
                    exact ih _ hy _ (lv_sub hl [2, 3, 0] rfl)
                  · have hm := g_f c11 hm
                    refine lv_aload_n hx hb dX5_extentsRight_44 rfl (lv_at hl 1 rfl) ?_
                    refine va_get (D := (dC, dI)) (ci := 3) (v := .ref A_ho) (C := RX5) (T := TX5) (N := 12) hx hb hts hi_X5_extentsRight_X5 hown hK hP 0 rfl rfl 5 (by decide) (hts (Cond.fieldLink RX5 19 "BuddyFilesModel" "home" "[I") hk_X5_extentsRight_19) (fun _ h9 => h9) rfl dX5_extentsRight_45 ?_
                    refine lv_bipush (v := 7) hx hb dX5_extentsRight_48 (by decide) ?_
                    refine lv_iload_n hx hb dX5_extentsRight_50 rfl (lv_at hl 2 rfl) ?_
                    refine lv_imul hx hb dX5_extentsRight_51 ?_
                    refine lv_iconst (v := 2) hx hb dX5_extentsRight_52 (by decide) ?_
                    refine lv_iadd hx hb dX5_extentsRight_53 ?_
                    refine lv_iload_n hx hb dX5_extentsRight_54 rfl (lv_at hl 3 rfl) ?_
                    refine lv_iadd hx hb dX5_extentsRight_55 ?_
                    obtain ⟨x12, ex, hm⟩ := g_bind hm
                    refine w_ald hx hb hK hP 4 3 rfl rfl ex dX5_extentsRight_56 ?_
                    refine lv_if_ne (tgt := 62) hx hb dX5_extentsRight_57 (by decide) (fun c13 => ?_) (fun c13 => ?_)
                    · have hm := g_f c13 hm
                      refine lv_iinc (v := (y4 + (1 : Int32))) (lv' := [(2, .int (y4 + (1 : Int32))), (3, .int x7), (0, .ref A_x), (1, .int y1)]) hx hb dX5_extentsRight_62 hl (k := 3) rfl rfl (by decide) rfl (fun ls hl => ?_)
                      refine lv_goto (tgt := 10) hx hb dX5_extentsRight_65 (by decide) ?_
                      cases hm
                      exact ih _ hy _ (lv_sub hl [2, 3, 0] rfl)
                    · have hm := g_t c13 hm
                      refine lv_iconst (v := 0) hx hb dX5_extentsRight_60 (by decide) ?_
                      cases hm
                      have hq := hV5 _ hy
                      cases hq
                      subst hQ
                      exact W.zret hx hb hr rfl (fun t ht hW => ⟨_, rfl, rfl, ht⟩) (fun _ h => nomatch h) dX5_extentsRight_61
        exact hL5 _ _ hlp _ (lv_sub hl [1, 2, 0] rfl)
  exact hL2 _ _ hlp _ (lv_sub hl [1, 0] rfl)
theorem hi_X5_blocksRight_X5 : ∀ w ∈ wsX50, w ∈ wsX5_blocksRight := by decide +kernel
theorem hk_X5_blocksRight_22 : Cond.fieldLink RX5 22 "BuddyFilesModel" "times" "[I" ∈ wsX5_blocksRight := by decide +kernel
theorem hk_X5_blocksRight_19 : Cond.fieldLink RX5 19 "BuddyFilesModel" "home" "[I" ∈ wsX5_blocksRight := by decide +kernel
abbrev rm_X5_blocksRight : Room := { frames := 2, cells := 0, slots := 0, locals := 40 }
set_option maxHeartbeats 4000000 in
set_option maxRecDepth 100000 in
theorem k_X5_blocksRight (l : Launch) (dC : Nat → ClassId) (dI : Nat → Nat → Nat) (A_x A_da A_ma A_ha A_ho A_ti A_be A_te A_ch : Nat) (K_da K_ma K_ha K_ho K_ti K_be K_te K_ch : ClassId) (c_da c_ma c_ha c_ho c_ti c_be c_te c_ch : Nat → Int32) (c_up c_fu c_tm c_tc : Int32) (sz : Nat)  (r0 : Int32) (o_ti : (Nat → Int32)) (hm : m_X5_blocksRight c_ho c_ti = some (r0, o_ti)) : Met l yX5_blocksRight wsX5_blocksRight rm_X5_blocksRight (va_Pc [.ref A_x] (fun U => U.heap.size = sz ∧ va_P (dC, dI) vwCl (wM A_x A_da A_ma A_ha A_ho A_ti A_be A_te A_ch K_da K_ma K_ha K_ho K_ti K_be K_te K_ch c_da c_ma c_ha c_ho c_ti c_be c_te c_ch c_up c_fu c_tm c_tc) U.heap ∧ va_K (dC, dI) vwCl (tM K_da K_ma K_ha K_ho K_ti K_be K_te K_ch) U ∧ va_D (fun _ => True) (wM A_x A_da A_ma A_ha A_ho A_ti A_be A_te A_ch K_da K_ma K_ha K_ho K_ti K_be K_te K_ch c_da c_ma c_ha c_ho c_ti c_be c_te c_ch c_up c_fu c_tm c_tc))) (va_Qi (fun (r : Int32) (_ : Unit) => r0 = r) (fun _ t => va_P (dC, dI) vwCl (wM A_x A_da A_ma A_ha A_ho A_ti A_be A_te A_ch K_da K_ma K_ha K_ho K_ti K_be K_te K_ch c_da c_ma c_ha c_ho o_ti c_be c_te c_ch c_up c_fu c_tm c_tc) t.heap ∧ va_D (va_A (wM A_x A_da A_ma A_ha A_ho A_ti A_be A_te A_ch K_da K_ma K_ha K_ho K_ti K_be K_te K_ch c_da c_ma c_ha c_ho c_ti c_be c_te c_ch c_up c_fu c_tm c_tc) sz) (wM A_x A_da A_ma A_ha A_ho A_ti A_be A_te A_ch K_da K_ma K_ha K_ho K_ti K_be K_te K_ch c_da c_ma c_ha c_ho o_ti c_be c_te c_ch c_up c_fu c_tm c_tc)) (va_A (wM A_x A_da A_ma A_ha A_ho A_ti A_be A_te A_ch K_da K_ma K_ha K_ho K_ti K_be K_te K_ch c_da c_ma c_ha c_ho c_ti c_be c_te c_ch c_up c_fu c_tm c_tc) sz)) 0 0 (va_A (wM A_x A_da A_ma A_ha A_ho A_ti A_be A_te A_ch K_da K_ma K_ha K_ho K_ti K_be K_te K_ch c_da c_ma c_ha c_ho c_ti c_be c_te c_ch c_up c_fu c_tm c_tc) sz) := by
  refine Met.ofW (cc := cX5_blocksRight) (maxL := 7) (ret := (some .boolean)) (by decide) rfl ?_
  intro p e s m args below meth c s₁ B hml hv
  obtain ⟨rfl, hsz, hP, hK, hD0⟩ := hv
  have hx := B.exec
  have hb := B.bytes
  have hr := B.returns
  have hts := atoms_spec (ws := wsX5_blocksRight) B.pre
  have hown : s.vm.findClass RX5 = some m.cls := findClass_of_methodNamed B.named
  have hlocks := B.notSynchronized
  subst hsz
  have hD := hD0.self (sz := s.heap.size)
  generalize hAe : va_A (wM A_x A_da A_ma A_ha A_ho A_ti A_be A_te A_ch K_da K_ma K_ha K_ho K_ti K_be K_te K_ch c_da c_ma c_ha c_ho c_ti c_be c_te c_ch c_up c_fu c_tm c_tc) s.heap.size = A at hD ⊢
  have hA : ∀ q : Nat, s.heap.size ≤ q → A q := fun q h => by rw [← hAe]; exact Or.inr h
  have hS : va_S A s.heap s.heap [] := va_S.rf
  have hP : va_P (dC, dI) vwCl (wM A_x A_da A_ma A_ha A_ho A_ti A_be A_te A_ch K_da K_ma K_ha K_ho K_ti K_be K_te K_ch c_da c_ma c_ha c_ho c_ti c_be c_te c_ch c_up c_fu c_tm c_tc) s.heap := hP
  have hl := lv_entry ([.ref A_x]) (n := 7) (Nat.le_of_ble_eq_true rfl)
  rw [lg_entry_eq]
  generalize (lg_sl ([.ref A_x]) ++ List.replicate (7 - (lg_sl ([.ref A_x])).length) Slot.unset).toArray = ls at hl ⊢
  have hl : lv_has ls 7 [(0, .ref A_x)] := hl
  refine w_name (fun Q hQ => ?_)
  unfold m_X5_blocksRight at hm
  refine lv_iconst (v := 1) hx hb dX5_blocksRight_0 (by decide) ?_
  refine lv_istore_n (lv' := [(1, .int (1 : Int32)), (0, .ref A_x)]) hx hb dX5_blocksRight_1 rfl hl (by decide) rfl (fun ls hl => ?_)
  refine lv_iconst (v := 0) hx hb dX5_blocksRight_2 (by decide) ?_
  refine lv_istore_n (lv' := [(2, .int (0 : Int32)), (1, .int (1 : Int32)), (0, .ref A_x)]) hx hb dX5_blocksRight_3 rfl hl (by decide) rfl (fun ls hl => ?_)
  obtain ⟨rl6, hlp, hm⟩ := g_bind hm
  have hE6 : ∀ (z4 : Int32) (f5 : (Nat → Int32)), (z4, f5) = rl6 → ∀ (H6e : Heap) (locs6e : List Loc), va_P (dC, dI) vwCl (wM A_x A_da A_ma A_ha A_ho A_ti A_be A_te A_ch K_da K_ma K_ha K_ho K_ti K_be K_te K_ch c_da c_ma c_ha c_ho f5 c_be c_te c_ch c_up c_fu c_tm c_tc) H6e → va_D A (wM A_x A_da A_ma A_ha A_ho A_ti A_be A_te A_ch K_da K_ma K_ha K_ho K_ti K_be K_te K_ch c_da c_ma c_ha c_ho f5 c_be c_te c_ch c_up c_fu c_tm c_tc) → va_S A s.heap H6e locs6e → ∀ (ls : Array Slot), lv_has ls 7 [(1, .int z4)] → W p l e (headSpec wsX5_blocksRight rm_X5_blocksRight).room s m (([.ref A_x] : List Value).toArray) below meth c H6e locs6e 0 0 Q (F0 m 152 ls []) := by
    intro z4 f5 hq H6e locs6e hP hD hS ls hl
    subst hq
    have hm := g_k2_s hm
    refine lv_iload_n hx hb dX5_blocksRight_152 rfl (lv_at hl 0 rfl) ?_
    obtain ⟨x39, ex, hm⟩ := g_bind hm
    obtain ⟨hn, ex⟩ := g_bool_s ex
    subst ex
    cases hm
    subst hQ
    exact W.zret hx hb hr hn (fun t ht hW => ⟨⟨_, (), rfl, rfl, by rw [ht]; exact hP, hD⟩, hS.F ht⟩) hS.2.2 dX5_blocksRight_153
  have hL6 : ∀ (n : Nat) (y1 : Int32) (y2 : Int32) (f3 : (Nat → Int32)), g_loop (fun q => m_X5_blocksRight_L4 c_ho q.1 q.2.1 q.2.2) n (y1, y2, f3) = some rl6 → ∀ (H6b : Heap) (locs6b : List Loc), va_P (dC, dI) vwCl (wM A_x A_da A_ma A_ha A_ho A_ti A_be A_te A_ch K_da K_ma K_ha K_ho K_ti K_be K_te K_ch c_da c_ma c_ha c_ho f3 c_be c_te c_ch c_up c_fu c_tm c_tc) H6b → va_D A (wM A_x A_da A_ma A_ha A_ho A_ti A_be A_te A_ch K_da K_ma K_ha K_ho K_ti K_be K_te K_ch c_da c_ma c_ha c_ho f3 c_be c_te c_ch c_up c_fu c_tm c_tc) → va_S A s.heap H6b locs6b → ∀ (ls : Array Slot), lv_has ls 7 [(0, .ref A_x), (1, .int y1), (2, .int y2)] → W p l e (headSpec wsX5_blocksRight rm_X5_blocksRight).room s m (([.ref A_x] : List Value).toArray) below meth c H6b locs6b 0 0 Q (F0 m 4 ls []) := by
    intro n
    induction n with
    | zero =>
      intro y1 y2 f3 hm
      exact g_loop_z hm
    | succ n ih =>
      intro y1 y2 f3 hm H6b locs6b hP hD hS ls hl
      obtain ⟨q, hm, hy⟩ := g_loop_s hm
      have hm : m_X5_blocksRight_L4 c_ho y1 y2 f3 = some q := hm
      unfold m_X5_blocksRight_L4 at hm
      refine lv_iload_n hx hb dX5_blocksRight_4 rfl (lv_at hl 2 rfl) ?_
      refine lv_bipush (v := 32) hx hb dX5_blocksRight_5 (by decide) ?_
      refine lv_icmp_ge (tgt := 152) hx hb dX5_blocksRight_7 (by decide) (fun c7 => ?_) (fun c7 => ?_)
      · have hm := g_t c7 hm
        cases hm
        exact hE6 _ _ hy _ _ hP hD hS _ (lv_sub hl [1] rfl)
      · have hm := g_f c7 hm
        refine lv_aload_n hx hb dX5_blocksRight_10 rfl (lv_at hl 0 rfl) ?_
        refine va_get (D := (dC, dI)) (ci := 3) (v := .ref A_ti) (C := RX5) (T := TX5) (N := 12) hx hb hts hi_X5_blocksRight_X5 hown hK hP 0 rfl rfl 6 (by decide) (hts (Cond.fieldLink RX5 22 "BuddyFilesModel" "times" "[I") hk_X5_blocksRight_22) (fun _ h9 => h9) rfl dX5_blocksRight_11 ?_
        refine lv_iload_n hx hb dX5_blocksRight_14 rfl (lv_at hl 2 rfl) ?_
        refine lv_iconst (v := 0) hx hb dX5_blocksRight_15 (by decide) ?_
        obtain ⟨f8, ex, hm⟩ := g_bind hm
        refine w_ast hx hb hK hP hD hS 5 4 rfl rfl ex dX5_blocksRight_16 (fun H9 locs9 hP hD hS => ?_)
        have hP : va_P (dC, dI) vwCl (wM A_x A_da A_ma A_ha A_ho A_ti A_be A_te A_ch K_da K_ma K_ha K_ho K_ti K_be K_te K_ch c_da c_ma c_ha c_ho f8 c_be c_te c_ch c_up c_fu c_tm c_tc) H9 := hP
        have hD : va_D A (wM A_x A_da A_ma A_ha A_ho A_ti A_be A_te A_ch K_da K_ma K_ha K_ho K_ti K_be K_te K_ch c_da c_ma c_ha c_ho f8 c_be c_te c_ch c_up c_fu c_tm c_tc) := hD
        refine lv_iconst (v := 0) hx hb dX5_blocksRight_17 (by decide) ?_
        refine lv_istore_n (lv' := [(3, .int (0 : Int32)), (0, .ref A_x), (1, .int y1), (2, .int y2)]) hx hb dX5_blocksRight_18 rfl hl (by decide) rfl (fun ls hl => ?_)
        obtain ⟨rl13, hlp, hm⟩ := g_bind hm
        have hE13 : ∀ (f12 : (Nat → Int32)), f12 = rl13 → ∀ (H13e : Heap) (locs13e : List Loc), va_P (dC, dI) vwCl (wM A_x A_da A_ma A_ha A_ho A_ti A_be A_te A_ch K_da K_ma K_ha K_ho K_ti K_be K_te K_ch c_da c_ma c_ha c_ho f12 c_be c_te c_ch c_up c_fu c_tm c_tc) H13e → va_D A (wM A_x A_da A_ma A_ha A_ho A_ti A_be A_te A_ch K_da K_ma K_ha K_ho K_ti K_be K_te K_ch c_da c_ma c_ha c_ho f12 c_be c_te c_ch c_up c_fu c_tm c_tc) → va_S A s.heap H13e locs13e → ∀ (ls : Array Slot), lv_has ls 7 [(0, .ref A_x), (1, .int y1), (2, .int y2)] → W p l e (headSpec wsX5_blocksRight rm_X5_blocksRight).room s m (([.ref A_x] : List Value).toArray) below meth c H13e locs13e 0 0 Q (F0 m 126 ls []) := by
          intro f12 hq H13e locs13e hP hD hS ls hl
          subst hq
          have hm := g_k1_s hm
          refine lv_iload_n hx hb dX5_blocksRight_126 rfl (lv_at hl 1 rfl) ?_
          refine lv_if_eq (tgt := 144) hx hb dX5_blocksRight_127 (by decide) (fun c36 => ?_) (fun c36 => ?_)
          · have hm := g_t c36 hm
            refine lv_iconst (v := 0) hx hb dX5_blocksRight_144 (by decide) ?_
            refine lv_istore_n (lv' := [(1, .int (0 : Int32)), (0, .ref A_x), (2, .int y2)]) hx hb dX5_blocksRight_145 rfl hl (by decide) rfl (fun ls hl => ?_)
            refine lv_iinc (v := (y2 + (1 : Int32))) (lv' := [(2, .int (y2 + (1 : Int32))), (1, .int (0 : Int32)), (0, .ref A_x)]) hx hb dX5_blocksRight_146 hl (k := 2) rfl rfl (by decide) rfl (fun ls hl => ?_)
            refine lv_goto (tgt := 4) hx hb dX5_blocksRight_149 (by decide) ?_
            cases hm
            exact ih _ _ _ hy _ _ hP hD hS _ (lv_sub hl [2, 1, 0] rfl)
          · have hm := g_f c36 hm
            refine lv_aload_n hx hb dX5_blocksRight_130 rfl (lv_at hl 0 rfl) ?_
            refine va_get (D := (dC, dI)) (ci := 3) (v := .ref A_ti) (C := RX5) (T := TX5) (N := 12) hx hb hts hi_X5_blocksRight_X5 hown hK hP 0 rfl rfl 6 (by decide) (hts (Cond.fieldLink RX5 22 "BuddyFilesModel" "times" "[I") hk_X5_blocksRight_22) (fun _ h9 => h9) rfl dX5_blocksRight_131 ?_
            refine lv_iload_n hx hb dX5_blocksRight_134 rfl (lv_at hl 2 rfl) ?_
            obtain ⟨x37, ex, hm⟩ := g_bind hm
            refine w_ald hx hb hK hP 5 4 rfl rfl ex dX5_blocksRight_135 ?_
            refine lv_iconst (v := 2) hx hb dX5_blocksRight_136 (by decide) ?_
            refine lv_icmp_ge (tgt := 144) hx hb dX5_blocksRight_137 (by decide) (fun c38 => ?_) (fun c38 => ?_)
            · have hm := g_t c38 hm
              refine lv_iconst (v := 0) hx hb dX5_blocksRight_144 (by decide) ?_
              refine lv_istore_n (lv' := [(1, .int (0 : Int32)), (0, .ref A_x), (2, .int y2)]) hx hb dX5_blocksRight_145 rfl hl (by decide) rfl (fun ls hl => ?_)
              refine lv_iinc (v := (y2 + (1 : Int32))) (lv' := [(2, .int (y2 + (1 : Int32))), (1, .int (0 : Int32)), (0, .ref A_x)]) hx hb dX5_blocksRight_146 hl (k := 2) rfl rfl (by decide) rfl (fun ls hl => ?_)
              refine lv_goto (tgt := 4) hx hb dX5_blocksRight_149 (by decide) ?_
              cases hm
              exact ih _ _ _ hy _ _ hP hD hS _ (lv_sub hl [2, 1, 0] rfl)
            · have hm := g_f c38 hm
              refine lv_iconst (v := 1) hx hb dX5_blocksRight_140 (by decide) ?_
              refine lv_goto (tgt := 145) hx hb dX5_blocksRight_141 (by decide) ?_
              refine lv_istore_n (lv' := [(1, .int (1 : Int32)), (0, .ref A_x), (2, .int y2)]) hx hb dX5_blocksRight_145 rfl hl (by decide) rfl (fun ls hl => ?_)
              refine lv_iinc (v := (y2 + (1 : Int32))) (lv' := [(2, .int (y2 + (1 : Int32))), (1, .int (1 : Int32)), (0, .ref A_x)]) hx hb dX5_blocksRight_146 hl (k := 2) rfl rfl (by decide) rfl (fun ls hl => ?_)
              refine lv_goto (tgt := 4) hx hb dX5_blocksRight_149 (by decide) ?_
              cases hm
              exact ih _ _ _ hy _ _ hP hD hS _ (lv_sub hl [2, 1, 0] rfl)
        have hL13 : ∀ (n : Nat) (y10 : Int32) (f11 : (Nat → Int32)), g_loop (fun q => m_X5_blocksRight_L19 c_ho y2 q.1 q.2) n (y10, f11) = some rl13 → ∀ (H13b : Heap) (locs13b : List Loc), va_P (dC, dI) vwCl (wM A_x A_da A_ma A_ha A_ho A_ti A_be A_te A_ch K_da K_ma K_ha K_ho K_ti K_be K_te K_ch c_da c_ma c_ha c_ho f11 c_be c_te c_ch c_up c_fu c_tm c_tc) H13b → va_D A (wM A_x A_da A_ma A_ha A_ho A_ti A_be A_te A_ch K_da K_ma K_ha K_ho K_ti K_be K_te K_ch c_da c_ma c_ha c_ho f11 c_be c_te c_ch c_up c_fu c_tm c_tc) → va_S A s.heap H13b locs13b → ∀ (ls : Array Slot), lv_has ls 7 [(0, .ref A_x), (1, .int y1), (2, .int y2), (3, .int y10)] → W p l e (headSpec wsX5_blocksRight rm_X5_blocksRight).room s m (([.ref A_x] : List Value).toArray) below meth c H13b locs13b 0 0 Q (F0 m 19 ls []) := by
          intro n
          induction n with
          | zero =>
            intro y10 f11 hm
            exact g_loop_z hm
          | succ n ih =>
            intro y10 f11 hm H13b locs13b hP hD hS ls hl
            obtain ⟨q, hm, hy⟩ := g_loop_s hm
            have hm : m_X5_blocksRight_L19 c_ho y2 y10 f11 = some q := hm
            unfold m_X5_blocksRight_L19 at hm
            refine lv_iload_n hx hb dX5_blocksRight_19 rfl (lv_at hl 3 rfl) ?_
            refine lv_bipush (v := 6) hx hb dX5_blocksRight_20 (by decide) ?_
            refine lv_icmp_ge (tgt := 126) hx hb dX5_blocksRight_22 (by decide) (fun c14 => ?_) (fun c14 => ?_)
            · have hm := g_t c14 hm
              cases hm
              exact hE13 _ hy _ _ hP hD hS _ (lv_sub hl [0, 1, 2] rfl)
            · have hm := g_f c14 hm
              refine lv_iconst (v := 0) hx hb dX5_blocksRight_25 (by decide) ?_
              refine lv_istore (lv' := [(4, .int (0 : Int32)), (0, .ref A_x), (1, .int y1), (2, .int y2), (3, .int y10)]) hx hb dX5_blocksRight_26 hl (by decide) rfl (fun ls hl => ?_)
              obtain ⟨rl18, hlp, hm⟩ := g_bind hm
              have hE18 : ∀ (f17 : (Nat → Int32)), f17 = rl18 → ∀ (H18e : Heap) (locs18e : List Loc), va_P (dC, dI) vwCl (wM A_x A_da A_ma A_ha A_ho A_ti A_be A_te A_ch K_da K_ma K_ha K_ho K_ti K_be K_te K_ch c_da c_ma c_ha c_ho f17 c_be c_te c_ch c_up c_fu c_tm c_tc) H18e → va_D A (wM A_x A_da A_ma A_ha A_ho A_ti A_be A_te A_ch K_da K_ma K_ha K_ho K_ti K_be K_te K_ch c_da c_ma c_ha c_ho f17 c_be c_te c_ch c_up c_fu c_tm c_tc) → va_S A s.heap H18e locs18e → ∀ (ls : Array Slot), lv_has ls 7 [(0, .ref A_x), (1, .int y1), (2, .int y2), (3, .int y10)] → W p l e (headSpec wsX5_blocksRight rm_X5_blocksRight).room s m (([.ref A_x] : List Value).toArray) below meth c H18e locs18e 0 0 Q (F0 m 120 ls []) := by
                intro f17 hq H18e locs18e hP hD hS ls hl
                subst hq
                have hm := g_k1_s hm
                refine lv_iinc (v := (y10 + (1 : Int32))) (lv' := [(3, .int (y10 + (1 : Int32))), (0, .ref A_x), (1, .int y1), (2, .int y2)]) hx hb dX5_blocksRight_120 hl (k := 3) rfl rfl (by decide) rfl (fun ls hl => ?_)
                refine lv_goto (tgt := 19) hx hb dX5_blocksRight_123 (by decide) ?_
                cases hm
                exact ih _ _ hy _ _ hP hD hS _ (lv_sub hl [1, 2, 3, 0] rfl)
              have hL18 : ∀ (n : Nat) (y15 : Int32) (f16 : (Nat → Int32)), g_loop (fun q => m_X5_blocksRight_L28 c_ho y2 y10 q.1 q.2) n (y15, f16) = some rl18 → ∀ (H18b : Heap) (locs18b : List Loc), va_P (dC, dI) vwCl (wM A_x A_da A_ma A_ha A_ho A_ti A_be A_te A_ch K_da K_ma K_ha K_ho K_ti K_be K_te K_ch c_da c_ma c_ha c_ho f16 c_be c_te c_ch c_up c_fu c_tm c_tc) H18b → va_D A (wM A_x A_da A_ma A_ha A_ho A_ti A_be A_te A_ch K_da K_ma K_ha K_ho K_ti K_be K_te K_ch c_da c_ma c_ha c_ho f16 c_be c_te c_ch c_up c_fu c_tm c_tc) → va_S A s.heap H18b locs18b → ∀ (ls : Array Slot), lv_has ls 7 [(0, .ref A_x), (1, .int y1), (2, .int y2), (3, .int y10), (4, .int y15)] → W p l e (headSpec wsX5_blocksRight rm_X5_blocksRight).room s m (([.ref A_x] : List Value).toArray) below meth c H18b locs18b 0 0 Q (F0 m 28 ls []) := by
                intro n
                induction n with
                | zero =>
                  intro y15 f16 hm
                  exact g_loop_z hm
                | succ n ih =>
                  intro y15 f16 hm H18b locs18b hP hD hS ls hl
                  obtain ⟨q, hm, hy⟩ := g_loop_s hm
                  have hm : m_X5_blocksRight_L28 c_ho y2 y10 y15 f16 = some q := hm
                  unfold m_X5_blocksRight_L28 at hm
                  refine lv_iload hx hb dX5_blocksRight_28 (lv_at hl 4 rfl) ?_
                  refine lv_iconst (v := 4) hx hb dX5_blocksRight_30 (by decide) ?_
                  refine lv_icmp_ge (tgt := 120) hx hb dX5_blocksRight_31 (by decide) (fun c19 => ?_) (fun c19 => ?_)
                  · have hm := g_t c19 hm
                    cases hm
                    exact hE18 _ hy _ _ hP hD hS _ (lv_sub hl [0, 1, 2, 3] rfl)
                  · have hm := g_f c19 hm
                    refine lv_aload_n hx hb dX5_blocksRight_34 rfl (lv_at hl 0 rfl) ?_
                    refine va_get (D := (dC, dI)) (ci := 3) (v := .ref A_ho) (C := RX5) (T := TX5) (N := 12) hx hb hts hi_X5_blocksRight_X5 hown hK hP 0 rfl rfl 5 (by decide) (hts (Cond.fieldLink RX5 19 "BuddyFilesModel" "home" "[I") hk_X5_blocksRight_19) (fun _ h9 => h9) rfl dX5_blocksRight_35 ?_
                    refine lv_bipush (v := 7) hx hb dX5_blocksRight_38 (by decide) ?_
                    refine lv_iload_n hx hb dX5_blocksRight_40 rfl (lv_at hl 3 rfl) ?_
                    refine lv_imul hx hb dX5_blocksRight_41 ?_
                    refine lv_iconst (v := 3) hx hb dX5_blocksRight_42 (by decide) ?_
                    refine lv_iadd hx hb dX5_blocksRight_43 ?_
                    refine lv_iload hx hb dX5_blocksRight_44 (lv_at hl 4 rfl) ?_
                    refine lv_iadd hx hb dX5_blocksRight_46 ?_
                    obtain ⟨x20, ex, hm⟩ := g_bind hm
                    refine w_ald hx hb hK hP 4 3 rfl rfl ex dX5_blocksRight_47 ?_
                    refine lv_istore (lv' := [(5, .int x20), (0, .ref A_x), (1, .int y1), (2, .int y2), (3, .int y10), (4, .int y15)]) hx hb dX5_blocksRight_48 hl (by decide) rfl (fun ls hl => ?_)
                    refine lv_iload hx hb dX5_blocksRight_50 (lv_at hl 0 rfl) ?_
                    obtain ⟨rj22, hreg, hm⟩ := g_bind hm
                    have hJ22 : ∀ (v21 : Int32), v21 = rj22 → ∀ (H22 : Heap) (locs22 : List Loc), va_P (dC, dI) vwCl (wM A_x A_da A_ma A_ha A_ho A_ti A_be A_te A_ch K_da K_ma K_ha K_ho K_ti K_be K_te K_ch c_da c_ma c_ha c_ho f16 c_be c_te c_ch c_up c_fu c_tm c_tc) H22 → va_D A (wM A_x A_da A_ma A_ha A_ho A_ti A_be A_te A_ch K_da K_ma K_ha K_ho K_ti K_be K_te K_ch c_da c_ma c_ha c_ho f16 c_be c_te c_ch c_up c_fu c_tm c_tc) → va_S A s.heap H22 locs22 → ∀ (ls : Array Slot), lv_has ls 7 [(0, .ref A_x), (1, .int y1), (2, .int y2), (3, .int y10), (4, .int y15)] → W p l e (headSpec wsX5_blocksRight rm_X5_blocksRight).room s m (([.ref A_x] : List Value).toArray) below meth c H22 locs22 0 0 Q (F0 m 84 ls [.int v21]) := by
                      intro v21 hq H22 locs22 hP hD hS ls hl
                      subst hq
                      have hm := g_k1_s hm
                      refine lv_istore (lv' := [(6, .int v21), (0, .ref A_x), (1, .int y1), (2, .int y2), (3, .int y10), (4, .int y15)]) hx hb dX5_blocksRight_84 hl (by decide) rfl (fun ls hl => ?_)
                      refine lv_aload_n hx hb dX5_blocksRight_86 rfl (lv_at hl 1 rfl) ?_
                      refine va_get (D := (dC, dI)) (ci := 3) (v := .ref A_ti) (C := RX5) (T := TX5) (N := 12) hx hb hts hi_X5_blocksRight_X5 hown hK hP 0 rfl rfl 6 (by decide) (hts (Cond.fieldLink RX5 22 "BuddyFilesModel" "times" "[I") hk_X5_blocksRight_22) (fun _ h9 => h9) rfl dX5_blocksRight_87 ?_
                      refine lv_iload_n hx hb dX5_blocksRight_90 rfl (lv_at hl 3 rfl) ?_
                      refine lv_iload hx hb dX5_blocksRight_91 (lv_at hl 0 rfl) ?_
                      refine lv_if_eq (tgt := 107) hx hb dX5_blocksRight_93 (by decide) (fun c23 => ?_) (fun c23 => ?_)
                      · have hm := g_t c23 hm
                        refine lv_aload_n hx hb dX5_blocksRight_107 rfl (lv_at hl 1 rfl) ?_
                        refine va_get (D := (dC, dI)) (ci := 3) (v := .ref A_ti) (C := RX5) (T := TX5) (N := 12) hx hb hts hi_X5_blocksRight_X5 hown hK hP 0 rfl rfl 6 (by decide) (hts (Cond.fieldLink RX5 22 "BuddyFilesModel" "times" "[I") hk_X5_blocksRight_22) (fun _ h9 => h9) rfl dX5_blocksRight_108 ?_
                        refine lv_iload_n hx hb dX5_blocksRight_111 rfl (lv_at hl 3 rfl) ?_
                        obtain ⟨x24, ex, hm⟩ := g_bind hm
                        refine w_ald hx hb hK hP 5 4 rfl rfl ex dX5_blocksRight_112 ?_
                        obtain ⟨f25, ex, hm⟩ := g_bind hm
                        refine w_ast hx hb hK hP hD hS 5 4 rfl rfl ex dX5_blocksRight_113 (fun H26 locs26 hP hD hS => ?_)
                        have hP : va_P (dC, dI) vwCl (wM A_x A_da A_ma A_ha A_ho A_ti A_be A_te A_ch K_da K_ma K_ha K_ho K_ti K_be K_te K_ch c_da c_ma c_ha c_ho f25 c_be c_te c_ch c_up c_fu c_tm c_tc) H26 := hP
                        have hD : va_D A (wM A_x A_da A_ma A_ha A_ho A_ti A_be A_te A_ch K_da K_ma K_ha K_ho K_ti K_be K_te K_ch c_da c_ma c_ha c_ho f25 c_be c_te c_ch c_up c_fu c_tm c_tc) := hD
                        refine lv_iinc (v := (y15 + (1 : Int32))) (lv' := [(4, .int (y15 + (1 : Int32))), (6, .int v21), (0, .ref A_x), (1, .int y1), (2, .int y2), (3, .int y10)]) hx hb dX5_blocksRight_114 hl (k := 5) rfl rfl (by decide) rfl (fun ls hl => ?_)
                        refine lv_goto (tgt := 28) hx hb dX5_blocksRight_117 (by decide) ?_
                        cases hm
                        exact ih _ _ hy _ _ hP hD hS _ (lv_sub hl [2, 3, 4, 5, 0] rfl)
                      · have hm := g_f c23 hm
                        refine lv_aload_n hx hb dX5_blocksRight_96 rfl (lv_at hl 1 rfl) ?_
                        refine va_get (D := (dC, dI)) (ci := 3) (v := .ref A_ti) (C := RX5) (T := TX5) (N := 12) hx hb hts hi_X5_blocksRight_X5 hown hK hP 0 rfl rfl 6 (by decide) (hts (Cond.fieldLink RX5 22 "BuddyFilesModel" "times" "[I") hk_X5_blocksRight_22) (fun _ h9 => h9) rfl dX5_blocksRight_97 ?_
                        refine lv_iload_n hx hb dX5_blocksRight_100 rfl (lv_at hl 3 rfl) ?_
                        obtain ⟨x27, ex, hm⟩ := g_bind hm
                        refine w_ald hx hb hK hP 5 4 rfl rfl ex dX5_blocksRight_101 ?_
                        refine lv_iconst (v := 1) hx hb dX5_blocksRight_102 (by decide) ?_
                        refine lv_iadd hx hb dX5_blocksRight_103 ?_
                        refine lv_goto (tgt := 113) hx hb dX5_blocksRight_104 (by decide) ?_
                        obtain ⟨f28, ex, hm⟩ := g_bind hm
                        refine w_ast hx hb hK hP hD hS 5 4 rfl rfl ex dX5_blocksRight_113 (fun H29 locs29 hP hD hS => ?_)
                        have hP : va_P (dC, dI) vwCl (wM A_x A_da A_ma A_ha A_ho A_ti A_be A_te A_ch K_da K_ma K_ha K_ho K_ti K_be K_te K_ch c_da c_ma c_ha c_ho f28 c_be c_te c_ch c_up c_fu c_tm c_tc) H29 := hP
                        have hD : va_D A (wM A_x A_da A_ma A_ha A_ho A_ti A_be A_te A_ch K_da K_ma K_ha K_ho K_ti K_be K_te K_ch c_da c_ma c_ha c_ho f28 c_be c_te c_ch c_up c_fu c_tm c_tc) := hD
                        refine lv_iinc (v := (y15 + (1 : Int32))) (lv' := [(4, .int (y15 + (1 : Int32))), (6, .int v21), (0, .ref A_x), (1, .int y1), (2, .int y2), (3, .int y10)]) hx hb dX5_blocksRight_114 hl (k := 5) rfl rfl (by decide) rfl (fun ls hl => ?_)
                        refine lv_goto (tgt := 28) hx hb dX5_blocksRight_117 (by decide) ?_
                        cases hm
                        exact ih _ _ hy _ _ hP hD hS _ (lv_sub hl [2, 3, 4, 5, 0] rfl)
                    have hm := hreg
                    refine lv_if_eq (tgt := 83) hx hb dX5_blocksRight_52 (by decide) (fun c30 => ?_) (fun c30 => ?_)
                    · have hm := g_t c30 hm
                      refine lv_iconst (v := 0) hx hb dX5_blocksRight_83 (by decide) ?_
                      exact hJ22 _ (Option.some.inj hm) _ _ hP hD hS _ (lv_sub hl [1, 2, 3, 4, 5] rfl)
                    · have hm := g_f c30 hm
                      refine lv_iload_n hx hb dX5_blocksRight_55 rfl (lv_at hl 3 rfl) ?_
                      refine lv_iload hx hb dX5_blocksRight_56 (lv_at hl 0 rfl) ?_
                      obtain ⟨x31, ex, hm⟩ := g_bind hm
                      refine vp_callSi (W.runS (As := [.int x20]) (rest := [.int y2]) ⟨hx, hb, hml, hown, hts⟩ (k_X5_start l  x20 _ ex) (va_cwS 1 hts gX5_blocksRight_X5_start rfl rfl rfl (by decide +kernel) ⟨Nat.le_of_ble_eq_true rfl, Nat.le_of_ble_eq_true rfl⟩) ⟨w_bl0, fun U hU hW => ⟨rfl, trivial⟩⟩ rfl rfl hl.1 rfl (lv_room (Nat.le_of_ble_eq_true rfl)) dX5_blocksRight_58 ⟨Nat.zero_le _, Nat.zero_le _⟩) (fun _ ey => ?_)
                      subst ey
                      refine lv_icmp_lt (tgt := 83) hx hb dX5_blocksRight_61 (by decide) (fun c32 => ?_) (fun c32 => ?_)
                      · have hm := g_t c32 hm
                        refine lv_iconst (v := 0) hx hb dX5_blocksRight_83 (by decide) ?_
                        exact hJ22 _ (Option.some.inj hm) _ _ hP hD hS _ (lv_sub hl [1, 2, 3, 4, 5] rfl)
                      · have hm := g_f c32 hm
                        refine lv_iload_n hx hb dX5_blocksRight_64 rfl (lv_at hl 3 rfl) ?_
                        refine lv_iload hx hb dX5_blocksRight_65 (lv_at hl 0 rfl) ?_
                        obtain ⟨x33, ex, hm⟩ := g_bind hm
                        refine vp_callSi (W.runS (As := [.int x20]) (rest := [.int y2]) ⟨hx, hb, hml, hown, hts⟩ (k_X5_start l  x20 _ ex) (va_cwS 1 hts gX5_blocksRight_X5_start rfl rfl rfl (by decide +kernel) ⟨Nat.le_of_ble_eq_true rfl, Nat.le_of_ble_eq_true rfl⟩) ⟨w_bl0, fun U hU hW => ⟨rfl, trivial⟩⟩ rfl rfl hl.1 rfl (lv_room (Nat.le_of_ble_eq_true rfl)) dX5_blocksRight_67 ⟨Nat.zero_le _, Nat.zero_le _⟩) (fun _ ey => ?_)
                        subst ey
                        refine lv_iload hx hb dX5_blocksRight_70 (lv_at hl 0 rfl) ?_
                        obtain ⟨x34, ex, hm⟩ := g_bind hm
                        refine vp_callSi (W.runS (As := [.int x20]) (rest := [.int x33, .int y2]) ⟨hx, hb, hml, hown, hts⟩ (k_X5_size l  x20 _ ex) (va_cwS 1 hts gX5_blocksRight_X5_size rfl rfl rfl (by decide +kernel) ⟨Nat.le_of_ble_eq_true rfl, Nat.le_of_ble_eq_true rfl⟩) ⟨w_bl0, fun U hU hW => ⟨rfl, trivial⟩⟩ rfl rfl hl.1 rfl (lv_room (Nat.le_of_ble_eq_true rfl)) dX5_blocksRight_72 ⟨Nat.zero_le _, Nat.zero_le _⟩) (fun _ ey => ?_)
                        subst ey
                        refine lv_iadd hx hb dX5_blocksRight_75 ?_
                        refine lv_icmp_ge (tgt := 83) hx hb dX5_blocksRight_76 (by decide) (fun c35 => ?_) (fun c35 => ?_)
                        · have hm := g_t c35 hm
                          refine lv_iconst (v := 0) hx hb dX5_blocksRight_83 (by decide) ?_
                          exact hJ22 _ (Option.some.inj hm) _ _ hP hD hS _ (lv_sub hl [1, 2, 3, 4, 5] rfl)
                        · have hm := g_f c35 hm
                          refine lv_iconst (v := 1) hx hb dX5_blocksRight_79 (by decide) ?_
                          refine lv_goto (tgt := 84) hx hb dX5_blocksRight_80 (by decide) ?_
                          exact hJ22 _ (Option.some.inj hm) _ _ hP hD hS _ (lv_sub hl [1, 2, 3, 4, 5] rfl)
              exact hL18 _ _ _ hlp _ _ hP hD hS _ (lv_sub hl [1, 2, 3, 4, 0] rfl)
        exact hL13 _ _ _ hlp _ _ hP hD hS _ (lv_sub hl [1, 2, 3, 0] rfl)
  exact hL6 _ _ _ _ hlp _ _ hP hD hS _ (lv_sub hl [2, 1, 0] rfl)
theorem hi_X5_needsRight_X5 : ∀ w ∈ wsX50, w ∈ wsX5_needsRight := by decide +kernel
theorem hk_X5_needsRight_19 : Cond.fieldLink RX5 19 "BuddyFilesModel" "home" "[I" ∈ wsX5_needsRight := by decide +kernel
abbrev rm_X5_needsRight : Room := { frames := 2, cells := 0, slots := 0, locals := 40 }
set_option maxHeartbeats 4000000 in
set_option maxRecDepth 100000 in
theorem k_X5_needsRight (l : Launch) (dC : Nat → ClassId) (dI : Nat → Nat → Nat) (A_x A_da A_ma A_ha A_ho A_ti A_be A_te A_ch : Nat) (K_da K_ma K_ha K_ho K_ti K_be K_te K_ch : ClassId) (c_da c_ma c_ha c_ho c_ti c_be c_te c_ch : Nat → Int32) (c_up c_fu c_tm c_tc : Int32)  (r0 : Int32) (hm : m_X5_needsRight c_ho = some r0) : Met l yX5_needsRight wsX5_needsRight rm_X5_needsRight (va_Pc [.ref A_x] (fun U => va_P (dC, dI) vwCl (wM A_x A_da A_ma A_ha A_ho A_ti A_be A_te A_ch K_da K_ma K_ha K_ho K_ti K_be K_te K_ch c_da c_ma c_ha c_ho c_ti c_be c_te c_ch c_up c_fu c_tm c_tc) U.heap ∧ va_K (dC, dI) vwCl (tM K_da K_ma K_ha K_ho K_ti K_be K_te K_ch) U)) (vp_Si (fun r => r0 = r)) 0 0 (fun _ => False) := by
  refine Met.ofW (cc := cX5_needsRight) (maxL := 8) (ret := (some .boolean)) (by decide) rfl ?_
  intro p e s m args below meth c s₁ B hml hv
  obtain ⟨rfl, hP, hK⟩ := hv
  have hx := B.exec
  have hb := B.bytes
  have hr := B.returns
  have hts := atoms_spec (ws := wsX5_needsRight) B.pre
  have hown : s.vm.findClass RX5 = some m.cls := findClass_of_methodNamed B.named
  have hlocks := B.notSynchronized
  have hl := lv_entry ([.ref A_x]) (n := 8) (Nat.le_of_ble_eq_true rfl)
  rw [lg_entry_eq]
  generalize (lg_sl ([.ref A_x]) ++ List.replicate (8 - (lg_sl ([.ref A_x])).length) Slot.unset).toArray = ls at hl ⊢
  have hl : lv_has ls 8 [(0, .ref A_x)] := hl
  refine w_name (fun Q hQ => ?_)
  unfold m_X5_needsRight at hm
  refine lv_iconst (v := 1) hx hb dX5_needsRight_0 (by decide) ?_
  refine lv_istore_n (lv' := [(1, .int (1 : Int32)), (0, .ref A_x)]) hx hb dX5_needsRight_1 rfl hl (by decide) rfl (fun ls hl => ?_)
  refine lv_iconst (v := 0) hx hb dX5_needsRight_2 (by decide) ?_
  refine lv_istore_n (lv' := [(2, .int (0 : Int32)), (1, .int (1 : Int32)), (0, .ref A_x)]) hx hb dX5_needsRight_3 rfl hl (by decide) rfl (fun ls hl => ?_)
  obtain ⟨rl4, hlp, hm⟩ := g_bind hm
  have hE4 : ∀ (z3 : Int32), z3 = rl4 → ∀ (ls : Array Slot), lv_has ls 8 [(1, .int z3)] → W p l e (headSpec wsX5_needsRight rm_X5_needsRight).room s m (([.ref A_x] : List Value).toArray) below meth c s.heap [] 0 0 Q (F0 m 126 ls []) := by
    intro z3 hq ls hl
    subst hq
    have hm := g_k1_s hm
    refine lv_iload_n hx hb dX5_needsRight_126 rfl (lv_at hl 0 rfl) ?_
    obtain ⟨x22, ex, hm⟩ := g_bind hm
    obtain ⟨hn, ex⟩ := g_bool_s ex
    subst ex
    cases hm
    subst hQ
    exact W.zret hx hb hr hn (fun t ht hW => ⟨_, rfl, rfl, ht⟩) (fun _ h => nomatch h) dX5_needsRight_127
  have hL4 : ∀ (n : Nat) (y1 : Int32) (y2 : Int32), g_loop (fun q => m_X5_needsRight_L4 c_ho q.1 q.2) n (y1, y2) = some rl4 → ∀ (ls : Array Slot), lv_has ls 8 [(0, .ref A_x), (1, .int y1), (2, .int y2)] → W p l e (headSpec wsX5_needsRight rm_X5_needsRight).room s m (([.ref A_x] : List Value).toArray) below meth c s.heap [] 0 0 Q (F0 m 4 ls []) := by
    intro n
    induction n with
    | zero =>
      intro y1 y2 hm
      exact g_loop_z hm
    | succ n ih =>
      intro y1 y2 hm ls hl
      obtain ⟨q, hm, hy⟩ := g_loop_s hm
      have hm : m_X5_needsRight_L4 c_ho y1 y2 = some q := hm
      unfold m_X5_needsRight_L4 at hm
      refine lv_iload_n hx hb dX5_needsRight_4 rfl (lv_at hl 2 rfl) ?_
      refine lv_bipush (v := 6) hx hb dX5_needsRight_5 (by decide) ?_
      refine lv_icmp_ge (tgt := 126) hx hb dX5_needsRight_7 (by decide) (fun c5 => ?_) (fun c5 => ?_)
      · have hm := g_t c5 hm
        cases hm
        exact hE4 _ hy _ (lv_sub hl [1] rfl)
      · have hm := g_f c5 hm
        refine lv_aload_n hx hb dX5_needsRight_10 rfl (lv_at hl 0 rfl) ?_
        refine va_get (D := (dC, dI)) (ci := 3) (v := .ref A_ho) (C := RX5) (T := TX5) (N := 12) hx hb hts hi_X5_needsRight_X5 hown hK hP 0 rfl rfl 5 (by decide) (hts (Cond.fieldLink RX5 19 "BuddyFilesModel" "home" "[I") hk_X5_needsRight_19) (fun _ h9 => h9) rfl dX5_needsRight_11 ?_
        refine lv_bipush (v := 7) hx hb dX5_needsRight_14 (by decide) ?_
        refine lv_iload_n hx hb dX5_needsRight_16 rfl (lv_at hl 2 rfl) ?_
        refine lv_imul hx hb dX5_needsRight_17 ?_
        refine lv_iconst (v := 2) hx hb dX5_needsRight_18 (by decide) ?_
        refine lv_iadd hx hb dX5_needsRight_19 ?_
        obtain ⟨x6, ex, hm⟩ := g_bind hm
        refine w_ald hx hb hK hP 4 3 rfl rfl ex dX5_needsRight_20 ?_
        refine lv_iconst (v := 1) hx hb dX5_needsRight_21 (by decide) ?_
        refine lv_iadd hx hb dX5_needsRight_22 ?_
        refine lv_iconst (v := 2) hx hb dX5_needsRight_23 (by decide) ?_
        refine lv_idiv hx hb dX5_needsRight_24 (by decide) ?_
        refine lv_istore_n (lv' := [(3, .int ((x6 + (1 : Int32)) / (2 : Int32))), (0, .ref A_x), (1, .int y1), (2, .int y2)]) hx hb dX5_needsRight_25 rfl hl (by decide) rfl (fun ls hl => ?_)
        refine lv_iconst (v := 0) hx hb dX5_needsRight_26 (by decide) ?_
        refine lv_istore (lv' := [(4, .int (0 : Int32)), (3, .int ((x6 + (1 : Int32)) / (2 : Int32))), (0, .ref A_x), (1, .int y1), (2, .int y2)]) hx hb dX5_needsRight_27 hl (by decide) rfl (fun ls hl => ?_)
        refine lv_iconst (v := 0) hx hb dX5_needsRight_29 (by decide) ?_
        refine lv_istore (lv' := [(5, .int (0 : Int32)), (4, .int (0 : Int32)), (3, .int ((x6 + (1 : Int32)) / (2 : Int32))), (0, .ref A_x), (1, .int y1), (2, .int y2)]) hx hb dX5_needsRight_30 hl (by decide) rfl (fun ls hl => ?_)
        refine lv_iconst (v := 0) hx hb dX5_needsRight_32 (by decide) ?_
        refine lv_istore (lv' := [(6, .int (0 : Int32)), (5, .int (0 : Int32)), (4, .int (0 : Int32)), (3, .int ((x6 + (1 : Int32)) / (2 : Int32))), (0, .ref A_x), (1, .int y1), (2, .int y2)]) hx hb dX5_needsRight_33 hl (by decide) rfl (fun ls hl => ?_)
        obtain ⟨rl12, hlp, hm⟩ := g_bind hm
        have hE12 : ∀ (z10 : Int32) (z11 : Int32), (z10, z11) = rl12 → ∀ (ls : Array Slot), lv_has ls 8 [(0, .ref A_x), (1, .int y1), (2, .int y2), (3, .int ((x6 + (1 : Int32)) / (2 : Int32))), (4, .int z10), (5, .int z11)] → W p l e (headSpec wsX5_needsRight rm_X5_needsRight).room s m (([.ref A_x] : List Value).toArray) below meth c s.heap [] 0 0 Q (F0 m 90 ls []) := by
          intro z10 z11 hq ls hl
          subst hq
          have hm := g_k2_s hm
          refine lv_iload_n hx hb dX5_needsRight_90 rfl (lv_at hl 1 rfl) ?_
          refine lv_if_eq (tgt := 118) hx hb dX5_needsRight_91 (by decide) (fun c18 => ?_) (fun c18 => ?_)
          · have hm := g_t c18 hm
            refine lv_iconst (v := 0) hx hb dX5_needsRight_118 (by decide) ?_
            refine lv_istore_n (lv' := [(1, .int (0 : Int32)), (0, .ref A_x), (2, .int y2), (3, .int ((x6 + (1 : Int32)) / (2 : Int32))), (4, .int z10), (5, .int z11)]) hx hb dX5_needsRight_119 rfl hl (by decide) rfl (fun ls hl => ?_)
            refine lv_iinc (v := (y2 + (1 : Int32))) (lv' := [(2, .int (y2 + (1 : Int32))), (1, .int (0 : Int32)), (0, .ref A_x), (3, .int ((x6 + (1 : Int32)) / (2 : Int32))), (4, .int z10), (5, .int z11)]) hx hb dX5_needsRight_120 hl (k := 2) rfl rfl (by decide) rfl (fun ls hl => ?_)
            refine lv_goto (tgt := 4) hx hb dX5_needsRight_123 (by decide) ?_
            cases hm
            exact ih _ _ hy _ (lv_sub hl [2, 1, 0] rfl)
          · have hm := g_f c18 hm
            refine lv_iload hx hb dX5_needsRight_94 (lv_at hl 4 rfl) ?_
            refine lv_iload_n hx hb dX5_needsRight_96 rfl (lv_at hl 3 rfl) ?_
            refine lv_icmp_lt (tgt := 118) hx hb dX5_needsRight_97 (by decide) (fun c19 => ?_) (fun c19 => ?_)
            · have hm := g_t c19 hm
              refine lv_iconst (v := 0) hx hb dX5_needsRight_118 (by decide) ?_
              refine lv_istore_n (lv' := [(1, .int (0 : Int32)), (0, .ref A_x), (2, .int y2), (3, .int ((x6 + (1 : Int32)) / (2 : Int32))), (4, .int z10), (5, .int z11)]) hx hb dX5_needsRight_119 rfl hl (by decide) rfl (fun ls hl => ?_)
              refine lv_iinc (v := (y2 + (1 : Int32))) (lv' := [(2, .int (y2 + (1 : Int32))), (1, .int (0 : Int32)), (0, .ref A_x), (3, .int ((x6 + (1 : Int32)) / (2 : Int32))), (4, .int z10), (5, .int z11)]) hx hb dX5_needsRight_120 hl (k := 2) rfl rfl (by decide) rfl (fun ls hl => ?_)
              refine lv_goto (tgt := 4) hx hb dX5_needsRight_123 (by decide) ?_
              cases hm
              exact ih _ _ hy _ (lv_sub hl [2, 1, 0] rfl)
            · have hm := g_f c19 hm
              refine lv_iload hx hb dX5_needsRight_100 (lv_at hl 5 rfl) ?_
              refine lv_if_eq (tgt := 114) hx hb dX5_needsRight_102 (by decide) (fun c20 => ?_) (fun c20 => ?_)
              · have hm := g_t c20 hm
                refine lv_iconst (v := 1) hx hb dX5_needsRight_114 (by decide) ?_
                refine lv_goto (tgt := 119) hx hb dX5_needsRight_115 (by decide) ?_
                refine lv_istore_n (lv' := [(1, .int (1 : Int32)), (0, .ref A_x), (2, .int y2), (3, .int ((x6 + (1 : Int32)) / (2 : Int32))), (4, .int z10), (5, .int z11)]) hx hb dX5_needsRight_119 rfl hl (by decide) rfl (fun ls hl => ?_)
                refine lv_iinc (v := (y2 + (1 : Int32))) (lv' := [(2, .int (y2 + (1 : Int32))), (1, .int (1 : Int32)), (0, .ref A_x), (3, .int ((x6 + (1 : Int32)) / (2 : Int32))), (4, .int z10), (5, .int z11)]) hx hb dX5_needsRight_120 hl (k := 2) rfl rfl (by decide) rfl (fun ls hl => ?_)
                refine lv_goto (tgt := 4) hx hb dX5_needsRight_123 (by decide) ?_
                cases hm
                exact ih _ _ hy _ (lv_sub hl [2, 1, 0] rfl)
              · have hm := g_f c20 hm
                refine lv_iload hx hb dX5_needsRight_105 (lv_at hl 4 rfl) ?_
                refine lv_iload hx hb dX5_needsRight_107 (lv_at hl 5 rfl) ?_
                refine lv_isub hx hb dX5_needsRight_109 ?_
                refine lv_iload_n hx hb dX5_needsRight_110 rfl (lv_at hl 3 rfl) ?_
                refine lv_icmp_ge (tgt := 118) hx hb dX5_needsRight_111 (by decide) (fun c21 => ?_) (fun c21 => ?_)
                · have hm := g_t c21 hm
                  refine lv_iconst (v := 0) hx hb dX5_needsRight_118 (by decide) ?_
                  refine lv_istore_n (lv' := [(1, .int (0 : Int32)), (0, .ref A_x), (2, .int y2), (3, .int ((x6 + (1 : Int32)) / (2 : Int32))), (4, .int z10), (5, .int z11)]) hx hb dX5_needsRight_119 rfl hl (by decide) rfl (fun ls hl => ?_)
                  refine lv_iinc (v := (y2 + (1 : Int32))) (lv' := [(2, .int (y2 + (1 : Int32))), (1, .int (0 : Int32)), (0, .ref A_x), (3, .int ((x6 + (1 : Int32)) / (2 : Int32))), (4, .int z10), (5, .int z11)]) hx hb dX5_needsRight_120 hl (k := 2) rfl rfl (by decide) rfl (fun ls hl => ?_)
                  refine lv_goto (tgt := 4) hx hb dX5_needsRight_123 (by decide) ?_
                  cases hm
                  exact ih _ _ hy _ (lv_sub hl [2, 1, 0] rfl)
                · have hm := g_f c21 hm
                  refine lv_iconst (v := 1) hx hb dX5_needsRight_114 (by decide) ?_
                  refine lv_goto (tgt := 119) hx hb dX5_needsRight_115 (by decide) ?_
                  refine lv_istore_n (lv' := [(1, .int (1 : Int32)), (0, .ref A_x), (2, .int y2), (3, .int ((x6 + (1 : Int32)) / (2 : Int32))), (4, .int z10), (5, .int z11)]) hx hb dX5_needsRight_119 rfl hl (by decide) rfl (fun ls hl => ?_)
                  refine lv_iinc (v := (y2 + (1 : Int32))) (lv' := [(2, .int (y2 + (1 : Int32))), (1, .int (1 : Int32)), (0, .ref A_x), (3, .int ((x6 + (1 : Int32)) / (2 : Int32))), (4, .int z10), (5, .int z11)]) hx hb dX5_needsRight_120 hl (k := 2) rfl rfl (by decide) rfl (fun ls hl => ?_)
                  refine lv_goto (tgt := 4) hx hb dX5_needsRight_123 (by decide) ?_
                  cases hm
                  exact ih _ _ hy _ (lv_sub hl [2, 1, 0] rfl)
        have hL12 : ∀ (n : Nat) (y7 : Int32) (y8 : Int32) (y9 : Int32), g_loop (fun q => m_X5_needsRight_L35 c_ho y2 q.1 q.2.1 q.2.2) n (y7, y8, y9) = some rl12 → ∀ (ls : Array Slot), lv_has ls 8 [(0, .ref A_x), (1, .int y1), (2, .int y2), (3, .int ((x6 + (1 : Int32)) / (2 : Int32))), (4, .int y7), (5, .int y8), (6, .int y9)] → W p l e (headSpec wsX5_needsRight rm_X5_needsRight).room s m (([.ref A_x] : List Value).toArray) below meth c s.heap [] 0 0 Q (F0 m 35 ls []) := by
          intro n
          induction n with
          | zero =>
            intro y7 y8 y9 hm
            exact g_loop_z hm
          | succ n ih =>
            intro y7 y8 y9 hm ls hl
            obtain ⟨q, hm, hy⟩ := g_loop_s hm
            have hm : m_X5_needsRight_L35 c_ho y2 y7 y8 y9 = some q := hm
            unfold m_X5_needsRight_L35 at hm
            refine lv_iload hx hb dX5_needsRight_35 (lv_at hl 6 rfl) ?_
            refine lv_iconst (v := 4) hx hb dX5_needsRight_37 (by decide) ?_
            refine lv_icmp_ge (tgt := 90) hx hb dX5_needsRight_38 (by decide) (fun c13 => ?_) (fun c13 => ?_)
            · have hm := g_t c13 hm
              cases hm
              exact hE12 _ _ hy _ (lv_sub hl [0, 1, 2, 3, 4, 5] rfl)
            · have hm := g_f c13 hm
              refine lv_aload_n hx hb dX5_needsRight_41 rfl (lv_at hl 0 rfl) ?_
              refine va_get (D := (dC, dI)) (ci := 3) (v := .ref A_ho) (C := RX5) (T := TX5) (N := 12) hx hb hts hi_X5_needsRight_X5 hown hK hP 0 rfl rfl 5 (by decide) (hts (Cond.fieldLink RX5 19 "BuddyFilesModel" "home" "[I") hk_X5_needsRight_19) (fun _ h9 => h9) rfl dX5_needsRight_42 ?_
              refine lv_bipush (v := 7) hx hb dX5_needsRight_45 (by decide) ?_
              refine lv_iload_n hx hb dX5_needsRight_47 rfl (lv_at hl 2 rfl) ?_
              refine lv_imul hx hb dX5_needsRight_48 ?_
              refine lv_iconst (v := 3) hx hb dX5_needsRight_49 (by decide) ?_
              refine lv_iadd hx hb dX5_needsRight_50 ?_
              refine lv_iload hx hb dX5_needsRight_51 (lv_at hl 6 rfl) ?_
              refine lv_iadd hx hb dX5_needsRight_53 ?_
              obtain ⟨x14, ex, hm⟩ := g_bind hm
              refine w_ald hx hb hK hP 4 3 rfl rfl ex dX5_needsRight_54 ?_
              refine lv_istore (lv' := [(7, .int x14), (0, .ref A_x), (1, .int y1), (2, .int y2), (3, .int ((x6 + (1 : Int32)) / (2 : Int32))), (4, .int y7), (5, .int y8), (6, .int y9)]) hx hb dX5_needsRight_55 hl (by decide) rfl (fun ls hl => ?_)
              refine lv_iload hx hb dX5_needsRight_57 (lv_at hl 5 rfl) ?_
              refine lv_iload hx hb dX5_needsRight_59 (lv_at hl 0 rfl) ?_
              obtain ⟨x15, ex, hm⟩ := g_bind hm
              refine vp_callSi (W.runS (As := [.int x14]) (rest := [.int y7]) ⟨hx, hb, hml, hown, hts⟩ (k_X5_size l  x14 _ ex) (va_cwS 1 hts gX5_needsRight_X5_size rfl rfl rfl (by decide +kernel) ⟨Nat.le_of_ble_eq_true rfl, Nat.le_of_ble_eq_true rfl⟩) ⟨w_bl0, fun U hU hW => ⟨rfl, trivial⟩⟩ rfl rfl hl.1 rfl (lv_room (Nat.le_of_ble_eq_true rfl)) dX5_needsRight_61 ⟨Nat.zero_le _, Nat.zero_le _⟩) (fun _ ey => ?_)
              subst ey
              refine lv_iadd hx hb dX5_needsRight_64 ?_
              refine lv_istore (lv' := [(4, .int (y7 + x15)), (7, .int x14), (0, .ref A_x), (1, .int y1), (2, .int y2), (3, .int ((x6 + (1 : Int32)) / (2 : Int32))), (5, .int y8), (6, .int y9)]) hx hb dX5_needsRight_65 hl (by decide) rfl (fun ls hl => ?_)
              refine lv_iload hx hb dX5_needsRight_67 (lv_at hl 1 rfl) ?_
              refine lv_if_ne (tgt := 77) hx hb dX5_needsRight_69 (by decide) (fun c16 => ?_) (fun c16 => ?_)
              · have hm := g_f c16 hm
                refine lv_iload hx hb dX5_needsRight_77 (lv_at hl 1 rfl) ?_
                obtain ⟨x17, ex, hm⟩ := g_bind hm
                refine vp_callSi (W.runS (As := [.int x14]) (rest := []) ⟨hx, hb, hml, hown, hts⟩ (k_X5_size l  x14 _ ex) (va_cwS 1 hts gX5_needsRight_X5_size rfl rfl rfl (by decide +kernel) ⟨Nat.le_of_ble_eq_true rfl, Nat.le_of_ble_eq_true rfl⟩) ⟨w_bl0, fun U hU hW => ⟨rfl, trivial⟩⟩ rfl rfl hl.1 rfl (lv_room (Nat.le_of_ble_eq_true rfl)) dX5_needsRight_79 ⟨Nat.zero_le _, Nat.zero_le _⟩) (fun _ ey => ?_)
                subst ey
                refine lv_istore (lv' := [(5, .int x17), (4, .int (y7 + x15)), (7, .int x14), (0, .ref A_x), (1, .int y1), (2, .int y2), (3, .int ((x6 + (1 : Int32)) / (2 : Int32))), (6, .int y9)]) hx hb dX5_needsRight_82 hl (by decide) rfl (fun ls hl => ?_)
                refine lv_iinc (v := (y9 + (1 : Int32))) (lv' := [(6, .int (y9 + (1 : Int32))), (5, .int x17), (4, .int (y7 + x15)), (7, .int x14), (0, .ref A_x), (1, .int y1), (2, .int y2), (3, .int ((x6 + (1 : Int32)) / (2 : Int32)))]) hx hb dX5_needsRight_84 hl (k := 7) rfl rfl (by decide) rfl (fun ls hl => ?_)
                refine lv_goto (tgt := 35) hx hb dX5_needsRight_87 (by decide) ?_
                cases hm
                exact ih _ _ _ hy _ (lv_sub hl [4, 5, 6, 7, 2, 1, 0] rfl)
              · have hm := g_t c16 hm
                refine lv_iload hx hb dX5_needsRight_72 (lv_at hl 6 rfl) ?_
                refine lv_goto (tgt := 82) hx hb dX5_needsRight_74 (by decide) ?_
                refine lv_istore (lv' := [(5, .int y8), (4, .int (y7 + x15)), (7, .int x14), (0, .ref A_x), (1, .int y1), (2, .int y2), (3, .int ((x6 + (1 : Int32)) / (2 : Int32))), (6, .int y9)]) hx hb dX5_needsRight_82 hl (by decide) rfl (fun ls hl => ?_)
                refine lv_iinc (v := (y9 + (1 : Int32))) (lv' := [(6, .int (y9 + (1 : Int32))), (5, .int y8), (4, .int (y7 + x15)), (7, .int x14), (0, .ref A_x), (1, .int y1), (2, .int y2), (3, .int ((x6 + (1 : Int32)) / (2 : Int32)))]) hx hb dX5_needsRight_84 hl (k := 7) rfl rfl (by decide) rfl (fun ls hl => ?_)
                refine lv_goto (tgt := 35) hx hb dX5_needsRight_87 (by decide) ?_
                cases hm
                exact ih _ _ _ hy _ (lv_sub hl [4, 5, 6, 7, 2, 1, 0] rfl)
        exact hL12 _ _ _ _ hlp _ (lv_sub hl [4, 5, 6, 3, 2, 1, 0] rfl)
  exact hL4 _ _ _ hlp _ (lv_sub hl [2, 1, 0] rfl)
theorem hi_X5_mapRight_X5 : ∀ w ∈ wsX50, w ∈ wsX5_mapRight := by decide +kernel
theorem hk_X5_mapRight_22 : Cond.fieldLink RX5 22 "BuddyFilesModel" "times" "[I" ∈ wsX5_mapRight := by decide +kernel
theorem hk_X5_mapRight_19 : Cond.fieldLink RX5 19 "BuddyFilesModel" "home" "[I" ∈ wsX5_mapRight := by decide +kernel
abbrev rm_X5_mapRight : Room := { frames := 0, cells := 0, slots := 0, locals := 0 }
set_option maxHeartbeats 4000000 in
set_option maxRecDepth 100000 in
theorem k_X5_mapRight (l : Launch) (dC : Nat → ClassId) (dI : Nat → Nat → Nat) (A_x A_da A_ma A_ha A_ho A_ti A_be A_te A_ch : Nat) (K_da K_ma K_ha K_ho K_ti K_be K_te K_ch : ClassId) (c_da c_ma c_ha c_ho c_ti c_be c_te c_ch : Nat → Int32) (c_up c_fu c_tm c_tc : Int32)  (r0 : Int32) (hm : m_X5_mapRight c_ho c_ti = some r0) : Met l yX5_mapRight wsX5_mapRight rm_X5_mapRight (va_Pc [.ref A_x] (fun U => va_P (dC, dI) vwCl (wM A_x A_da A_ma A_ha A_ho A_ti A_be A_te A_ch K_da K_ma K_ha K_ho K_ti K_be K_te K_ch c_da c_ma c_ha c_ho c_ti c_be c_te c_ch c_up c_fu c_tm c_tc) U.heap ∧ va_K (dC, dI) vwCl (tM K_da K_ma K_ha K_ho K_ti K_be K_te K_ch) U)) (vp_Si (fun r => r0 = r)) 0 0 (fun _ => False) := by
  refine Met.ofW (cc := cX5_mapRight) (maxL := 3) (ret := (some .boolean)) (by decide) rfl ?_
  intro p e s m args below meth c s₁ B hml hv
  obtain ⟨rfl, hP, hK⟩ := hv
  have hx := B.exec
  have hb := B.bytes
  have hr := B.returns
  have hts := atoms_spec (ws := wsX5_mapRight) B.pre
  have hown : s.vm.findClass RX5 = some m.cls := findClass_of_methodNamed B.named
  have hlocks := B.notSynchronized
  have hl := lv_entry ([.ref A_x]) (n := 3) (Nat.le_of_ble_eq_true rfl)
  rw [lg_entry_eq]
  generalize (lg_sl ([.ref A_x]) ++ List.replicate (3 - (lg_sl ([.ref A_x])).length) Slot.unset).toArray = ls at hl ⊢
  have hl : lv_has ls 3 [(0, .ref A_x)] := hl
  refine w_name (fun Q hQ => ?_)
  unfold m_X5_mapRight at hm
  refine lv_iconst (v := 0) hx hb dX5_mapRight_0 (by decide) ?_
  refine lv_istore_n (lv' := [(1, .int (0 : Int32)), (0, .ref A_x)]) hx hb dX5_mapRight_1 rfl hl (by decide) rfl (fun ls hl => ?_)
  refine lv_iconst (v := 0) hx hb dX5_mapRight_2 (by decide) ?_
  refine lv_istore_n (lv' := [(2, .int (0 : Int32)), (1, .int (0 : Int32)), (0, .ref A_x)]) hx hb dX5_mapRight_3 rfl hl (by decide) rfl (fun ls hl => ?_)
  obtain ⟨rl4, hlp, hm⟩ := g_bind hm
  have hE4 : ∀ (z3 : Int32), z3 = rl4 → ∀ (ls : Array Slot), lv_has ls 3 [(0, .ref A_x), (1, .int z3)] → W p l e (headSpec wsX5_mapRight rm_X5_mapRight).room s m (([.ref A_x] : List Value).toArray) below meth c s.heap [] 0 0 Q (F0 m 35 ls []) := by
    intro z3 hq ls hl
    subst hq
    have hm := g_k1_s hm
    refine lv_iload_n hx hb dX5_mapRight_35 rfl (lv_at hl 1 rfl) ?_
    refine lv_aload_n hx hb dX5_mapRight_36 rfl (lv_at hl 0 rfl) ?_
    refine va_get (D := (dC, dI)) (ci := 3) (v := .ref A_ho) (C := RX5) (T := TX5) (N := 12) hx hb hts hi_X5_mapRight_X5 hown hK hP 0 rfl rfl 5 (by decide) (hts (Cond.fieldLink RX5 19 "BuddyFilesModel" "home" "[I") hk_X5_mapRight_19) (fun _ h9 => h9) rfl dX5_mapRight_37 ?_
    refine lv_bipush (v := 45) hx hb dX5_mapRight_40 (by decide) ?_
    obtain ⟨x8, ex, hm⟩ := g_bind hm
    refine w_ald hx hb hK hP 4 3 rfl rfl ex dX5_mapRight_42 ?_
    refine lv_icmp_ne (tgt := 50) hx hb dX5_mapRight_43 (by decide) (fun c9 => ?_) (fun c9 => ?_)
    · have hm := g_f c9 hm
      refine lv_iconst (v := 0) hx hb dX5_mapRight_50 (by decide) ?_
      cases hm
      subst hQ
      exact W.zret hx hb hr rfl (fun t ht hW => ⟨_, rfl, rfl, ht⟩) (fun _ h => nomatch h) dX5_mapRight_51
    · have hm := g_t c9 hm
      refine lv_iconst (v := 1) hx hb dX5_mapRight_46 (by decide) ?_
      refine lv_goto (tgt := 51) hx hb dX5_mapRight_47 (by decide) ?_
      cases hm
      subst hQ
      exact W.zret hx hb hr rfl (fun t ht hW => ⟨_, rfl, rfl, ht⟩) (fun _ h => nomatch h) dX5_mapRight_51
  have hL4 : ∀ (n : Nat) (y1 : Int32) (y2 : Int32), g_loop (fun q => m_X5_mapRight_L4 c_ti q.1 q.2) n (y1, y2) = some rl4 → ∀ (ls : Array Slot), lv_has ls 3 [(0, .ref A_x), (1, .int y1), (2, .int y2)] → W p l e (headSpec wsX5_mapRight rm_X5_mapRight).room s m (([.ref A_x] : List Value).toArray) below meth c s.heap [] 0 0 Q (F0 m 4 ls []) := by
    intro n
    induction n with
    | zero =>
      intro y1 y2 hm
      exact g_loop_z hm
    | succ n ih =>
      intro y1 y2 hm ls hl
      obtain ⟨q, hm, hy⟩ := g_loop_s hm
      have hm : m_X5_mapRight_L4 c_ti y1 y2 = some q := hm
      unfold m_X5_mapRight_L4 at hm
      refine lv_iload_n hx hb dX5_mapRight_4 rfl (lv_at hl 2 rfl) ?_
      refine lv_bipush (v := 32) hx hb dX5_mapRight_5 (by decide) ?_
      refine lv_icmp_ge (tgt := 35) hx hb dX5_mapRight_7 (by decide) (fun c5 => ?_) (fun c5 => ?_)
      · have hm := g_t c5 hm
        cases hm
        exact hE4 _ hy _ (lv_sub hl [0, 1] rfl)
      · have hm := g_f c5 hm
        refine lv_aload_n hx hb dX5_mapRight_10 rfl (lv_at hl 0 rfl) ?_
        refine va_get (D := (dC, dI)) (ci := 3) (v := .ref A_ti) (C := RX5) (T := TX5) (N := 12) hx hb hts hi_X5_mapRight_X5 hown hK hP 0 rfl rfl 6 (by decide) (hts (Cond.fieldLink RX5 22 "BuddyFilesModel" "times" "[I") hk_X5_mapRight_22) (fun _ h9 => h9) rfl dX5_mapRight_11 ?_
        refine lv_iload_n hx hb dX5_mapRight_14 rfl (lv_at hl 2 rfl) ?_
        obtain ⟨x6, ex, hm⟩ := g_bind hm
        refine w_ald hx hb hK hP 5 4 rfl rfl ex dX5_mapRight_15 ?_
        refine lv_if_le (tgt := 27) hx hb dX5_mapRight_16 (by decide) (fun c7 => ?_) (fun c7 => ?_)
        · have hm := g_t c7 hm
          refine lv_iload_n hx hb dX5_mapRight_27 rfl (lv_at hl 1 rfl) ?_
          refine lv_istore_n (lv' := [(1, .int y1), (0, .ref A_x), (2, .int y2)]) hx hb dX5_mapRight_28 rfl hl (by decide) rfl (fun ls hl => ?_)
          refine lv_iinc (v := (y2 + (1 : Int32))) (lv' := [(2, .int (y2 + (1 : Int32))), (1, .int y1), (0, .ref A_x)]) hx hb dX5_mapRight_29 hl (k := 2) rfl rfl (by decide) rfl (fun ls hl => ?_)
          refine lv_goto (tgt := 4) hx hb dX5_mapRight_32 (by decide) ?_
          cases hm
          exact ih _ _ hy _ (lv_sub hl [2, 1, 0] rfl)
        · have hm := g_f c7 hm
          refine lv_iload_n hx hb dX5_mapRight_19 rfl (lv_at hl 1 rfl) ?_
          refine lv_iconst (v := 1) hx hb dX5_mapRight_20 (by decide) ?_
          refine lv_iload_n hx hb dX5_mapRight_21 rfl (lv_at hl 2 rfl) ?_
          refine lv_ishl hx hb dX5_mapRight_22 ?_
          show W _ _ _ _ _ _ _ _ _ _ _ _ _ _ _ (F0 m 23 _ [.int (g_shl (1 : Int32) y2), .int y1])
          refine lv_ior hx hb dX5_mapRight_23 ?_
          refine lv_goto (tgt := 28) hx hb dX5_mapRight_24 (by decide) ?_
          refine lv_istore_n (lv' := [(1, .int (y1 ||| (g_shl (1 : Int32) y2))), (0, .ref A_x), (2, .int y2)]) hx hb dX5_mapRight_28 rfl hl (by decide) rfl (fun ls hl => ?_)
          refine lv_iinc (v := (y2 + (1 : Int32))) (lv' := [(2, .int (y2 + (1 : Int32))), (1, .int (y1 ||| (g_shl (1 : Int32) y2))), (0, .ref A_x)]) hx hb dX5_mapRight_29 hl (k := 2) rfl rfl (by decide) rfl (fun ls hl => ?_)
          refine lv_goto (tgt := 4) hx hb dX5_mapRight_32 (by decide) ?_
          cases hm
          exact ih _ _ hy _ (lv_sub hl [2, 1, 0] rfl)
  exact hL4 _ _ _ hlp _ (lv_sub hl [2, 1, 0] rfl)
theorem hi_X5_quotasRight_X5 : ∀ w ∈ wsX50, w ∈ wsX5_quotasRight := by decide +kernel
theorem hk_X5_quotasRight_19 : Cond.fieldLink RX5 19 "BuddyFilesModel" "home" "[I" ∈ wsX5_quotasRight := by decide +kernel
abbrev rm_X5_quotasRight : Room := { frames := 2, cells := 0, slots := 0, locals := 40 }
set_option maxHeartbeats 4000000 in
set_option maxRecDepth 100000 in
theorem k_X5_quotasRight (l : Launch) (dC : Nat → ClassId) (dI : Nat → Nat → Nat) (A_x A_da A_ma A_ha A_ho A_ti A_be A_te A_ch : Nat) (K_da K_ma K_ha K_ho K_ti K_be K_te K_ch : ClassId) (c_da c_ma c_ha c_ho c_ti c_be c_te c_ch : Nat → Int32) (c_up c_fu c_tm c_tc : Int32)  (r0 : Int32) (hm : m_X5_quotasRight c_ho = some r0) : Met l yX5_quotasRight wsX5_quotasRight rm_X5_quotasRight (va_Pc [.ref A_x] (fun U => va_P (dC, dI) vwCl (wM A_x A_da A_ma A_ha A_ho A_ti A_be A_te A_ch K_da K_ma K_ha K_ho K_ti K_be K_te K_ch c_da c_ma c_ha c_ho c_ti c_be c_te c_ch c_up c_fu c_tm c_tc) U.heap ∧ va_K (dC, dI) vwCl (tM K_da K_ma K_ha K_ho K_ti K_be K_te K_ch) U)) (vp_Si (fun r => r0 = r)) 0 0 (fun _ => False) := by
  refine Met.ofW (cc := cX5_quotasRight) (maxL := 6) (ret := (some .boolean)) (by decide) rfl ?_
  intro p e s m args below meth c s₁ B hml hv
  obtain ⟨rfl, hP, hK⟩ := hv
  have hx := B.exec
  have hb := B.bytes
  have hr := B.returns
  have hts := atoms_spec (ws := wsX5_quotasRight) B.pre
  have hown : s.vm.findClass RX5 = some m.cls := findClass_of_methodNamed B.named
  have hlocks := B.notSynchronized
  have hl := lv_entry ([.ref A_x]) (n := 6) (Nat.le_of_ble_eq_true rfl)
  rw [lg_entry_eq]
  generalize (lg_sl ([.ref A_x]) ++ List.replicate (6 - (lg_sl ([.ref A_x])).length) Slot.unset).toArray = ls at hl ⊢
  have hl : lv_has ls 6 [(0, .ref A_x)] := hl
  refine w_name (fun Q hQ => ?_)
  unfold m_X5_quotasRight at hm
  refine lv_iconst (v := 1) hx hb dX5_quotasRight_0 (by decide) ?_
  refine lv_istore_n (lv' := [(1, .int (1 : Int32)), (0, .ref A_x)]) hx hb dX5_quotasRight_1 rfl hl (by decide) rfl (fun ls hl => ?_)
  refine lv_iconst (v := 0) hx hb dX5_quotasRight_2 (by decide) ?_
  refine lv_istore_n (lv' := [(2, .int (0 : Int32)), (1, .int (1 : Int32)), (0, .ref A_x)]) hx hb dX5_quotasRight_3 rfl hl (by decide) rfl (fun ls hl => ?_)
  obtain ⟨rl4, hlp, hm⟩ := g_bind hm
  have hE4 : ∀ (z3 : Int32), z3 = rl4 → ∀ (ls : Array Slot), lv_has ls 6 [(1, .int z3)] → W p l e (headSpec wsX5_quotasRight rm_X5_quotasRight).room s m (([.ref A_x] : List Value).toArray) below meth c s.heap [] 0 0 Q (F0 m 130 ls []) := by
    intro z3 hq ls hl
    subst hq
    have hm := g_k1_s hm
    refine lv_iload_n hx hb dX5_quotasRight_130 rfl (lv_at hl 0 rfl) ?_
    obtain ⟨x26, ex, hm⟩ := g_bind hm
    obtain ⟨hn, ex⟩ := g_bool_s ex
    subst ex
    cases hm
    subst hQ
    exact W.zret hx hb hr hn (fun t ht hW => ⟨_, rfl, rfl, ht⟩) (fun _ h => nomatch h) dX5_quotasRight_131
  have hL4 : ∀ (n : Nat) (y1 : Int32) (y2 : Int32), g_loop (fun q => m_X5_quotasRight_L4 c_ho q.1 q.2) n (y1, y2) = some rl4 → ∀ (ls : Array Slot), lv_has ls 6 [(0, .ref A_x), (1, .int y1), (2, .int y2)] → W p l e (headSpec wsX5_quotasRight rm_X5_quotasRight).room s m (([.ref A_x] : List Value).toArray) below meth c s.heap [] 0 0 Q (F0 m 4 ls []) := by
    intro n
    induction n with
    | zero =>
      intro y1 y2 hm
      exact g_loop_z hm
    | succ n ih =>
      intro y1 y2 hm ls hl
      obtain ⟨q, hm, hy⟩ := g_loop_s hm
      have hm : m_X5_quotasRight_L4 c_ho y1 y2 = some q := hm
      unfold m_X5_quotasRight_L4 at hm
      refine lv_iload_n hx hb dX5_quotasRight_4 rfl (lv_at hl 2 rfl) ?_
      refine lv_iconst (v := 3) hx hb dX5_quotasRight_5 (by decide) ?_
      refine lv_icmp_ge (tgt := 130) hx hb dX5_quotasRight_6 (by decide) (fun c5 => ?_) (fun c5 => ?_)
      · have hm := g_t c5 hm
        cases hm
        exact hE4 _ hy _ (lv_sub hl [1] rfl)
      · have hm := g_f c5 hm
        refine lv_iconst (v := 0) hx hb dX5_quotasRight_9 (by decide) ?_
        refine lv_istore_n (lv' := [(3, .int (0 : Int32)), (0, .ref A_x), (1, .int y1), (2, .int y2)]) hx hb dX5_quotasRight_10 rfl hl (by decide) rfl (fun ls hl => ?_)
        refine lv_iconst (v := 0) hx hb dX5_quotasRight_11 (by decide) ?_
        refine lv_istore (lv' := [(4, .int (0 : Int32)), (3, .int (0 : Int32)), (0, .ref A_x), (1, .int y1), (2, .int y2)]) hx hb dX5_quotasRight_12 hl (by decide) rfl (fun ls hl => ?_)
        obtain ⟨rl9, hlp, hm⟩ := g_bind hm
        have hE9 : ∀ (z8 : Int32), z8 = rl9 → ∀ (ls : Array Slot), lv_has ls 6 [(0, .ref A_x), (1, .int y1), (2, .int y2), (3, .int z8)] → W p l e (headSpec wsX5_quotasRight rm_X5_quotasRight).room s m (([.ref A_x] : List Value).toArray) below meth c s.heap [] 0 0 Q (F0 m 96 ls []) := by
          intro z8 hq ls hl
          subst hq
          have hm := g_k1_s hm
          refine lv_iload_n hx hb dX5_quotasRight_96 rfl (lv_at hl 1 rfl) ?_
          refine lv_if_eq (tgt := 122) hx hb dX5_quotasRight_97 (by decide) (fun c22 => ?_) (fun c22 => ?_)
          · have hm := g_t c22 hm
            refine lv_iconst (v := 0) hx hb dX5_quotasRight_122 (by decide) ?_
            refine lv_istore_n (lv' := [(1, .int (0 : Int32)), (0, .ref A_x), (2, .int y2), (3, .int z8)]) hx hb dX5_quotasRight_123 rfl hl (by decide) rfl (fun ls hl => ?_)
            refine lv_iinc (v := (y2 + (1 : Int32))) (lv' := [(2, .int (y2 + (1 : Int32))), (1, .int (0 : Int32)), (0, .ref A_x), (3, .int z8)]) hx hb dX5_quotasRight_124 hl (k := 2) rfl rfl (by decide) rfl (fun ls hl => ?_)
            refine lv_goto (tgt := 4) hx hb dX5_quotasRight_127 (by decide) ?_
            cases hm
            exact ih _ _ hy _ (lv_sub hl [2, 1, 0] rfl)
          · have hm := g_f c22 hm
            refine lv_aload_n hx hb dX5_quotasRight_100 rfl (lv_at hl 0 rfl) ?_
            refine va_get (D := (dC, dI)) (ci := 3) (v := .ref A_ho) (C := RX5) (T := TX5) (N := 12) hx hb hts hi_X5_quotasRight_X5 hown hK hP 0 rfl rfl 5 (by decide) (hts (Cond.fieldLink RX5 19 "BuddyFilesModel" "home" "[I") hk_X5_quotasRight_19) (fun _ h9 => h9) rfl dX5_quotasRight_101 ?_
            refine lv_bipush (v := 42) hx hb dX5_quotasRight_104 (by decide) ?_
            refine lv_iload_n hx hb dX5_quotasRight_106 rfl (lv_at hl 2 rfl) ?_
            refine lv_iadd hx hb dX5_quotasRight_107 ?_
            obtain ⟨x23, ex, hm⟩ := g_bind hm
            refine w_ald hx hb hK hP 4 3 rfl rfl ex dX5_quotasRight_108 ?_
            refine lv_iload_n hx hb dX5_quotasRight_109 rfl (lv_at hl 3 rfl) ?_
            refine lv_bipush (v := 32) hx hb dX5_quotasRight_110 (by decide) ?_
            obtain ⟨x24, ex, hm⟩ := g_bind hm
            refine vp_callSi (W.runS (As := [.int x23, .int z8, .int (32 : Int32)]) (rest := []) ⟨hx, hb, hml, hown, hts⟩ (k_X5_within l  x23 z8 (32 : Int32) _ ex) (va_cwS 3 hts gX5_quotasRight_X5_within rfl rfl rfl (by decide +kernel) ⟨Nat.le_of_ble_eq_true rfl, Nat.le_of_ble_eq_true rfl⟩) ⟨w_bl0, fun U hU hW => ⟨rfl, trivial⟩⟩ rfl rfl hl.1 rfl (lv_room (Nat.le_of_ble_eq_true rfl)) dX5_quotasRight_112 ⟨Nat.zero_le _, Nat.zero_le _⟩) (fun _ ey => ?_)
            subst ey
            refine lv_if_eq (tgt := 122) hx hb dX5_quotasRight_115 (by decide) (fun c25 => ?_) (fun c25 => ?_)
            · have hm := g_t c25 hm
              refine lv_iconst (v := 0) hx hb dX5_quotasRight_122 (by decide) ?_
              refine lv_istore_n (lv' := [(1, .int (0 : Int32)), (0, .ref A_x), (2, .int y2), (3, .int z8)]) hx hb dX5_quotasRight_123 rfl hl (by decide) rfl (fun ls hl => ?_)
              refine lv_iinc (v := (y2 + (1 : Int32))) (lv' := [(2, .int (y2 + (1 : Int32))), (1, .int (0 : Int32)), (0, .ref A_x), (3, .int z8)]) hx hb dX5_quotasRight_124 hl (k := 2) rfl rfl (by decide) rfl (fun ls hl => ?_)
              refine lv_goto (tgt := 4) hx hb dX5_quotasRight_127 (by decide) ?_
              cases hm
              exact ih _ _ hy _ (lv_sub hl [2, 1, 0] rfl)
            · have hm := g_f c25 hm
              refine lv_iconst (v := 1) hx hb dX5_quotasRight_118 (by decide) ?_
              refine lv_goto (tgt := 123) hx hb dX5_quotasRight_119 (by decide) ?_
              refine lv_istore_n (lv' := [(1, .int (1 : Int32)), (0, .ref A_x), (2, .int y2), (3, .int z8)]) hx hb dX5_quotasRight_123 rfl hl (by decide) rfl (fun ls hl => ?_)
              refine lv_iinc (v := (y2 + (1 : Int32))) (lv' := [(2, .int (y2 + (1 : Int32))), (1, .int (1 : Int32)), (0, .ref A_x), (3, .int z8)]) hx hb dX5_quotasRight_124 hl (k := 2) rfl rfl (by decide) rfl (fun ls hl => ?_)
              refine lv_goto (tgt := 4) hx hb dX5_quotasRight_127 (by decide) ?_
              cases hm
              exact ih _ _ hy _ (lv_sub hl [2, 1, 0] rfl)
        have hL9 : ∀ (n : Nat) (y6 : Int32) (y7 : Int32), g_loop (fun q => m_X5_quotasRight_L14 c_ho y2 q.1 q.2) n (y6, y7) = some rl9 → ∀ (ls : Array Slot), lv_has ls 6 [(0, .ref A_x), (1, .int y1), (2, .int y2), (3, .int y6), (4, .int y7)] → W p l e (headSpec wsX5_quotasRight rm_X5_quotasRight).room s m (([.ref A_x] : List Value).toArray) below meth c s.heap [] 0 0 Q (F0 m 14 ls []) := by
          intro n
          induction n with
          | zero =>
            intro y6 y7 hm
            exact g_loop_z hm
          | succ n ih =>
            intro y6 y7 hm ls hl
            obtain ⟨q, hm, hy⟩ := g_loop_s hm
            have hm : m_X5_quotasRight_L14 c_ho y2 y6 y7 = some q := hm
            unfold m_X5_quotasRight_L14 at hm
            refine lv_iload hx hb dX5_quotasRight_14 (lv_at hl 4 rfl) ?_
            refine lv_bipush (v := 6) hx hb dX5_quotasRight_16 (by decide) ?_
            refine lv_icmp_ge (tgt := 96) hx hb dX5_quotasRight_18 (by decide) (fun c10 => ?_) (fun c10 => ?_)
            · have hm := g_t c10 hm
              cases hm
              exact hE9 _ hy _ (lv_sub hl [0, 1, 2, 3] rfl)
            · have hm := g_f c10 hm
              refine lv_iconst (v := 0) hx hb dX5_quotasRight_21 (by decide) ?_
              refine lv_istore (lv' := [(5, .int (0 : Int32)), (0, .ref A_x), (1, .int y1), (2, .int y2), (3, .int y6), (4, .int y7)]) hx hb dX5_quotasRight_22 hl (by decide) rfl (fun ls hl => ?_)
              obtain ⟨rl14, hlp, hm⟩ := g_bind hm
              have hE14 : ∀ (z13 : Int32), z13 = rl14 → ∀ (ls : Array Slot), lv_has ls 6 [(0, .ref A_x), (1, .int y1), (2, .int y2), (3, .int z13), (4, .int y7)] → W p l e (headSpec wsX5_quotasRight rm_X5_quotasRight).room s m (([.ref A_x] : List Value).toArray) below meth c s.heap [] 0 0 Q (F0 m 90 ls []) := by
                intro z13 hq ls hl
                subst hq
                have hm := g_k1_s hm
                refine lv_iinc (v := (y7 + (1 : Int32))) (lv' := [(4, .int (y7 + (1 : Int32))), (0, .ref A_x), (1, .int y1), (2, .int y2), (3, .int z13)]) hx hb dX5_quotasRight_90 hl (k := 4) rfl rfl (by decide) rfl (fun ls hl => ?_)
                refine lv_goto (tgt := 14) hx hb dX5_quotasRight_93 (by decide) ?_
                cases hm
                exact ih _ _ hy _ (lv_sub hl [1, 2, 3, 4, 0] rfl)
              have hL14 : ∀ (n : Nat) (y11 : Int32) (y12 : Int32), g_loop (fun q => m_X5_quotasRight_L24 c_ho y2 y7 q.1 q.2) n (y11, y12) = some rl14 → ∀ (ls : Array Slot), lv_has ls 6 [(0, .ref A_x), (1, .int y1), (2, .int y2), (3, .int y11), (4, .int y7), (5, .int y12)] → W p l e (headSpec wsX5_quotasRight rm_X5_quotasRight).room s m (([.ref A_x] : List Value).toArray) below meth c s.heap [] 0 0 Q (F0 m 24 ls []) := by
                intro n
                induction n with
                | zero =>
                  intro y11 y12 hm
                  exact g_loop_z hm
                | succ n ih =>
                  intro y11 y12 hm ls hl
                  obtain ⟨q, hm, hy⟩ := g_loop_s hm
                  have hm : m_X5_quotasRight_L24 c_ho y2 y7 y11 y12 = some q := hm
                  unfold m_X5_quotasRight_L24 at hm
                  refine lv_iload hx hb dX5_quotasRight_24 (lv_at hl 5 rfl) ?_
                  refine lv_iconst (v := 4) hx hb dX5_quotasRight_26 (by decide) ?_
                  refine lv_icmp_ge (tgt := 90) hx hb dX5_quotasRight_27 (by decide) (fun c15 => ?_) (fun c15 => ?_)
                  · have hm := g_t c15 hm
                    cases hm
                    exact hE14 _ hy _ (lv_sub hl [0, 1, 2, 3, 4] rfl)
                  · have hm := g_f c15 hm
                    refine lv_aload_n hx hb dX5_quotasRight_30 rfl (lv_at hl 0 rfl) ?_
                    refine va_get (D := (dC, dI)) (ci := 3) (v := .ref A_ho) (C := RX5) (T := TX5) (N := 12) hx hb hts hi_X5_quotasRight_X5 hown hK hP 0 rfl rfl 5 (by decide) (hts (Cond.fieldLink RX5 19 "BuddyFilesModel" "home" "[I") hk_X5_quotasRight_19) (fun _ h9 => h9) rfl dX5_quotasRight_31 ?_
                    refine lv_bipush (v := 7) hx hb dX5_quotasRight_34 (by decide) ?_
                    refine lv_iload hx hb dX5_quotasRight_36 (lv_at hl 4 rfl) ?_
                    refine lv_imul hx hb dX5_quotasRight_38 ?_
                    obtain ⟨x16, ex, hm⟩ := g_bind hm
                    refine w_ald hx hb hK hP 4 3 rfl rfl ex dX5_quotasRight_39 ?_
                    refine lv_if_eq (tgt := 82) hx hb dX5_quotasRight_40 (by decide) (fun c17 => ?_) (fun c17 => ?_)
                    · have hm := g_t c17 hm
                      refine lv_iload_n hx hb dX5_quotasRight_82 rfl (lv_at hl 3 rfl) ?_
                      refine lv_istore_n (lv' := [(3, .int y11), (0, .ref A_x), (1, .int y1), (2, .int y2), (4, .int y7), (5, .int y12)]) hx hb dX5_quotasRight_83 rfl hl (by decide) rfl (fun ls hl => ?_)
                      refine lv_iinc (v := (y12 + (1 : Int32))) (lv' := [(5, .int (y12 + (1 : Int32))), (3, .int y11), (0, .ref A_x), (1, .int y1), (2, .int y2), (4, .int y7)]) hx hb dX5_quotasRight_84 hl (k := 5) rfl rfl (by decide) rfl (fun ls hl => ?_)
                      refine lv_goto (tgt := 24) hx hb dX5_quotasRight_87 (by decide) ?_
                      cases hm
                      exact ih _ _ hy _ (lv_sub hl [2, 3, 4, 1, 5, 0] rfl)
                    · have hm := g_f c17 hm
                      refine lv_aload_n hx hb dX5_quotasRight_43 rfl (lv_at hl 0 rfl) ?_
                      refine va_get (D := (dC, dI)) (ci := 3) (v := .ref A_ho) (C := RX5) (T := TX5) (N := 12) hx hb hts hi_X5_quotasRight_X5 hown hK hP 0 rfl rfl 5 (by decide) (hts (Cond.fieldLink RX5 19 "BuddyFilesModel" "home" "[I") hk_X5_quotasRight_19) (fun _ h9 => h9) rfl dX5_quotasRight_44 ?_
                      refine lv_bipush (v := 7) hx hb dX5_quotasRight_47 (by decide) ?_
                      refine lv_iload hx hb dX5_quotasRight_49 (lv_at hl 4 rfl) ?_
                      refine lv_imul hx hb dX5_quotasRight_51 ?_
                      refine lv_iconst (v := 1) hx hb dX5_quotasRight_52 (by decide) ?_
                      refine lv_iadd hx hb dX5_quotasRight_53 ?_
                      obtain ⟨x18, ex, hm⟩ := g_bind hm
                      refine w_ald hx hb hK hP 4 3 rfl rfl ex dX5_quotasRight_54 ?_
                      refine lv_iload_n hx hb dX5_quotasRight_55 rfl (lv_at hl 2 rfl) ?_
                      refine lv_icmp_ne (tgt := 82) hx hb dX5_quotasRight_56 (by decide) (fun c19 => ?_) (fun c19 => ?_)
                      · have hm := g_f c19 hm
                        refine lv_iload_n hx hb dX5_quotasRight_82 rfl (lv_at hl 3 rfl) ?_
                        refine lv_istore_n (lv' := [(3, .int y11), (0, .ref A_x), (1, .int y1), (2, .int y2), (4, .int y7), (5, .int y12)]) hx hb dX5_quotasRight_83 rfl hl (by decide) rfl (fun ls hl => ?_)
                        refine lv_iinc (v := (y12 + (1 : Int32))) (lv' := [(5, .int (y12 + (1 : Int32))), (3, .int y11), (0, .ref A_x), (1, .int y1), (2, .int y2), (4, .int y7)]) hx hb dX5_quotasRight_84 hl (k := 5) rfl rfl (by decide) rfl (fun ls hl => ?_)
                        refine lv_goto (tgt := 24) hx hb dX5_quotasRight_87 (by decide) ?_
                        cases hm
                        exact ih _ _ hy _ (lv_sub hl [2, 3, 4, 1, 5, 0] rfl)
                      · have hm := g_t c19 hm
                        refine lv_iload_n hx hb dX5_quotasRight_59 rfl (lv_at hl 3 rfl) ?_
                        refine lv_aload_n hx hb dX5_quotasRight_60 rfl (lv_at hl 0 rfl) ?_
                        refine va_get (D := (dC, dI)) (ci := 3) (v := .ref A_ho) (C := RX5) (T := TX5) (N := 12) hx hb hts hi_X5_quotasRight_X5 hown hK hP 0 rfl rfl 5 (by decide) (hts (Cond.fieldLink RX5 19 "BuddyFilesModel" "home" "[I") hk_X5_quotasRight_19) (fun _ h9 => h9) rfl dX5_quotasRight_61 ?_
                        refine lv_bipush (v := 7) hx hb dX5_quotasRight_64 (by decide) ?_
                        refine lv_iload hx hb dX5_quotasRight_66 (lv_at hl 4 rfl) ?_
                        refine lv_imul hx hb dX5_quotasRight_68 ?_
                        refine lv_iconst (v := 3) hx hb dX5_quotasRight_69 (by decide) ?_
                        refine lv_iadd hx hb dX5_quotasRight_70 ?_
                        refine lv_iload hx hb dX5_quotasRight_71 (lv_at hl 5 rfl) ?_
                        refine lv_iadd hx hb dX5_quotasRight_73 ?_
                        obtain ⟨x20, ex, hm⟩ := g_bind hm
                        refine w_ald hx hb hK hP 4 3 rfl rfl ex dX5_quotasRight_74 ?_
                        obtain ⟨x21, ex, hm⟩ := g_bind hm
                        refine vp_callSi (W.runS (As := [.int x20]) (rest := [.int y11]) ⟨hx, hb, hml, hown, hts⟩ (k_X5_size l  x20 _ ex) (va_cwS 1 hts gX5_quotasRight_X5_size rfl rfl rfl (by decide +kernel) ⟨Nat.le_of_ble_eq_true rfl, Nat.le_of_ble_eq_true rfl⟩) ⟨w_bl0, fun U hU hW => ⟨rfl, trivial⟩⟩ rfl rfl hl.1 rfl (lv_room (Nat.le_of_ble_eq_true rfl)) dX5_quotasRight_75 ⟨Nat.zero_le _, Nat.zero_le _⟩) (fun _ ey => ?_)
                        subst ey
                        refine lv_iadd hx hb dX5_quotasRight_78 ?_
                        refine lv_goto (tgt := 83) hx hb dX5_quotasRight_79 (by decide) ?_
                        refine lv_istore_n (lv' := [(3, .int (y11 + x21)), (0, .ref A_x), (1, .int y1), (2, .int y2), (4, .int y7), (5, .int y12)]) hx hb dX5_quotasRight_83 rfl hl (by decide) rfl (fun ls hl => ?_)
                        refine lv_iinc (v := (y12 + (1 : Int32))) (lv' := [(5, .int (y12 + (1 : Int32))), (3, .int (y11 + x21)), (0, .ref A_x), (1, .int y1), (2, .int y2), (4, .int y7)]) hx hb dX5_quotasRight_84 hl (k := 5) rfl rfl (by decide) rfl (fun ls hl => ?_)
                        refine lv_goto (tgt := 24) hx hb dX5_quotasRight_87 (by decide) ?_
                        cases hm
                        exact ih _ _ hy _ (lv_sub hl [2, 3, 4, 1, 5, 0] rfl)
              exact hL14 _ _ _ hlp _ (lv_sub hl [1, 2, 3, 4, 5, 0] rfl)
        exact hL9 _ _ _ hlp _ (lv_sub hl [2, 3, 4, 1, 0] rfl)
  exact hL4 _ _ _ hlp _ (lv_sub hl [2, 1, 0] rfl)
theorem hi_X5_wordsRight_X5 : ∀ w ∈ wsX50, w ∈ wsX5_wordsRight := by decide +kernel
theorem hk_X5_wordsRight_25 : Cond.fieldLink RX5 25 "BuddyFilesModel" "belongs" "[Z" ∈ wsX5_wordsRight := by decide +kernel
theorem hk_X5_wordsRight_19 : Cond.fieldLink RX5 19 "BuddyFilesModel" "home" "[I" ∈ wsX5_wordsRight := by decide +kernel
abbrev rm_X5_wordsRight : Room := { frames := 2, cells := 0, slots := 0, locals := 40 }
set_option maxHeartbeats 4000000 in
set_option maxRecDepth 100000 in
theorem k_X5_wordsRight (l : Launch) (dC : Nat → ClassId) (dI : Nat → Nat → Nat) (A_x A_da A_ma A_ha A_ho A_ti A_be A_te A_ch : Nat) (K_da K_ma K_ha K_ho K_ti K_be K_te K_ch : ClassId) (c_da c_ma c_ha c_ho c_ti c_be c_te c_ch : Nat → Int32) (c_up c_fu c_tm c_tc : Int32) (sz : Nat)  (r0 : Int32) (o_be : (Nat → Int32)) (hm : m_X5_wordsRight c_ho c_be = some (r0, o_be)) : Met l yX5_wordsRight wsX5_wordsRight rm_X5_wordsRight (va_Pc [.ref A_x] (fun U => U.heap.size = sz ∧ va_P (dC, dI) vwCl (wM A_x A_da A_ma A_ha A_ho A_ti A_be A_te A_ch K_da K_ma K_ha K_ho K_ti K_be K_te K_ch c_da c_ma c_ha c_ho c_ti c_be c_te c_ch c_up c_fu c_tm c_tc) U.heap ∧ va_K (dC, dI) vwCl (tM K_da K_ma K_ha K_ho K_ti K_be K_te K_ch) U ∧ va_D (fun _ => True) (wM A_x A_da A_ma A_ha A_ho A_ti A_be A_te A_ch K_da K_ma K_ha K_ho K_ti K_be K_te K_ch c_da c_ma c_ha c_ho c_ti c_be c_te c_ch c_up c_fu c_tm c_tc))) (va_Qi (fun (r : Int32) (_ : Unit) => r0 = r) (fun _ t => va_P (dC, dI) vwCl (wM A_x A_da A_ma A_ha A_ho A_ti A_be A_te A_ch K_da K_ma K_ha K_ho K_ti K_be K_te K_ch c_da c_ma c_ha c_ho c_ti o_be c_te c_ch c_up c_fu c_tm c_tc) t.heap ∧ va_D (va_A (wM A_x A_da A_ma A_ha A_ho A_ti A_be A_te A_ch K_da K_ma K_ha K_ho K_ti K_be K_te K_ch c_da c_ma c_ha c_ho c_ti c_be c_te c_ch c_up c_fu c_tm c_tc) sz) (wM A_x A_da A_ma A_ha A_ho A_ti A_be A_te A_ch K_da K_ma K_ha K_ho K_ti K_be K_te K_ch c_da c_ma c_ha c_ho c_ti o_be c_te c_ch c_up c_fu c_tm c_tc)) (va_A (wM A_x A_da A_ma A_ha A_ho A_ti A_be A_te A_ch K_da K_ma K_ha K_ho K_ti K_be K_te K_ch c_da c_ma c_ha c_ho c_ti c_be c_te c_ch c_up c_fu c_tm c_tc) sz)) 0 0 (va_A (wM A_x A_da A_ma A_ha A_ho A_ti A_be A_te A_ch K_da K_ma K_ha K_ho K_ti K_be K_te K_ch c_da c_ma c_ha c_ho c_ti c_be c_te c_ch c_up c_fu c_tm c_tc) sz) := by
  refine Met.ofW (cc := cX5_wordsRight) (maxL := 6) (ret := (some .boolean)) (by decide) rfl ?_
  intro p e s m args below meth c s₁ B hml hv
  obtain ⟨rfl, hsz, hP, hK, hD0⟩ := hv
  have hx := B.exec
  have hb := B.bytes
  have hr := B.returns
  have hts := atoms_spec (ws := wsX5_wordsRight) B.pre
  have hown : s.vm.findClass RX5 = some m.cls := findClass_of_methodNamed B.named
  have hlocks := B.notSynchronized
  subst hsz
  have hD := hD0.self (sz := s.heap.size)
  generalize hAe : va_A (wM A_x A_da A_ma A_ha A_ho A_ti A_be A_te A_ch K_da K_ma K_ha K_ho K_ti K_be K_te K_ch c_da c_ma c_ha c_ho c_ti c_be c_te c_ch c_up c_fu c_tm c_tc) s.heap.size = A at hD ⊢
  have hA : ∀ q : Nat, s.heap.size ≤ q → A q := fun q h => by rw [← hAe]; exact Or.inr h
  have hS : va_S A s.heap s.heap [] := va_S.rf
  have hP : va_P (dC, dI) vwCl (wM A_x A_da A_ma A_ha A_ho A_ti A_be A_te A_ch K_da K_ma K_ha K_ho K_ti K_be K_te K_ch c_da c_ma c_ha c_ho c_ti c_be c_te c_ch c_up c_fu c_tm c_tc) s.heap := hP
  have hl := lv_entry ([.ref A_x]) (n := 6) (Nat.le_of_ble_eq_true rfl)
  rw [lg_entry_eq]
  generalize (lg_sl ([.ref A_x]) ++ List.replicate (6 - (lg_sl ([.ref A_x])).length) Slot.unset).toArray = ls at hl ⊢
  have hl : lv_has ls 6 [(0, .ref A_x)] := hl
  refine w_name (fun Q hQ => ?_)
  unfold m_X5_wordsRight at hm
  refine lv_iconst (v := 0) hx hb dX5_wordsRight_0 (by decide) ?_
  refine lv_istore_n (lv' := [(1, .int (0 : Int32)), (0, .ref A_x)]) hx hb dX5_wordsRight_1 rfl hl (by decide) rfl (fun ls hl => ?_)
  obtain ⟨rl4, hlp, hm⟩ := g_bind hm
  have hE4 : ∀ (f3 : (Nat → Int32)), f3 = rl4 → ∀ (H4e : Heap) (locs4e : List Loc), va_P (dC, dI) vwCl (wM A_x A_da A_ma A_ha A_ho A_ti A_be A_te A_ch K_da K_ma K_ha K_ho K_ti K_be K_te K_ch c_da c_ma c_ha c_ho c_ti f3 c_te c_ch c_up c_fu c_tm c_tc) H4e → va_D A (wM A_x A_da A_ma A_ha A_ho A_ti A_be A_te A_ch K_da K_ma K_ha K_ho K_ti K_be K_te K_ch c_da c_ma c_ha c_ho c_ti f3 c_te c_ch c_up c_fu c_tm c_tc) → va_S A s.heap H4e locs4e → ∀ (ls : Array Slot), lv_has ls 6 [(0, .ref A_x)] → W p l e (headSpec wsX5_wordsRight rm_X5_wordsRight).room s m (([.ref A_x] : List Value).toArray) below meth c H4e locs4e 0 0 Q (F0 m 21 ls []) := by
    intro f3 hq H4e locs4e hP hD hS ls hl
    subst hq
    have hm := g_k1_s hm
    refine lv_iconst (v := 0) hx hb dX5_wordsRight_21 (by decide) ?_
    refine lv_istore_n (lv' := [(1, .int (0 : Int32)), (0, .ref A_x)]) hx hb dX5_wordsRight_22 rfl hl (by decide) rfl (fun ls hl => ?_)
    obtain ⟨rl11, hlp, hm⟩ := g_bind hm
    have hE11 : ∀ (f10 : (Nat → Int32)), f10 = rl11 → ∀ (H11e : Heap) (locs11e : List Loc), va_P (dC, dI) vwCl (wM A_x A_da A_ma A_ha A_ho A_ti A_be A_te A_ch K_da K_ma K_ha K_ho K_ti K_be K_te K_ch c_da c_ma c_ha c_ho c_ti f10 c_te c_ch c_up c_fu c_tm c_tc) H11e → va_D A (wM A_x A_da A_ma A_ha A_ho A_ti A_be A_te A_ch K_da K_ma K_ha K_ho K_ti K_be K_te K_ch c_da c_ma c_ha c_ho c_ti f10 c_te c_ch c_up c_fu c_tm c_tc) → va_S A s.heap H11e locs11e → ∀ (ls : Array Slot), lv_has ls 6 [(0, .ref A_x)] → W p l e (headSpec wsX5_wordsRight rm_X5_wordsRight).room s m (([.ref A_x] : List Value).toArray) below meth c H11e locs11e 0 0 Q (F0 m 119 ls []) := by
      intro f10 hq H11e locs11e hP hD hS ls hl
      subst hq
      have hm := g_k1_s hm
      refine lv_iconst (v := 1) hx hb dX5_wordsRight_119 (by decide) ?_
      refine lv_istore_n (lv' := [(1, .int (1 : Int32)), (0, .ref A_x)]) hx hb dX5_wordsRight_120 rfl hl (by decide) rfl (fun ls hl => ?_)
      refine lv_iconst (v := 0) hx hb dX5_wordsRight_121 (by decide) ?_
      refine lv_istore_n (lv' := [(2, .int (0 : Int32)), (1, .int (1 : Int32)), (0, .ref A_x)]) hx hb dX5_wordsRight_122 rfl hl (by decide) rfl (fun ls hl => ?_)
      obtain ⟨rl36, hlp, hm⟩ := g_bind hm
      have hE36 : ∀ (z35 : Int32), z35 = rl36 → ∀ (H36e : Heap) (locs36e : List Loc), va_P (dC, dI) vwCl (wM A_x A_da A_ma A_ha A_ho A_ti A_be A_te A_ch K_da K_ma K_ha K_ho K_ti K_be K_te K_ch c_da c_ma c_ha c_ho c_ti f10 c_te c_ch c_up c_fu c_tm c_tc) H36e → va_D A (wM A_x A_da A_ma A_ha A_ho A_ti A_be A_te A_ch K_da K_ma K_ha K_ho K_ti K_be K_te K_ch c_da c_ma c_ha c_ho c_ti f10 c_te c_ch c_up c_fu c_tm c_tc) → va_S A s.heap H36e locs36e → ∀ (ls : Array Slot), lv_has ls 6 [(1, .int z35)] → W p l e (headSpec wsX5_wordsRight rm_X5_wordsRight).room s m (([.ref A_x] : List Value).toArray) below meth c H36e locs36e 0 0 Q (F0 m 166 ls []) := by
        intro z35 hq H36e locs36e hP hD hS ls hl
        subst hq
        have hm := g_k1_s hm
        refine lv_iload_n hx hb dX5_wordsRight_166 rfl (lv_at hl 0 rfl) ?_
        obtain ⟨x43, ex, hm⟩ := g_bind hm
        obtain ⟨hn, ex⟩ := g_bool_s ex
        subst ex
        cases hm
        subst hQ
        exact W.zret hx hb hr hn (fun t ht hW => ⟨⟨_, (), rfl, rfl, by rw [ht]; exact hP, hD⟩, hS.F ht⟩) hS.2.2 dX5_wordsRight_167
      have hL36 : ∀ (n : Nat) (y33 : Int32) (y34 : Int32), g_loop (fun q => m_X5_wordsRight_L123 c_ho f10 q.1 q.2) n (y33, y34) = some rl36 → ∀ (H36b : Heap) (locs36b : List Loc), va_P (dC, dI) vwCl (wM A_x A_da A_ma A_ha A_ho A_ti A_be A_te A_ch K_da K_ma K_ha K_ho K_ti K_be K_te K_ch c_da c_ma c_ha c_ho c_ti f10 c_te c_ch c_up c_fu c_tm c_tc) H36b → va_D A (wM A_x A_da A_ma A_ha A_ho A_ti A_be A_te A_ch K_da K_ma K_ha K_ho K_ti K_be K_te K_ch c_da c_ma c_ha c_ho c_ti f10 c_te c_ch c_up c_fu c_tm c_tc) → va_S A s.heap H36b locs36b → ∀ (ls : Array Slot), lv_has ls 6 [(0, .ref A_x), (1, .int y33), (2, .int y34)] → W p l e (headSpec wsX5_wordsRight rm_X5_wordsRight).room s m (([.ref A_x] : List Value).toArray) below meth c H36b locs36b 0 0 Q (F0 m 123 ls []) := by
        intro n
        induction n with
        | zero =>
          intro y33 y34 hm
          exact g_loop_z hm
        | succ n ih =>
          intro y33 y34 hm H36b locs36b hP hD hS ls hl
          obtain ⟨q, hm, hy⟩ := g_loop_s hm
          have hm : m_X5_wordsRight_L123 c_ho f10 y33 y34 = some q := hm
          unfold m_X5_wordsRight_L123 at hm
          refine lv_iload_n hx hb dX5_wordsRight_123 rfl (lv_at hl 2 rfl) ?_
          refine lv_bipush (v := 64) hx hb dX5_wordsRight_124 (by decide) ?_
          refine lv_icmp_ge (tgt := 166) hx hb dX5_wordsRight_126 (by decide) (fun c37 => ?_) (fun c37 => ?_)
          · have hm := g_t c37 hm
            cases hm
            exact hE36 _ hy _ _ hP hD hS _ (lv_sub hl [1] rfl)
          · have hm := g_f c37 hm
            refine lv_iload_n hx hb dX5_wordsRight_129 rfl (lv_at hl 1 rfl) ?_
            refine lv_if_eq (tgt := 158) hx hb dX5_wordsRight_130 (by decide) (fun c38 => ?_) (fun c38 => ?_)
            · have hm := g_t c38 hm
              refine lv_iconst (v := 0) hx hb dX5_wordsRight_158 (by decide) ?_
              refine lv_istore_n (lv' := [(1, .int (0 : Int32)), (0, .ref A_x), (2, .int y34)]) hx hb dX5_wordsRight_159 rfl hl (by decide) rfl (fun ls hl => ?_)
              refine lv_iinc (v := (y34 + (1 : Int32))) (lv' := [(2, .int (y34 + (1 : Int32))), (1, .int (0 : Int32)), (0, .ref A_x)]) hx hb dX5_wordsRight_160 hl (k := 2) rfl rfl (by decide) rfl (fun ls hl => ?_)
              refine lv_goto (tgt := 123) hx hb dX5_wordsRight_163 (by decide) ?_
              cases hm
              exact ih _ _ hy _ _ hP hD hS _ (lv_sub hl [2, 1, 0] rfl)
            · have hm := g_f c38 hm
              refine lv_aload_n hx hb dX5_wordsRight_133 rfl (lv_at hl 0 rfl) ?_
              refine va_get (D := (dC, dI)) (ci := 3) (v := .ref A_be) (C := RX5) (T := TX5) (N := 12) hx hb hts hi_X5_wordsRight_X5 hown hK hP 0 rfl rfl 7 (by decide) (hts (Cond.fieldLink RX5 25 "BuddyFilesModel" "belongs" "[Z") hk_X5_wordsRight_25) (fun _ h9 => h9) rfl dX5_wordsRight_134 ?_
              refine lv_iload_n hx hb dX5_wordsRight_137 rfl (lv_at hl 2 rfl) ?_
              obtain ⟨x39, ex, hm⟩ := g_bind hm
              refine w_zald hx hb hK hP 6 5 rfl rfl ex dX5_wordsRight_138 ?_
              refine lv_if_ne (tgt := 154) hx hb dX5_wordsRight_139 (by decide) (fun c40 => ?_) (fun c40 => ?_)
              · have hm := g_f c40 hm
                refine lv_iconst (v := 1) hx hb dX5_wordsRight_154 (by decide) ?_
                refine lv_goto (tgt := 159) hx hb dX5_wordsRight_155 (by decide) ?_
                refine lv_istore_n (lv' := [(1, .int (1 : Int32)), (0, .ref A_x), (2, .int y34)]) hx hb dX5_wordsRight_159 rfl hl (by decide) rfl (fun ls hl => ?_)
                refine lv_iinc (v := (y34 + (1 : Int32))) (lv' := [(2, .int (y34 + (1 : Int32))), (1, .int (1 : Int32)), (0, .ref A_x)]) hx hb dX5_wordsRight_160 hl (k := 2) rfl rfl (by decide) rfl (fun ls hl => ?_)
                refine lv_goto (tgt := 123) hx hb dX5_wordsRight_163 (by decide) ?_
                cases hm
                exact ih _ _ hy _ _ hP hD hS _ (lv_sub hl [2, 1, 0] rfl)
              · have hm := g_t c40 hm
                refine lv_aload_n hx hb dX5_wordsRight_142 rfl (lv_at hl 0 rfl) ?_
                refine va_get (D := (dC, dI)) (ci := 3) (v := .ref A_ho) (C := RX5) (T := TX5) (N := 12) hx hb hts hi_X5_wordsRight_X5 hown hK hP 0 rfl rfl 5 (by decide) (hts (Cond.fieldLink RX5 19 "BuddyFilesModel" "home" "[I") hk_X5_wordsRight_19) (fun _ h9 => h9) rfl dX5_wordsRight_143 ?_
                refine lv_bipush (v := 46) hx hb dX5_wordsRight_146 (by decide) ?_
                refine lv_iload_n hx hb dX5_wordsRight_148 rfl (lv_at hl 2 rfl) ?_
                refine lv_iadd hx hb dX5_wordsRight_149 ?_
                obtain ⟨x41, ex, hm⟩ := g_bind hm
                refine w_ald hx hb hK hP 4 3 rfl rfl ex dX5_wordsRight_150 ?_
                refine lv_if_ne (tgt := 158) hx hb dX5_wordsRight_151 (by decide) (fun c42 => ?_) (fun c42 => ?_)
                · have hm := g_f c42 hm
                  refine lv_iconst (v := 0) hx hb dX5_wordsRight_158 (by decide) ?_
                  refine lv_istore_n (lv' := [(1, .int (0 : Int32)), (0, .ref A_x), (2, .int y34)]) hx hb dX5_wordsRight_159 rfl hl (by decide) rfl (fun ls hl => ?_)
                  refine lv_iinc (v := (y34 + (1 : Int32))) (lv' := [(2, .int (y34 + (1 : Int32))), (1, .int (0 : Int32)), (0, .ref A_x)]) hx hb dX5_wordsRight_160 hl (k := 2) rfl rfl (by decide) rfl (fun ls hl => ?_)
                  refine lv_goto (tgt := 123) hx hb dX5_wordsRight_163 (by decide) ?_
                  cases hm
                  exact ih _ _ hy _ _ hP hD hS _ (lv_sub hl [2, 1, 0] rfl)
                · have hm := g_t c42 hm
                  refine lv_iconst (v := 1) hx hb dX5_wordsRight_154 (by decide) ?_
                  refine lv_goto (tgt := 159) hx hb dX5_wordsRight_155 (by decide) ?_
                  refine lv_istore_n (lv' := [(1, .int (1 : Int32)), (0, .ref A_x), (2, .int y34)]) hx hb dX5_wordsRight_159 rfl hl (by decide) rfl (fun ls hl => ?_)
                  refine lv_iinc (v := (y34 + (1 : Int32))) (lv' := [(2, .int (y34 + (1 : Int32))), (1, .int (1 : Int32)), (0, .ref A_x)]) hx hb dX5_wordsRight_160 hl (k := 2) rfl rfl (by decide) rfl (fun ls hl => ?_)
                  refine lv_goto (tgt := 123) hx hb dX5_wordsRight_163 (by decide) ?_
                  cases hm
                  exact ih _ _ hy _ _ hP hD hS _ (lv_sub hl [2, 1, 0] rfl)
      exact hL36 _ _ _ hlp _ _ hP hD hS _ (lv_sub hl [2, 1, 0] rfl)
    have hL11 : ∀ (n : Nat) (y8 : Int32) (f9 : (Nat → Int32)), g_loop (fun q => m_X5_wordsRight_L23 c_ho q.1 q.2) n (y8, f9) = some rl11 → ∀ (H11b : Heap) (locs11b : List Loc), va_P (dC, dI) vwCl (wM A_x A_da A_ma A_ha A_ho A_ti A_be A_te A_ch K_da K_ma K_ha K_ho K_ti K_be K_te K_ch c_da c_ma c_ha c_ho c_ti f9 c_te c_ch c_up c_fu c_tm c_tc) H11b → va_D A (wM A_x A_da A_ma A_ha A_ho A_ti A_be A_te A_ch K_da K_ma K_ha K_ho K_ti K_be K_te K_ch c_da c_ma c_ha c_ho c_ti f9 c_te c_ch c_up c_fu c_tm c_tc) → va_S A s.heap H11b locs11b → ∀ (ls : Array Slot), lv_has ls 6 [(0, .ref A_x), (1, .int y8)] → W p l e (headSpec wsX5_wordsRight rm_X5_wordsRight).room s m (([.ref A_x] : List Value).toArray) below meth c H11b locs11b 0 0 Q (F0 m 23 ls []) := by
      intro n
      induction n with
      | zero =>
        intro y8 f9 hm
        exact g_loop_z hm
      | succ n ih =>
        intro y8 f9 hm H11b locs11b hP hD hS ls hl
        obtain ⟨q, hm, hy⟩ := g_loop_s hm
        have hm : m_X5_wordsRight_L23 c_ho y8 f9 = some q := hm
        unfold m_X5_wordsRight_L23 at hm
        refine lv_iload_n hx hb dX5_wordsRight_23 rfl (lv_at hl 1 rfl) ?_
        refine lv_bipush (v := 6) hx hb dX5_wordsRight_24 (by decide) ?_
        refine lv_icmp_ge (tgt := 119) hx hb dX5_wordsRight_26 (by decide) (fun c12 => ?_) (fun c12 => ?_)
        · have hm := g_t c12 hm
          cases hm
          exact hE11 _ hy _ _ hP hD hS _ (lv_sub hl [0] rfl)
        · have hm := g_f c12 hm
          refine lv_aload_n hx hb dX5_wordsRight_29 rfl (lv_at hl 0 rfl) ?_
          refine va_get (D := (dC, dI)) (ci := 3) (v := .ref A_ho) (C := RX5) (T := TX5) (N := 12) hx hb hts hi_X5_wordsRight_X5 hown hK hP 0 rfl rfl 5 (by decide) (hts (Cond.fieldLink RX5 19 "BuddyFilesModel" "home" "[I") hk_X5_wordsRight_19) (fun _ h9 => h9) rfl dX5_wordsRight_30 ?_
          refine lv_bipush (v := 7) hx hb dX5_wordsRight_33 (by decide) ?_
          refine lv_iload_n hx hb dX5_wordsRight_35 rfl (lv_at hl 1 rfl) ?_
          refine lv_imul hx hb dX5_wordsRight_36 ?_
          refine lv_iconst (v := 2) hx hb dX5_wordsRight_37 (by decide) ?_
          refine lv_iadd hx hb dX5_wordsRight_38 ?_
          obtain ⟨x13, ex, hm⟩ := g_bind hm
          refine w_ald hx hb hK hP 4 3 rfl rfl ex dX5_wordsRight_39 ?_
          refine lv_istore_n (lv' := [(2, .int x13), (0, .ref A_x), (1, .int y8)]) hx hb dX5_wordsRight_40 rfl hl (by decide) rfl (fun ls hl => ?_)
          refine lv_iconst (v := 0) hx hb dX5_wordsRight_41 (by decide) ?_
          refine lv_istore_n (lv' := [(3, .int (0 : Int32)), (2, .int x13), (0, .ref A_x), (1, .int y8)]) hx hb dX5_wordsRight_42 rfl hl (by decide) rfl (fun ls hl => ?_)
          obtain ⟨rl18, hlp, hm⟩ := g_bind hm
          have hE18 : ∀ (f17 : (Nat → Int32)), f17 = rl18 → ∀ (H18e : Heap) (locs18e : List Loc), va_P (dC, dI) vwCl (wM A_x A_da A_ma A_ha A_ho A_ti A_be A_te A_ch K_da K_ma K_ha K_ho K_ti K_be K_te K_ch c_da c_ma c_ha c_ho c_ti f17 c_te c_ch c_up c_fu c_tm c_tc) H18e → va_D A (wM A_x A_da A_ma A_ha A_ho A_ti A_be A_te A_ch K_da K_ma K_ha K_ho K_ti K_be K_te K_ch c_da c_ma c_ha c_ho c_ti f17 c_te c_ch c_up c_fu c_tm c_tc) → va_S A s.heap H18e locs18e → ∀ (ls : Array Slot), lv_has ls 6 [(0, .ref A_x), (1, .int y8)] → W p l e (headSpec wsX5_wordsRight rm_X5_wordsRight).room s m (([.ref A_x] : List Value).toArray) below meth c H18e locs18e 0 0 Q (F0 m 113 ls []) := by
            intro f17 hq H18e locs18e hP hD hS ls hl
            subst hq
            have hm := g_k1_s hm
            refine lv_iinc (v := (y8 + (1 : Int32))) (lv' := [(1, .int (y8 + (1 : Int32))), (0, .ref A_x)]) hx hb dX5_wordsRight_113 hl (k := 1) rfl rfl (by decide) rfl (fun ls hl => ?_)
            refine lv_goto (tgt := 23) hx hb dX5_wordsRight_116 (by decide) ?_
            cases hm
            exact ih _ _ hy _ _ hP hD hS _ (lv_sub hl [1, 0] rfl)
          have hL18 : ∀ (n : Nat) (y14 : Int32) (y15 : Int32) (f16 : (Nat → Int32)), g_loop (fun q => m_X5_wordsRight_L43 c_ho y8 q.1 q.2.1 q.2.2) n (y14, y15, f16) = some rl18 → ∀ (H18b : Heap) (locs18b : List Loc), va_P (dC, dI) vwCl (wM A_x A_da A_ma A_ha A_ho A_ti A_be A_te A_ch K_da K_ma K_ha K_ho K_ti K_be K_te K_ch c_da c_ma c_ha c_ho c_ti f16 c_te c_ch c_up c_fu c_tm c_tc) H18b → va_D A (wM A_x A_da A_ma A_ha A_ho A_ti A_be A_te A_ch K_da K_ma K_ha K_ho K_ti K_be K_te K_ch c_da c_ma c_ha c_ho c_ti f16 c_te c_ch c_up c_fu c_tm c_tc) → va_S A s.heap H18b locs18b → ∀ (ls : Array Slot), lv_has ls 6 [(0, .ref A_x), (1, .int y8), (2, .int y14), (3, .int y15)] → W p l e (headSpec wsX5_wordsRight rm_X5_wordsRight).room s m (([.ref A_x] : List Value).toArray) below meth c H18b locs18b 0 0 Q (F0 m 43 ls []) := by
            intro n
            induction n with
            | zero =>
              intro y14 y15 f16 hm
              exact g_loop_z hm
            | succ n ih =>
              intro y14 y15 f16 hm H18b locs18b hP hD hS ls hl
              obtain ⟨q, hm, hy⟩ := g_loop_s hm
              have hm : m_X5_wordsRight_L43 c_ho y8 y14 y15 f16 = some q := hm
              unfold m_X5_wordsRight_L43 at hm
              refine lv_iload_n hx hb dX5_wordsRight_43 rfl (lv_at hl 3 rfl) ?_
              refine lv_iconst (v := 4) hx hb dX5_wordsRight_44 (by decide) ?_
              refine lv_icmp_ge (tgt := 113) hx hb dX5_wordsRight_45 (by decide) (fun c19 => ?_) (fun c19 => ?_)
              · have hm := g_t c19 hm
                cases hm
                exact hE18 _ hy _ _ hP hD hS _ (lv_sub hl [0, 1] rfl)
              · have hm := g_f c19 hm
                refine lv_aload_n hx hb dX5_wordsRight_48 rfl (lv_at hl 0 rfl) ?_
                refine va_get (D := (dC, dI)) (ci := 3) (v := .ref A_ho) (C := RX5) (T := TX5) (N := 12) hx hb hts hi_X5_wordsRight_X5 hown hK hP 0 rfl rfl 5 (by decide) (hts (Cond.fieldLink RX5 19 "BuddyFilesModel" "home" "[I") hk_X5_wordsRight_19) (fun _ h9 => h9) rfl dX5_wordsRight_49 ?_
                refine lv_bipush (v := 7) hx hb dX5_wordsRight_52 (by decide) ?_
                refine lv_iload_n hx hb dX5_wordsRight_54 rfl (lv_at hl 1 rfl) ?_
                refine lv_imul hx hb dX5_wordsRight_55 ?_
                refine lv_iconst (v := 3) hx hb dX5_wordsRight_56 (by decide) ?_
                refine lv_iadd hx hb dX5_wordsRight_57 ?_
                refine lv_iload_n hx hb dX5_wordsRight_58 rfl (lv_at hl 3 rfl) ?_
                refine lv_iadd hx hb dX5_wordsRight_59 ?_
                obtain ⟨x20, ex, hm⟩ := g_bind hm
                refine w_ald hx hb hK hP 4 3 rfl rfl ex dX5_wordsRight_60 ?_
                refine lv_istore (lv' := [(4, .int x20), (0, .ref A_x), (1, .int y8), (2, .int y14), (3, .int y15)]) hx hb dX5_wordsRight_61 hl (by decide) rfl (fun ls hl => ?_)
                refine lv_iconst (v := 0) hx hb dX5_wordsRight_63 (by decide) ?_
                refine lv_istore (lv' := [(5, .int (0 : Int32)), (4, .int x20), (0, .ref A_x), (1, .int y8), (2, .int y14), (3, .int y15)]) hx hb dX5_wordsRight_64 hl (by decide) rfl (fun ls hl => ?_)
                obtain ⟨rl26, hlp, hm⟩ := g_bind hm
                have hE26 : ∀ (z24 : Int32) (f25 : (Nat → Int32)), (z24, f25) = rl26 → ∀ (H26e : Heap) (locs26e : List Loc), va_P (dC, dI) vwCl (wM A_x A_da A_ma A_ha A_ho A_ti A_be A_te A_ch K_da K_ma K_ha K_ho K_ti K_be K_te K_ch c_da c_ma c_ha c_ho c_ti f25 c_te c_ch c_up c_fu c_tm c_tc) H26e → va_D A (wM A_x A_da A_ma A_ha A_ho A_ti A_be A_te A_ch K_da K_ma K_ha K_ho K_ti K_be K_te K_ch c_da c_ma c_ha c_ho c_ti f25 c_te c_ch c_up c_fu c_tm c_tc) → va_S A s.heap H26e locs26e → ∀ (ls : Array Slot), lv_has ls 6 [(0, .ref A_x), (1, .int y8), (2, .int z24), (3, .int y15)] → W p l e (headSpec wsX5_wordsRight rm_X5_wordsRight).room s m (([.ref A_x] : List Value).toArray) below meth c H26e locs26e 0 0 Q (F0 m 107 ls []) := by
                  intro z24 f25 hq H26e locs26e hP hD hS ls hl
                  subst hq
                  have hm := g_k2_s hm
                  refine lv_iinc (v := (y15 + (1 : Int32))) (lv' := [(3, .int (y15 + (1 : Int32))), (0, .ref A_x), (1, .int y8), (2, .int z24)]) hx hb dX5_wordsRight_107 hl (k := 3) rfl rfl (by decide) rfl (fun ls hl => ?_)
                  refine lv_goto (tgt := 43) hx hb dX5_wordsRight_110 (by decide) ?_
                  cases hm
                  exact ih _ _ _ hy _ _ hP hD hS _ (lv_sub hl [1, 2, 3, 0] rfl)
                have hL26 : ∀ (n : Nat) (y21 : Int32) (y22 : Int32) (f23 : (Nat → Int32)), g_loop (fun q => m_X5_wordsRight_L66 x20 q.1 q.2.1 q.2.2) n (y21, y22, f23) = some rl26 → ∀ (H26b : Heap) (locs26b : List Loc), va_P (dC, dI) vwCl (wM A_x A_da A_ma A_ha A_ho A_ti A_be A_te A_ch K_da K_ma K_ha K_ho K_ti K_be K_te K_ch c_da c_ma c_ha c_ho c_ti f23 c_te c_ch c_up c_fu c_tm c_tc) H26b → va_D A (wM A_x A_da A_ma A_ha A_ho A_ti A_be A_te A_ch K_da K_ma K_ha K_ho K_ti K_be K_te K_ch c_da c_ma c_ha c_ho c_ti f23 c_te c_ch c_up c_fu c_tm c_tc) → va_S A s.heap H26b locs26b → ∀ (ls : Array Slot), lv_has ls 6 [(0, .ref A_x), (1, .int y8), (2, .int y21), (3, .int y15), (4, .int x20), (5, .int y22)] → W p l e (headSpec wsX5_wordsRight rm_X5_wordsRight).room s m (([.ref A_x] : List Value).toArray) below meth c H26b locs26b 0 0 Q (F0 m 66 ls []) := by
                  intro n
                  induction n with
                  | zero =>
                    intro y21 y22 f23 hm
                    exact g_loop_z hm
                  | succ n ih =>
                    intro y21 y22 f23 hm H26b locs26b hP hD hS ls hl
                    obtain ⟨q, hm, hy⟩ := g_loop_s hm
                    have hm : m_X5_wordsRight_L66 x20 y21 y22 f23 = some q := hm
                    unfold m_X5_wordsRight_L66 at hm
                    refine lv_iload hx hb dX5_wordsRight_66 (lv_at hl 5 rfl) ?_
                    refine lv_iconst (v := 2) hx hb dX5_wordsRight_68 (by decide) ?_
                    refine lv_iload hx hb dX5_wordsRight_69 (lv_at hl 4 rfl) ?_
                    obtain ⟨x27, ex, hm⟩ := g_bind hm
                    refine vp_callSi (W.runS (As := [.int x20]) (rest := [.int (2 : Int32), .int y22]) ⟨hx, hb, hml, hown, hts⟩ (k_X5_size l  x20 _ ex) (va_cwS 1 hts gX5_wordsRight_X5_size rfl rfl rfl (by decide +kernel) ⟨Nat.le_of_ble_eq_true rfl, Nat.le_of_ble_eq_true rfl⟩) ⟨w_bl0, fun U hU hW => ⟨rfl, trivial⟩⟩ rfl rfl hl.1 rfl (lv_room (Nat.le_of_ble_eq_true rfl)) dX5_wordsRight_71 ⟨Nat.zero_le _, Nat.zero_le _⟩) (fun _ ey => ?_)
                    subst ey
                    refine lv_imul hx hb dX5_wordsRight_74 ?_
                    refine lv_icmp_ge (tgt := 107) hx hb dX5_wordsRight_75 (by decide) (fun c28 => ?_) (fun c28 => ?_)
                    · have hm := g_t c28 hm
                      cases hm
                      exact hE26 _ _ hy _ _ hP hD hS _ (lv_sub hl [0, 1, 2, 3] rfl)
                    · have hm := g_f c28 hm
                      refine lv_iload_n hx hb dX5_wordsRight_78 rfl (lv_at hl 2 rfl) ?_
                      refine lv_if_le (tgt := 107) hx hb dX5_wordsRight_79 (by decide) (fun c29 => ?_) (fun c29 => ?_)
                      · have hm := g_t c29 hm
                        cases hm
                        exact hE26 _ _ hy _ _ hP hD hS _ (lv_sub hl [0, 1, 2, 3] rfl)
                      · have hm := g_f c29 hm
                        refine lv_aload_n hx hb dX5_wordsRight_82 rfl (lv_at hl 0 rfl) ?_
                        refine va_get (D := (dC, dI)) (ci := 3) (v := .ref A_be) (C := RX5) (T := TX5) (N := 12) hx hb hts hi_X5_wordsRight_X5 hown hK hP 0 rfl rfl 7 (by decide) (hts (Cond.fieldLink RX5 25 "BuddyFilesModel" "belongs" "[Z") hk_X5_wordsRight_25) (fun _ h9 => h9) rfl dX5_wordsRight_83 ?_
                        refine lv_iconst (v := 2) hx hb dX5_wordsRight_86 (by decide) ?_
                        refine lv_iload hx hb dX5_wordsRight_87 (lv_at hl 4 rfl) ?_
                        obtain ⟨x30, ex, hm⟩ := g_bind hm
                        refine vp_callSi (W.runS (As := [.int x20]) (rest := [.int (2 : Int32), .ref A_be]) ⟨hx, hb, hml, hown, hts⟩ (k_X5_start l  x20 _ ex) (va_cwS 1 hts gX5_wordsRight_X5_start rfl rfl rfl (by decide +kernel) ⟨Nat.le_of_ble_eq_true rfl, Nat.le_of_ble_eq_true rfl⟩) ⟨w_bl0, fun U hU hW => ⟨rfl, trivial⟩⟩ rfl rfl hl.1 rfl (lv_room (Nat.le_of_ble_eq_true rfl)) dX5_wordsRight_89 ⟨Nat.zero_le _, Nat.zero_le _⟩) (fun _ ey => ?_)
                        subst ey
                        refine lv_imul hx hb dX5_wordsRight_92 ?_
                        refine lv_iload hx hb dX5_wordsRight_93 (lv_at hl 5 rfl) ?_
                        refine lv_iadd hx hb dX5_wordsRight_95 ?_
                        refine lv_iconst (v := 1) hx hb dX5_wordsRight_96 (by decide) ?_
                        obtain ⟨f31, ex, hm⟩ := g_bind hm
                        refine w_zast hx hb hK hP hD hS 6 5 rfl rfl w_nar1 ex dX5_wordsRight_97 (fun H32 locs32 hP hD hS => ?_)
                        have hP : va_P (dC, dI) vwCl (wM A_x A_da A_ma A_ha A_ho A_ti A_be A_te A_ch K_da K_ma K_ha K_ho K_ti K_be K_te K_ch c_da c_ma c_ha c_ho c_ti f31 c_te c_ch c_up c_fu c_tm c_tc) H32 := hP
                        have hD : va_D A (wM A_x A_da A_ma A_ha A_ho A_ti A_be A_te A_ch K_da K_ma K_ha K_ho K_ti K_be K_te K_ch c_da c_ma c_ha c_ho c_ti f31 c_te c_ch c_up c_fu c_tm c_tc) := hD
                        refine lv_iinc (v := (y21 + (-1 : Int32))) (lv' := [(2, .int (y21 + (-1 : Int32))), (0, .ref A_x), (1, .int y8), (3, .int y15), (4, .int x20), (5, .int y22)]) hx hb dX5_wordsRight_98 hl (k := 2) rfl rfl (by decide) rfl (fun ls hl => ?_)
                        refine lv_iinc (v := (y22 + (1 : Int32))) (lv' := [(5, .int (y22 + (1 : Int32))), (2, .int (y21 + (-1 : Int32))), (0, .ref A_x), (1, .int y8), (3, .int y15), (4, .int x20)]) hx hb dX5_wordsRight_101 hl (k := 5) rfl rfl (by decide) rfl (fun ls hl => ?_)
                        refine lv_goto (tgt := 66) hx hb dX5_wordsRight_104 (by decide) ?_
                        cases hm
                        exact ih _ _ _ hy _ _ hP hD hS _ (lv_sub hl [2, 3, 1, 4, 5, 0] rfl)
                exact hL26 _ _ _ _ hlp _ _ hP hD hS _ (lv_sub hl [2, 3, 4, 5, 1, 0] rfl)
          exact hL18 _ _ _ _ hlp _ _ hP hD hS _ (lv_sub hl [2, 3, 1, 0] rfl)
    exact hL11 _ _ _ hlp _ _ hP hD hS _ (lv_sub hl [1, 0] rfl)
  have hL4 : ∀ (n : Nat) (y1 : Int32) (f2 : (Nat → Int32)), g_loop (fun q => m_X5_wordsRight_L2 q.1 q.2) n (y1, f2) = some rl4 → ∀ (H4b : Heap) (locs4b : List Loc), va_P (dC, dI) vwCl (wM A_x A_da A_ma A_ha A_ho A_ti A_be A_te A_ch K_da K_ma K_ha K_ho K_ti K_be K_te K_ch c_da c_ma c_ha c_ho c_ti f2 c_te c_ch c_up c_fu c_tm c_tc) H4b → va_D A (wM A_x A_da A_ma A_ha A_ho A_ti A_be A_te A_ch K_da K_ma K_ha K_ho K_ti K_be K_te K_ch c_da c_ma c_ha c_ho c_ti f2 c_te c_ch c_up c_fu c_tm c_tc) → va_S A s.heap H4b locs4b → ∀ (ls : Array Slot), lv_has ls 6 [(0, .ref A_x), (1, .int y1)] → W p l e (headSpec wsX5_wordsRight rm_X5_wordsRight).room s m (([.ref A_x] : List Value).toArray) below meth c H4b locs4b 0 0 Q (F0 m 2 ls []) := by
    intro n
    induction n with
    | zero =>
      intro y1 f2 hm
      exact g_loop_z hm
    | succ n ih =>
      intro y1 f2 hm H4b locs4b hP hD hS ls hl
      obtain ⟨q, hm, hy⟩ := g_loop_s hm
      have hm : m_X5_wordsRight_L2 y1 f2 = some q := hm
      unfold m_X5_wordsRight_L2 at hm
      refine lv_iload_n hx hb dX5_wordsRight_2 rfl (lv_at hl 1 rfl) ?_
      refine lv_bipush (v := 64) hx hb dX5_wordsRight_3 (by decide) ?_
      refine lv_icmp_ge (tgt := 21) hx hb dX5_wordsRight_5 (by decide) (fun c5 => ?_) (fun c5 => ?_)
      · have hm := g_t c5 hm
        cases hm
        exact hE4 _ hy _ _ hP hD hS _ (lv_sub hl [0] rfl)
      · have hm := g_f c5 hm
        refine lv_aload_n hx hb dX5_wordsRight_8 rfl (lv_at hl 0 rfl) ?_
        refine va_get (D := (dC, dI)) (ci := 3) (v := .ref A_be) (C := RX5) (T := TX5) (N := 12) hx hb hts hi_X5_wordsRight_X5 hown hK hP 0 rfl rfl 7 (by decide) (hts (Cond.fieldLink RX5 25 "BuddyFilesModel" "belongs" "[Z") hk_X5_wordsRight_25) (fun _ h9 => h9) rfl dX5_wordsRight_9 ?_
        refine lv_iload_n hx hb dX5_wordsRight_12 rfl (lv_at hl 1 rfl) ?_
        refine lv_iconst (v := 0) hx hb dX5_wordsRight_13 (by decide) ?_
        obtain ⟨f6, ex, hm⟩ := g_bind hm
        refine w_zast hx hb hK hP hD hS 6 5 rfl rfl w_nar0 ex dX5_wordsRight_14 (fun H7 locs7 hP hD hS => ?_)
        have hP : va_P (dC, dI) vwCl (wM A_x A_da A_ma A_ha A_ho A_ti A_be A_te A_ch K_da K_ma K_ha K_ho K_ti K_be K_te K_ch c_da c_ma c_ha c_ho c_ti f6 c_te c_ch c_up c_fu c_tm c_tc) H7 := hP
        have hD : va_D A (wM A_x A_da A_ma A_ha A_ho A_ti A_be A_te A_ch K_da K_ma K_ha K_ho K_ti K_be K_te K_ch c_da c_ma c_ha c_ho c_ti f6 c_te c_ch c_up c_fu c_tm c_tc) := hD
        refine lv_iinc (v := (y1 + (1 : Int32))) (lv' := [(1, .int (y1 + (1 : Int32))), (0, .ref A_x)]) hx hb dX5_wordsRight_15 hl (k := 1) rfl rfl (by decide) rfl (fun ls hl => ?_)
        refine lv_goto (tgt := 2) hx hb dX5_wordsRight_18 (by decide) ?_
        cases hm
        exact ih _ _ hy _ _ hP hD hS _ (lv_sub hl [1, 0] rfl)
  exact hL4 _ _ _ hlp _ _ hP hD hS _ (lv_sub hl [1, 0] rfl)
abbrev rm_X5_judge : Room := { frames := 3, cells := 0, slots := 0, locals := 68 }
set_option maxHeartbeats 4000000 in
set_option maxRecDepth 100000 in
theorem k_X5_judge (l : Launch) (dC : Nat → ClassId) (dI : Nat → Nat → Nat) (A_x A_da A_ma A_ha A_ho A_ti A_be A_te A_ch : Nat) (K_da K_ma K_ha K_ho K_ti K_be K_te K_ch : ClassId) (c_da c_ma c_ha c_ho c_ti c_be c_te c_ch : Nat → Int32) (c_up c_fu c_tm c_tc : Int32) (sz : Nat)  (r0 : Int32) (o_ho : (Nat → Int32)) (o_ti : (Nat → Int32)) (o_be : (Nat → Int32)) (hm : m_X5_judge c_da c_ho c_ti c_be = some (r0, o_ho, o_ti, o_be)) : Met l yX5_judge wsX5_judge rm_X5_judge (va_Pc [.ref A_x] (fun U => U.heap.size = sz ∧ va_P (dC, dI) vwCl (wM A_x A_da A_ma A_ha A_ho A_ti A_be A_te A_ch K_da K_ma K_ha K_ho K_ti K_be K_te K_ch c_da c_ma c_ha c_ho c_ti c_be c_te c_ch c_up c_fu c_tm c_tc) U.heap ∧ va_K (dC, dI) vwCl (tM K_da K_ma K_ha K_ho K_ti K_be K_te K_ch) U ∧ va_D (fun _ => True) (wM A_x A_da A_ma A_ha A_ho A_ti A_be A_te A_ch K_da K_ma K_ha K_ho K_ti K_be K_te K_ch c_da c_ma c_ha c_ho c_ti c_be c_te c_ch c_up c_fu c_tm c_tc))) (va_Qi (fun (r : Int32) (_ : Unit) => r0 = r) (fun _ t => va_P (dC, dI) vwCl (wM A_x A_da A_ma A_ha A_ho A_ti A_be A_te A_ch K_da K_ma K_ha K_ho K_ti K_be K_te K_ch c_da c_ma c_ha o_ho o_ti o_be c_te c_ch c_up c_fu c_tm c_tc) t.heap ∧ va_D (va_A (wM A_x A_da A_ma A_ha A_ho A_ti A_be A_te A_ch K_da K_ma K_ha K_ho K_ti K_be K_te K_ch c_da c_ma c_ha c_ho c_ti c_be c_te c_ch c_up c_fu c_tm c_tc) sz) (wM A_x A_da A_ma A_ha A_ho A_ti A_be A_te A_ch K_da K_ma K_ha K_ho K_ti K_be K_te K_ch c_da c_ma c_ha o_ho o_ti o_be c_te c_ch c_up c_fu c_tm c_tc)) (va_A (wM A_x A_da A_ma A_ha A_ho A_ti A_be A_te A_ch K_da K_ma K_ha K_ho K_ti K_be K_te K_ch c_da c_ma c_ha c_ho c_ti c_be c_te c_ch c_up c_fu c_tm c_tc) sz)) 0 0 (va_A (wM A_x A_da A_ma A_ha A_ho A_ti A_be A_te A_ch K_da K_ma K_ha K_ho K_ti K_be K_te K_ch c_da c_ma c_ha c_ho c_ti c_be c_te c_ch c_up c_fu c_tm c_tc) sz) := by
  refine Met.ofW (cc := cX5_judge) (maxL := 1) (ret := (some .int)) (by decide) rfl ?_
  intro p e s m args below meth c s₁ B hml hv
  obtain ⟨rfl, hsz, hP, hK, hD0⟩ := hv
  have hx := B.exec
  have hb := B.bytes
  have hr := B.returns
  have hts := atoms_spec (ws := wsX5_judge) B.pre
  have hown : s.vm.findClass RX5 = some m.cls := findClass_of_methodNamed B.named
  have hlocks := B.notSynchronized
  subst hsz
  have hD := hD0.self (sz := s.heap.size)
  generalize hAe : va_A (wM A_x A_da A_ma A_ha A_ho A_ti A_be A_te A_ch K_da K_ma K_ha K_ho K_ti K_be K_te K_ch c_da c_ma c_ha c_ho c_ti c_be c_te c_ch c_up c_fu c_tm c_tc) s.heap.size = A at hD ⊢
  have hA : ∀ q : Nat, s.heap.size ≤ q → A q := fun q h => by rw [← hAe]; exact Or.inr h
  have hS : va_S A s.heap s.heap [] := va_S.rf
  have hP : va_P (dC, dI) vwCl (wM A_x A_da A_ma A_ha A_ho A_ti A_be A_te A_ch K_da K_ma K_ha K_ho K_ti K_be K_te K_ch c_da c_ma c_ha c_ho c_ti c_be c_te c_ch c_up c_fu c_tm c_tc) s.heap := hP
  have hl := lv_entry ([.ref A_x]) (n := 1) (Nat.le_of_ble_eq_true rfl)
  rw [lg_entry_eq]
  generalize (lg_sl ([.ref A_x]) ++ List.replicate (1 - (lg_sl ([.ref A_x])).length) Slot.unset).toArray = ls at hl ⊢
  have hl : lv_has ls 1 [(0, .ref A_x)] := hl
  refine w_name (fun Q hQ => ?_)
  unfold m_X5_judge at hm
  refine lv_aload_n hx hb dX5_judge_0 rfl (lv_at hl 0 rfl) ?_
  obtain ⟨f1, ex, hm⟩ := g_bind hm
  have hPc := hP.sub (ws' := (wM A_x A_da A_ma A_ha A_ho A_ti A_be A_te A_ch K_da K_ma K_ha K_ho K_ti K_be K_te K_ch c_da c_ma c_ha c_ho c_ti c_be c_te c_ch c_up c_fu c_tm c_tc)) [0, 1, 2, 3, 4, 5, 6, 7, 8] rfl
  have hDc := hD.sub (ws' := (wM A_x A_da A_ma A_ha A_ho A_ti A_be A_te A_ch K_da K_ma K_ha K_ho K_ti K_be K_te K_ch c_da c_ma c_ha c_ho c_ti c_be c_te c_ch c_up c_fu c_tm c_tc)) [0, 1, 2, 3, 4, 5, 6, 7, 8] (by decide) rfl
  have hKc := hK.sub (tys' := (tM K_da K_ma K_ha K_ho K_ti K_be K_te K_ch)) [0, 1, 2, 3, 4, 5, 6, 7] rfl
  have hFc := va_free (wc := (wM A_x A_da A_ma A_ha A_ho A_ti A_be A_te A_ch K_da K_ma K_ha K_ho K_ti K_be K_te K_ch c_da c_ma c_ha c_ho c_ti c_be c_te c_ch c_up c_fu c_tm c_tc)) hD hS hA [0, 1, 2, 3, 4, 5, 6, 7, 8] rfl
  refine va_callv (va_runV (As := []) (rest := []) ⟨hx, hb, hml, hown, hts⟩ (k_X5_fetch l dC dI A_x A_da A_ma A_ha A_ho A_ti A_be A_te A_ch K_da K_ma K_ha K_ho K_ti K_be K_te K_ch c_da c_ma c_ha c_ho c_ti c_be c_te c_ch c_up c_fu c_tm c_tc s.heap.size  _ ex) (cwV 0 hts gX5_judge_X5_fetch rfl rfl rfl (by decide +kernel) ⟨Nat.le_of_ble_eq_true rfl, Nat.le_of_ble_eq_true rfl⟩) ⟨w_blW, va_recv hKc hPc (ci := 3) (q0 := 0) rfl rfl, fun U hU hW => ⟨rfl, by rw [hU], by rw [hU]; exact hPc, va_K.moved hW.alike hKc, hDc.weaken (fun _ _ _ _ => trivial)⟩⟩ rfl rfl hl.1 rfl (lv_room (Nat.le_of_ble_eq_true rfl)) dX5_judge_1 ⟨Nat.zero_le _, Nat.zero_le _⟩) hS (fun q _ h => hFc q h) hFc (fun _ t H2 locs2 ht hvm hw hB hz1 hk1 hS => ?_)
  refine W.widen (k := 0) (n := 0) (Nat.le_refl 0) (Nat.le_refl 0) ?_
  obtain ⟨hP1, hD1⟩ := hB
  rw [ht] at hP1
  obtain ⟨hP, hD⟩ := va_join (wr := []) (w1 := (wM A_x A_da A_ma A_ha A_ho A_ti A_be A_te A_ch K_da K_ma K_ha K_ho K_ti K_be K_te K_ch c_da c_ma c_ha f1 c_ti c_be c_te c_ch c_up c_fu c_tm c_tc)) hP hD [0, 1, 2, 3, 4, 5, 6, 7, 8] [] rfl rfl (by decide) (by decide) hk1 hFc hP1 hD1
  have hP : va_P (dC, dI) vwCl (wM A_x A_da A_ma A_ha A_ho A_ti A_be A_te A_ch K_da K_ma K_ha K_ho K_ti K_be K_te K_ch c_da c_ma c_ha f1 c_ti c_be c_te c_ch c_up c_fu c_tm c_tc) H2 := hP.sub [0, 1, 2, 3, 4, 5, 6, 7, 8] rfl
  have hD : va_D A (wM A_x A_da A_ma A_ha A_ho A_ti A_be A_te A_ch K_da K_ma K_ha K_ho K_ti K_be K_te K_ch c_da c_ma c_ha f1 c_ti c_be c_te c_ch c_up c_fu c_tm c_tc) := hD.sub [0, 1, 2, 3, 4, 5, 6, 7, 8] (by decide) rfl
  refine lv_aload_n hx hb dX5_judge_4 rfl (lv_at hl 0 rfl) ?_
  obtain ⟨x3, ex, hm⟩ := g_bind hm
  refine vp_callSi (W.runV (As := []) (rest := []) ⟨hx, hb, hml, hown, hts⟩ (k_X5_slotsRight l dC dI A_x A_da A_ma A_ha A_ho A_ti A_be A_te A_ch K_da K_ma K_ha K_ho K_ti K_be K_te K_ch c_da c_ma c_ha f1 c_ti c_be c_te c_ch c_up c_fu c_tm c_tc  _ ex) (cwV 0 hts gX5_judge_X5_slotsRight rfl rfl rfl (by decide +kernel) ⟨Nat.le_of_ble_eq_true rfl, Nat.le_of_ble_eq_true rfl⟩) ⟨w_blR, va_recv hK hP (ci := 3) (q0 := 0) rfl rfl, fun U hU hW => ⟨rfl, by rw [hU]; exact hP.sub [0, 1, 2, 3, 4, 5, 6, 7, 8] rfl, va_K.moved hW.alike (hK.sub [0, 1, 2, 3, 4, 5, 6, 7] rfl)⟩⟩ rfl rfl hl.1 rfl (lv_room (Nat.le_of_ble_eq_true rfl)) dX5_judge_5 ⟨Nat.zero_le _, Nat.zero_le _⟩) (fun _ ey => ?_)
  subst ey
  refine lv_if_ne (tgt := 13) hx hb dX5_judge_8 (by decide) (fun c4 => ?_) (fun c4 => ?_)
  · have hm := g_f c4 hm
    refine lv_aload_n hx hb dX5_judge_13 rfl (lv_at hl 0 rfl) ?_
    obtain ⟨x5, ex, hm⟩ := g_bind hm
    refine vp_callSi (W.runV (As := []) (rest := []) ⟨hx, hb, hml, hown, hts⟩ (k_X5_namesRight l dC dI A_x A_da A_ma A_ha A_ho A_ti A_be A_te A_ch K_da K_ma K_ha K_ho K_ti K_be K_te K_ch c_da c_ma c_ha f1 c_ti c_be c_te c_ch c_up c_fu c_tm c_tc  _ ex) (cwV 0 hts gX5_judge_X5_namesRight rfl rfl rfl (by decide +kernel) ⟨Nat.le_of_ble_eq_true rfl, Nat.le_of_ble_eq_true rfl⟩) ⟨w_blR, va_recv hK hP (ci := 3) (q0 := 0) rfl rfl, fun U hU hW => ⟨rfl, by rw [hU]; exact hP.sub [0, 1, 2, 3, 4, 5, 6, 7, 8] rfl, va_K.moved hW.alike (hK.sub [0, 1, 2, 3, 4, 5, 6, 7] rfl)⟩⟩ rfl rfl hl.1 rfl (lv_room (Nat.le_of_ble_eq_true rfl)) dX5_judge_14 ⟨Nat.zero_le _, Nat.zero_le _⟩) (fun _ ey => ?_)
    subst ey
    refine lv_if_ne (tgt := 22) hx hb dX5_judge_17 (by decide) (fun c6 => ?_) (fun c6 => ?_)
    · have hm := g_f c6 hm
      refine lv_aload_n hx hb dX5_judge_22 rfl (lv_at hl 0 rfl) ?_
      obtain ⟨x7, ex, hm⟩ := g_bind hm
      refine vp_callSi (W.runV (As := []) (rest := []) ⟨hx, hb, hml, hown, hts⟩ (k_X5_extentsRight l dC dI A_x A_da A_ma A_ha A_ho A_ti A_be A_te A_ch K_da K_ma K_ha K_ho K_ti K_be K_te K_ch c_da c_ma c_ha f1 c_ti c_be c_te c_ch c_up c_fu c_tm c_tc  _ ex) (cwV 0 hts gX5_judge_X5_extentsRight rfl rfl rfl (by decide +kernel) ⟨Nat.le_of_ble_eq_true rfl, Nat.le_of_ble_eq_true rfl⟩) ⟨w_blR, va_recv hK hP (ci := 3) (q0 := 0) rfl rfl, fun U hU hW => ⟨rfl, by rw [hU]; exact hP.sub [0, 1, 2, 3, 4, 5, 6, 7, 8] rfl, va_K.moved hW.alike (hK.sub [0, 1, 2, 3, 4, 5, 6, 7] rfl)⟩⟩ rfl rfl hl.1 rfl (lv_room (Nat.le_of_ble_eq_true rfl)) dX5_judge_23 ⟨Nat.zero_le _, Nat.zero_le _⟩) (fun _ ey => ?_)
      subst ey
      refine lv_if_ne (tgt := 31) hx hb dX5_judge_26 (by decide) (fun c8 => ?_) (fun c8 => ?_)
      · have hm := g_f c8 hm
        refine lv_aload_n hx hb dX5_judge_31 rfl (lv_at hl 0 rfl) ?_
        obtain ⟨⟨x9, f10⟩, ex, hm⟩ := g_bind hm
        have hm := g_k2_s hm
        have hPc := hP.sub (ws' := (wM A_x A_da A_ma A_ha A_ho A_ti A_be A_te A_ch K_da K_ma K_ha K_ho K_ti K_be K_te K_ch c_da c_ma c_ha f1 c_ti c_be c_te c_ch c_up c_fu c_tm c_tc)) [0, 1, 2, 3, 4, 5, 6, 7, 8] rfl
        have hDc := hD.sub (ws' := (wM A_x A_da A_ma A_ha A_ho A_ti A_be A_te A_ch K_da K_ma K_ha K_ho K_ti K_be K_te K_ch c_da c_ma c_ha f1 c_ti c_be c_te c_ch c_up c_fu c_tm c_tc)) [0, 1, 2, 3, 4, 5, 6, 7, 8] (by decide) rfl
        have hKc := hK.sub (tys' := (tM K_da K_ma K_ha K_ho K_ti K_be K_te K_ch)) [0, 1, 2, 3, 4, 5, 6, 7] rfl
        have hFc := va_free (wc := (wM A_x A_da A_ma A_ha A_ho A_ti A_be A_te A_ch K_da K_ma K_ha K_ho K_ti K_be K_te K_ch c_da c_ma c_ha f1 c_ti c_be c_te c_ch c_up c_fu c_tm c_tc)) hD hS hA [0, 1, 2, 3, 4, 5, 6, 7, 8] rfl
        refine va_calli (va_runV (As := []) (rest := []) ⟨hx, hb, hml, hown, hts⟩ (k_X5_blocksRight l dC dI A_x A_da A_ma A_ha A_ho A_ti A_be A_te A_ch K_da K_ma K_ha K_ho K_ti K_be K_te K_ch c_da c_ma c_ha f1 c_ti c_be c_te c_ch c_up c_fu c_tm c_tc H2.size  _ _ ex) (cwV 0 hts gX5_judge_X5_blocksRight rfl rfl rfl (by decide +kernel) ⟨Nat.le_of_ble_eq_true rfl, Nat.le_of_ble_eq_true rfl⟩) ⟨w_blW, va_recv hKc hPc (ci := 3) (q0 := 0) rfl rfl, fun U hU hW => ⟨rfl, by rw [hU], by rw [hU]; exact hPc, va_K.moved hW.alike hKc, hDc.weaken (fun _ _ _ _ => trivial)⟩⟩ rfl rfl hl.1 rfl (lv_room (Nat.le_of_ble_eq_true rfl)) dX5_judge_32 ⟨Nat.zero_le _, Nat.zero_le _⟩) hS (fun q _ h => hFc q h) hFc (fun _ _ t H11 locs11 ht hvm hw hB hz1 hk1 hS => ?_)
        subst hw
        refine W.widen (k := 0) (n := 0) (Nat.le_refl 0) (Nat.le_refl 0) ?_
        obtain ⟨hP1, hD1⟩ := hB
        rw [ht] at hP1
        obtain ⟨hP, hD⟩ := va_join (wr := []) (w1 := (wM A_x A_da A_ma A_ha A_ho A_ti A_be A_te A_ch K_da K_ma K_ha K_ho K_ti K_be K_te K_ch c_da c_ma c_ha f1 f10 c_be c_te c_ch c_up c_fu c_tm c_tc)) hP hD [0, 1, 2, 3, 4, 5, 6, 7, 8] [] rfl rfl (by decide) (by decide) hk1 hFc hP1 hD1
        have hP : va_P (dC, dI) vwCl (wM A_x A_da A_ma A_ha A_ho A_ti A_be A_te A_ch K_da K_ma K_ha K_ho K_ti K_be K_te K_ch c_da c_ma c_ha f1 f10 c_be c_te c_ch c_up c_fu c_tm c_tc) H11 := hP.sub [0, 1, 2, 3, 4, 5, 6, 7, 8] rfl
        have hD : va_D A (wM A_x A_da A_ma A_ha A_ho A_ti A_be A_te A_ch K_da K_ma K_ha K_ho K_ti K_be K_te K_ch c_da c_ma c_ha f1 f10 c_be c_te c_ch c_up c_fu c_tm c_tc) := hD.sub [0, 1, 2, 3, 4, 5, 6, 7, 8] (by decide) rfl
        refine lv_if_ne (tgt := 40) hx hb dX5_judge_35 (by decide) (fun c12 => ?_) (fun c12 => ?_)
        · have hm := g_f c12 hm
          refine lv_aload_n hx hb dX5_judge_40 rfl (lv_at hl 0 rfl) ?_
          obtain ⟨x13, ex, hm⟩ := g_bind hm
          refine vp_callSi (W.runV (As := []) (rest := []) ⟨hx, hb, hml, hown, hts⟩ (k_X5_needsRight l dC dI A_x A_da A_ma A_ha A_ho A_ti A_be A_te A_ch K_da K_ma K_ha K_ho K_ti K_be K_te K_ch c_da c_ma c_ha f1 f10 c_be c_te c_ch c_up c_fu c_tm c_tc  _ ex) (cwV 0 hts gX5_judge_X5_needsRight rfl rfl rfl (by decide +kernel) ⟨Nat.le_of_ble_eq_true rfl, Nat.le_of_ble_eq_true rfl⟩) ⟨w_blR, va_recv hK hP (ci := 3) (q0 := 0) rfl rfl, fun U hU hW => ⟨rfl, by rw [hU]; exact hP.sub [0, 1, 2, 3, 4, 5, 6, 7, 8] rfl, va_K.moved hW.alike (hK.sub [0, 1, 2, 3, 4, 5, 6, 7] rfl)⟩⟩ rfl rfl hl.1 rfl (lv_room (Nat.le_of_ble_eq_true rfl)) dX5_judge_41 ⟨Nat.zero_le _, Nat.zero_le _⟩) (fun _ ey => ?_)
          subst ey
          refine lv_if_ne (tgt := 49) hx hb dX5_judge_44 (by decide) (fun c14 => ?_) (fun c14 => ?_)
          · have hm := g_f c14 hm
            refine lv_aload_n hx hb dX5_judge_49 rfl (lv_at hl 0 rfl) ?_
            obtain ⟨x15, ex, hm⟩ := g_bind hm
            refine vp_callSi (W.runV (As := []) (rest := []) ⟨hx, hb, hml, hown, hts⟩ (k_X5_mapRight l dC dI A_x A_da A_ma A_ha A_ho A_ti A_be A_te A_ch K_da K_ma K_ha K_ho K_ti K_be K_te K_ch c_da c_ma c_ha f1 f10 c_be c_te c_ch c_up c_fu c_tm c_tc  _ ex) (cwV 0 hts gX5_judge_X5_mapRight rfl rfl rfl (by decide +kernel) ⟨Nat.le_of_ble_eq_true rfl, Nat.le_of_ble_eq_true rfl⟩) ⟨w_blR, va_recv hK hP (ci := 3) (q0 := 0) rfl rfl, fun U hU hW => ⟨rfl, by rw [hU]; exact hP.sub [0, 1, 2, 3, 4, 5, 6, 7, 8] rfl, va_K.moved hW.alike (hK.sub [0, 1, 2, 3, 4, 5, 6, 7] rfl)⟩⟩ rfl rfl hl.1 rfl (lv_room (Nat.le_of_ble_eq_true rfl)) dX5_judge_50 ⟨Nat.zero_le _, Nat.zero_le _⟩) (fun _ ey => ?_)
            subst ey
            refine lv_if_ne (tgt := 61) hx hb dX5_judge_53 (by decide) (fun c16 => ?_) (fun c16 => ?_)
            · have hm := g_f c16 hm
              refine lv_aload_n hx hb dX5_judge_61 rfl (lv_at hl 0 rfl) ?_
              obtain ⟨x17, ex, hm⟩ := g_bind hm
              refine vp_callSi (W.runV (As := []) (rest := []) ⟨hx, hb, hml, hown, hts⟩ (k_X5_quotasRight l dC dI A_x A_da A_ma A_ha A_ho A_ti A_be A_te A_ch K_da K_ma K_ha K_ho K_ti K_be K_te K_ch c_da c_ma c_ha f1 f10 c_be c_te c_ch c_up c_fu c_tm c_tc  _ ex) (cwV 0 hts gX5_judge_X5_quotasRight rfl rfl rfl (by decide +kernel) ⟨Nat.le_of_ble_eq_true rfl, Nat.le_of_ble_eq_true rfl⟩) ⟨w_blR, va_recv hK hP (ci := 3) (q0 := 0) rfl rfl, fun U hU hW => ⟨rfl, by rw [hU]; exact hP.sub [0, 1, 2, 3, 4, 5, 6, 7, 8] rfl, va_K.moved hW.alike (hK.sub [0, 1, 2, 3, 4, 5, 6, 7] rfl)⟩⟩ rfl rfl hl.1 rfl (lv_room (Nat.le_of_ble_eq_true rfl)) dX5_judge_62 ⟨Nat.zero_le _, Nat.zero_le _⟩) (fun _ ey => ?_)
              subst ey
              refine lv_if_ne (tgt := 73) hx hb dX5_judge_65 (by decide) (fun c18 => ?_) (fun c18 => ?_)
              · have hm := g_f c18 hm
                refine lv_aload_n hx hb dX5_judge_73 rfl (lv_at hl 0 rfl) ?_
                obtain ⟨⟨x19, f20⟩, ex, hm⟩ := g_bind hm
                have hm := g_k2_s hm
                have hPc := hP.sub (ws' := (wM A_x A_da A_ma A_ha A_ho A_ti A_be A_te A_ch K_da K_ma K_ha K_ho K_ti K_be K_te K_ch c_da c_ma c_ha f1 f10 c_be c_te c_ch c_up c_fu c_tm c_tc)) [0, 1, 2, 3, 4, 5, 6, 7, 8] rfl
                have hDc := hD.sub (ws' := (wM A_x A_da A_ma A_ha A_ho A_ti A_be A_te A_ch K_da K_ma K_ha K_ho K_ti K_be K_te K_ch c_da c_ma c_ha f1 f10 c_be c_te c_ch c_up c_fu c_tm c_tc)) [0, 1, 2, 3, 4, 5, 6, 7, 8] (by decide) rfl
                have hKc := hK.sub (tys' := (tM K_da K_ma K_ha K_ho K_ti K_be K_te K_ch)) [0, 1, 2, 3, 4, 5, 6, 7] rfl
                have hFc := va_free (wc := (wM A_x A_da A_ma A_ha A_ho A_ti A_be A_te A_ch K_da K_ma K_ha K_ho K_ti K_be K_te K_ch c_da c_ma c_ha f1 f10 c_be c_te c_ch c_up c_fu c_tm c_tc)) hD hS hA [0, 1, 2, 3, 4, 5, 6, 7, 8] rfl
                refine va_calli (va_runV (As := []) (rest := []) ⟨hx, hb, hml, hown, hts⟩ (k_X5_wordsRight l dC dI A_x A_da A_ma A_ha A_ho A_ti A_be A_te A_ch K_da K_ma K_ha K_ho K_ti K_be K_te K_ch c_da c_ma c_ha f1 f10 c_be c_te c_ch c_up c_fu c_tm c_tc H11.size  _ _ ex) (cwV 0 hts gX5_judge_X5_wordsRight rfl rfl rfl (by decide +kernel) ⟨Nat.le_of_ble_eq_true rfl, Nat.le_of_ble_eq_true rfl⟩) ⟨w_blW, va_recv hKc hPc (ci := 3) (q0 := 0) rfl rfl, fun U hU hW => ⟨rfl, by rw [hU], by rw [hU]; exact hPc, va_K.moved hW.alike hKc, hDc.weaken (fun _ _ _ _ => trivial)⟩⟩ rfl rfl hl.1 rfl (lv_room (Nat.le_of_ble_eq_true rfl)) dX5_judge_74 ⟨Nat.zero_le _, Nat.zero_le _⟩) hS (fun q _ h => hFc q h) hFc (fun _ _ t H21 locs21 ht hvm hw hB hz1 hk1 hS => ?_)
                subst hw
                refine W.widen (k := 0) (n := 0) (Nat.le_refl 0) (Nat.le_refl 0) ?_
                obtain ⟨hP1, hD1⟩ := hB
                rw [ht] at hP1
                obtain ⟨hP, hD⟩ := va_join (wr := []) (w1 := (wM A_x A_da A_ma A_ha A_ho A_ti A_be A_te A_ch K_da K_ma K_ha K_ho K_ti K_be K_te K_ch c_da c_ma c_ha f1 f10 f20 c_te c_ch c_up c_fu c_tm c_tc)) hP hD [0, 1, 2, 3, 4, 5, 6, 7, 8] [] rfl rfl (by decide) (by decide) hk1 hFc hP1 hD1
                have hP : va_P (dC, dI) vwCl (wM A_x A_da A_ma A_ha A_ho A_ti A_be A_te A_ch K_da K_ma K_ha K_ho K_ti K_be K_te K_ch c_da c_ma c_ha f1 f10 f20 c_te c_ch c_up c_fu c_tm c_tc) H21 := hP.sub [0, 1, 2, 3, 4, 5, 6, 7, 8] rfl
                have hD : va_D A (wM A_x A_da A_ma A_ha A_ho A_ti A_be A_te A_ch K_da K_ma K_ha K_ho K_ti K_be K_te K_ch c_da c_ma c_ha f1 f10 f20 c_te c_ch c_up c_fu c_tm c_tc) := hD.sub [0, 1, 2, 3, 4, 5, 6, 7, 8] (by decide) rfl
                refine lv_if_ne (tgt := 85) hx hb dX5_judge_77 (by decide) (fun c22 => ?_) (fun c22 => ?_)
                · have hm := g_f c22 hm
                  refine lv_iconst (v := 0) hx hb dX5_judge_85 (by decide) ?_
                  cases hm
                  subst hQ
                  exact W.iret hx hb hr (fun t ht hW => ⟨⟨_, (), rfl, rfl, by rw [ht]; exact hP, hD⟩, hS.F ht⟩) hS.2.2 dX5_judge_86
                · have hm := g_t c22 hm
                  refine lv_bipush (v := 8) hx hb dX5_judge_80 (by decide) ?_
                  refine lv_goto (tgt := 86) hx hb dX5_judge_82 (by decide) ?_
                  cases hm
                  subst hQ
                  exact W.iret hx hb hr (fun t ht hW => ⟨⟨_, (), rfl, rfl, by rw [ht]; exact hP, hD⟩, hS.F ht⟩) hS.2.2 dX5_judge_86
              · have hm := g_t c18 hm
                refine lv_bipush (v := 7) hx hb dX5_judge_68 (by decide) ?_
                refine lv_goto (tgt := 86) hx hb dX5_judge_70 (by decide) ?_
                cases hm
                subst hQ
                exact W.iret hx hb hr (fun t ht hW => ⟨⟨_, (), rfl, rfl, by rw [ht]; exact hP, hD⟩, hS.F ht⟩) hS.2.2 dX5_judge_86
            · have hm := g_t c16 hm
              refine lv_bipush (v := 6) hx hb dX5_judge_56 (by decide) ?_
              refine lv_goto (tgt := 86) hx hb dX5_judge_58 (by decide) ?_
              cases hm
              subst hQ
              exact W.iret hx hb hr (fun t ht hW => ⟨⟨_, (), rfl, rfl, by rw [ht]; exact hP, hD⟩, hS.F ht⟩) hS.2.2 dX5_judge_86
          · have hm := g_t c14 hm
            refine lv_iconst (v := 5) hx hb dX5_judge_47 (by decide) ?_
            cases hm
            subst hQ
            exact W.iret hx hb hr (fun t ht hW => ⟨⟨_, (), rfl, rfl, by rw [ht]; exact hP, hD⟩, hS.F ht⟩) hS.2.2 dX5_judge_48
        · have hm := g_t c12 hm
          refine lv_iconst (v := 4) hx hb dX5_judge_38 (by decide) ?_
          cases hm
          subst hQ
          exact W.iret hx hb hr (fun t ht hW => ⟨⟨_, (), rfl, rfl, by rw [ht]; exact hP, hD⟩, hS.F ht⟩) hS.2.2 dX5_judge_39
      · have hm := g_t c8 hm
        refine lv_iconst (v := 3) hx hb dX5_judge_29 (by decide) ?_
        cases hm
        subst hQ
        exact W.iret hx hb hr (fun t ht hW => ⟨⟨_, (), rfl, rfl, by rw [ht]; exact hP, hD⟩, hS.F ht⟩) hS.2.2 dX5_judge_30
    · have hm := g_t c6 hm
      refine lv_iconst (v := 2) hx hb dX5_judge_20 (by decide) ?_
      cases hm
      subst hQ
      exact W.iret hx hb hr (fun t ht hW => ⟨⟨_, (), rfl, rfl, by rw [ht]; exact hP, hD⟩, hS.F ht⟩) hS.2.2 dX5_judge_21
  · have hm := g_t c4 hm
    refine lv_iconst (v := 1) hx hb dX5_judge_11 (by decide) ?_
    cases hm
    subst hQ
    exact W.iret hx hb hr (fun t ht hW => ⟨⟨_, (), rfl, rfl, by rw [ht]; exact hP, hD⟩, hS.F ht⟩) hS.2.2 dX5_judge_12
theorem hi_X5_mount_X5 : ∀ w ∈ wsX50, w ∈ wsX5_mount := by decide +kernel
theorem hk_X5_mount_42 : Cond.fieldLink RX5 42 "BuddyFilesModel" "up" "Z" ∈ wsX5_mount := by decide +kernel
theorem hk_X5_mount_13 : Cond.fieldLink RX5 13 "BuddyFilesModel" "mem" "[I" ∈ wsX5_mount := by decide +kernel
theorem hk_X5_mount_19 : Cond.fieldLink RX5 19 "BuddyFilesModel" "home" "[I" ∈ wsX5_mount := by decide +kernel
theorem hk_X5_mount_7 : Cond.fieldLink RX5 7 "BuddyFilesModel" "disk" "[I" ∈ wsX5_mount := by decide +kernel
abbrev rm_X5_mount : Room := { frames := 4, cells := 0, slots := 0, locals := 88 }
set_option maxHeartbeats 4000000 in
set_option maxRecDepth 100000 in
theorem k_X5_mount (l : Launch) (dC : Nat → ClassId) (dI : Nat → Nat → Nat) (A_x A_da A_ma A_ha A_ho A_ti A_be A_te A_ch : Nat) (K_da K_ma K_ha K_ho K_ti K_be K_te K_ch : ClassId) (c_da c_ma c_ha c_ho c_ti c_be c_te c_ch : Nat → Int32) (c_up c_fu c_tm c_tc : Int32) (sz : Nat)  (r0 : Int32) (o_da : (Nat → Int32)) (o_ma : (Nat → Int32)) (o_ho : (Nat → Int32)) (o_ti : (Nat → Int32)) (o_be : (Nat → Int32)) (o_up : Int32) (hm : m_X5_mount c_da c_ma c_ho c_ti c_be c_up = some (r0, o_da, o_ma, o_ho, o_ti, o_be, o_up)) : Met l yX5_mount wsX5_mount rm_X5_mount (va_Pc [.ref A_x] (fun U => U.heap.size = sz ∧ va_P (dC, dI) vwCl (wM A_x A_da A_ma A_ha A_ho A_ti A_be A_te A_ch K_da K_ma K_ha K_ho K_ti K_be K_te K_ch c_da c_ma c_ha c_ho c_ti c_be c_te c_ch c_up c_fu c_tm c_tc) U.heap ∧ va_K (dC, dI) vwCl (tM K_da K_ma K_ha K_ho K_ti K_be K_te K_ch) U ∧ va_D (fun _ => True) (wM A_x A_da A_ma A_ha A_ho A_ti A_be A_te A_ch K_da K_ma K_ha K_ho K_ti K_be K_te K_ch c_da c_ma c_ha c_ho c_ti c_be c_te c_ch c_up c_fu c_tm c_tc))) (va_Qi (fun (r : Int32) (_ : Unit) => r0 = r) (fun _ t => va_P (dC, dI) vwCl (wM A_x A_da A_ma A_ha A_ho A_ti A_be A_te A_ch K_da K_ma K_ha K_ho K_ti K_be K_te K_ch o_da o_ma c_ha o_ho o_ti o_be c_te c_ch o_up c_fu c_tm c_tc) t.heap ∧ va_D (va_A (wM A_x A_da A_ma A_ha A_ho A_ti A_be A_te A_ch K_da K_ma K_ha K_ho K_ti K_be K_te K_ch c_da c_ma c_ha c_ho c_ti c_be c_te c_ch c_up c_fu c_tm c_tc) sz) (wM A_x A_da A_ma A_ha A_ho A_ti A_be A_te A_ch K_da K_ma K_ha K_ho K_ti K_be K_te K_ch o_da o_ma c_ha o_ho o_ti o_be c_te c_ch o_up c_fu c_tm c_tc)) (va_A (wM A_x A_da A_ma A_ha A_ho A_ti A_be A_te A_ch K_da K_ma K_ha K_ho K_ti K_be K_te K_ch c_da c_ma c_ha c_ho c_ti c_be c_te c_ch c_up c_fu c_tm c_tc) sz)) 0 0 (va_A (wM A_x A_da A_ma A_ha A_ho A_ti A_be A_te A_ch K_da K_ma K_ha K_ho K_ti K_be K_te K_ch c_da c_ma c_ha c_ho c_ti c_be c_te c_ch c_up c_fu c_tm c_tc) sz) := by
  refine Met.ofW (cc := cX5_mount) (maxL := 3) (ret := (some .int)) (by decide) rfl ?_
  intro p e s m args below meth c s₁ B hml hv
  obtain ⟨rfl, hsz, hP, hK, hD0⟩ := hv
  have hx := B.exec
  have hb := B.bytes
  have hr := B.returns
  have hts := atoms_spec (ws := wsX5_mount) B.pre
  have hown : s.vm.findClass RX5 = some m.cls := findClass_of_methodNamed B.named
  have hlocks := B.notSynchronized
  subst hsz
  have hD := hD0.self (sz := s.heap.size)
  generalize hAe : va_A (wM A_x A_da A_ma A_ha A_ho A_ti A_be A_te A_ch K_da K_ma K_ha K_ho K_ti K_be K_te K_ch c_da c_ma c_ha c_ho c_ti c_be c_te c_ch c_up c_fu c_tm c_tc) s.heap.size = A at hD ⊢
  have hA : ∀ q : Nat, s.heap.size ≤ q → A q := fun q h => by rw [← hAe]; exact Or.inr h
  have hS : va_S A s.heap s.heap [] := va_S.rf
  have hP : va_P (dC, dI) vwCl (wM A_x A_da A_ma A_ha A_ho A_ti A_be A_te A_ch K_da K_ma K_ha K_ho K_ti K_be K_te K_ch c_da c_ma c_ha c_ho c_ti c_be c_te c_ch c_up c_fu c_tm c_tc) s.heap := hP
  have hl := lv_entry ([.ref A_x]) (n := 3) (Nat.le_of_ble_eq_true rfl)
  rw [lg_entry_eq]
  generalize (lg_sl ([.ref A_x]) ++ List.replicate (3 - (lg_sl ([.ref A_x])).length) Slot.unset).toArray = ls at hl ⊢
  have hl : lv_has ls 3 [(0, .ref A_x)] := hl
  refine w_name (fun Q hQ => ?_)
  unfold m_X5_mount at hm
  refine lv_aload_n hx hb dX5_mount_0 rfl (lv_at hl 0 rfl) ?_
  refine va_get (D := (dC, dI)) (ci := 3) (v := .int c_up) (C := RX5) (T := TX5) (N := 12) hx hb hts hi_X5_mount_X5 hown hK hP 0 rfl rfl 1 (by decide) (hts (Cond.fieldLink RX5 42 "BuddyFilesModel" "up" "Z") hk_X5_mount_42) (fun _ h9 => h9) rfl dX5_mount_1 ?_
  refine lv_if_eq (tgt := 10) hx hb dX5_mount_4 (by decide) (fun c1 => ?_) (fun c1 => ?_)
  · have hm := g_t c1 hm
    refine lv_aload_n hx hb dX5_mount_10 rfl (lv_at hl 0 rfl) ?_
    obtain ⟨⟨x2, f3, f4, f5⟩, ex, hm⟩ := g_bind hm
    have hm := g_k4_s hm
    have hPc := hP.sub (ws' := (wM A_x A_da A_ma A_ha A_ho A_ti A_be A_te A_ch K_da K_ma K_ha K_ho K_ti K_be K_te K_ch c_da c_ma c_ha c_ho c_ti c_be c_te c_ch c_up c_fu c_tm c_tc)) [0, 1, 2, 3, 4, 5, 6, 7, 8] rfl
    have hDc := hD.sub (ws' := (wM A_x A_da A_ma A_ha A_ho A_ti A_be A_te A_ch K_da K_ma K_ha K_ho K_ti K_be K_te K_ch c_da c_ma c_ha c_ho c_ti c_be c_te c_ch c_up c_fu c_tm c_tc)) [0, 1, 2, 3, 4, 5, 6, 7, 8] (by decide) rfl
    have hKc := hK.sub (tys' := (tM K_da K_ma K_ha K_ho K_ti K_be K_te K_ch)) [0, 1, 2, 3, 4, 5, 6, 7] rfl
    have hFc := va_free (wc := (wM A_x A_da A_ma A_ha A_ho A_ti A_be A_te A_ch K_da K_ma K_ha K_ho K_ti K_be K_te K_ch c_da c_ma c_ha c_ho c_ti c_be c_te c_ch c_up c_fu c_tm c_tc)) hD hS hA [0, 1, 2, 3, 4, 5, 6, 7, 8] rfl
    refine va_calli (va_runV (As := []) (rest := []) ⟨hx, hb, hml, hown, hts⟩ (k_X5_judge l dC dI A_x A_da A_ma A_ha A_ho A_ti A_be A_te A_ch K_da K_ma K_ha K_ho K_ti K_be K_te K_ch c_da c_ma c_ha c_ho c_ti c_be c_te c_ch c_up c_fu c_tm c_tc s.heap.size  _ _ _ _ ex) (cwV 0 hts gX5_mount_X5_judge rfl rfl rfl (by decide +kernel) ⟨Nat.le_of_ble_eq_true rfl, Nat.le_of_ble_eq_true rfl⟩) ⟨w_blW, va_recv hKc hPc (ci := 3) (q0 := 0) rfl rfl, fun U hU hW => ⟨rfl, by rw [hU], by rw [hU]; exact hPc, va_K.moved hW.alike hKc, hDc.weaken (fun _ _ _ _ => trivial)⟩⟩ rfl rfl hl.1 rfl (lv_room (Nat.le_of_ble_eq_true rfl)) dX5_mount_11 ⟨Nat.zero_le _, Nat.zero_le _⟩) hS (fun q _ h => hFc q h) hFc (fun _ _ t H6 locs6 ht hvm hw hB hz1 hk1 hS => ?_)
    subst hw
    refine W.widen (k := 0) (n := 0) (Nat.le_refl 0) (Nat.le_refl 0) ?_
    obtain ⟨hP1, hD1⟩ := hB
    rw [ht] at hP1
    obtain ⟨hP, hD⟩ := va_join (wr := []) (w1 := (wM A_x A_da A_ma A_ha A_ho A_ti A_be A_te A_ch K_da K_ma K_ha K_ho K_ti K_be K_te K_ch c_da c_ma c_ha f3 f4 f5 c_te c_ch c_up c_fu c_tm c_tc)) hP hD [0, 1, 2, 3, 4, 5, 6, 7, 8] [] rfl rfl (by decide) (by decide) hk1 hFc hP1 hD1
    have hP : va_P (dC, dI) vwCl (wM A_x A_da A_ma A_ha A_ho A_ti A_be A_te A_ch K_da K_ma K_ha K_ho K_ti K_be K_te K_ch c_da c_ma c_ha f3 f4 f5 c_te c_ch c_up c_fu c_tm c_tc) H6 := hP.sub [0, 1, 2, 3, 4, 5, 6, 7, 8] rfl
    have hD : va_D A (wM A_x A_da A_ma A_ha A_ho A_ti A_be A_te A_ch K_da K_ma K_ha K_ho K_ti K_be K_te K_ch c_da c_ma c_ha f3 f4 f5 c_te c_ch c_up c_fu c_tm c_tc) := hD.sub [0, 1, 2, 3, 4, 5, 6, 7, 8] (by decide) rfl
    refine lv_istore_n (lv' := [(1, .int x2), (0, .ref A_x)]) hx hb dX5_mount_14 rfl hl (by decide) rfl (fun ls hl => ?_)
    refine lv_aload_n hx hb dX5_mount_15 rfl (lv_at hl 1 rfl) ?_
    obtain ⟨x7, ex, hm⟩ := g_bind hm
    refine vp_callSi (W.runV (As := []) (rest := []) ⟨hx, hb, hml, hown, hts⟩ (k_X5_holds l dC dI A_x A_da A_ma A_ha A_ho A_ti A_be A_te A_ch K_da K_ma K_ha K_ho K_ti K_be K_te K_ch c_da c_ma c_ha f3 f4 f5 c_te c_ch c_up c_fu c_tm c_tc  _ ex) (cwV 0 hts gX5_mount_X5_holds rfl rfl rfl (by decide +kernel) ⟨Nat.le_of_ble_eq_true rfl, Nat.le_of_ble_eq_true rfl⟩) ⟨w_blR, va_recv hK hP (ci := 3) (q0 := 0) rfl rfl, fun U hU hW => ⟨rfl, by rw [hU]; exact hP.sub [0, 1, 2, 3, 4, 5, 6, 7, 8] rfl, va_K.moved hW.alike (hK.sub [0, 1, 2, 3, 4, 5, 6, 7] rfl)⟩⟩ rfl rfl hl.1 rfl (lv_room (Nat.le_of_ble_eq_true rfl)) dX5_mount_16 ⟨Nat.zero_le _, Nat.zero_le _⟩) (fun _ ey => ?_)
    subst ey
    obtain ⟨rj9, hreg, hm⟩ := g_bind hm
    have hJ9 : ∀ (f8 : (Nat → Int32)), f8 = rj9 → ∀ (H9 : Heap) (locs9 : List Loc), va_P (dC, dI) vwCl (wM A_x A_da A_ma A_ha A_ho A_ti A_be A_te A_ch K_da K_ma K_ha K_ho K_ti K_be K_te K_ch f8 c_ma c_ha f3 f4 f5 c_te c_ch c_up c_fu c_tm c_tc) H9 → va_D A (wM A_x A_da A_ma A_ha A_ho A_ti A_be A_te A_ch K_da K_ma K_ha K_ho K_ti K_be K_te K_ch f8 c_ma c_ha f3 f4 f5 c_te c_ch c_up c_fu c_tm c_tc) → va_S A s.heap H9 locs9 → ∀ (ls : Array Slot), lv_has ls 3 [(0, .ref A_x), (1, .int x2)] → W p l e (headSpec wsX5_mount rm_X5_mount).room s m (([.ref A_x] : List Value).toArray) below meth c H9 locs9 0 0 Q (F0 m 56 ls []) := by
      intro f8 hq H9 locs9 hP hD hS ls hl
      subst hq
      have hm := g_k1_s hm
      refine lv_iload_n hx hb dX5_mount_56 rfl (lv_at hl 1 rfl) ?_
      refine lv_if_le (tgt := 63) hx hb dX5_mount_57 (by decide) (fun c10 => ?_) (fun c10 => ?_)
      · have hm := g_t c10 hm
        refine lv_iconst (v := 0) hx hb dX5_mount_63 (by decide) ?_
        refine lv_istore_n (lv' := [(2, .int (0 : Int32)), (0, .ref A_x), (1, .int x2)]) hx hb dX5_mount_64 rfl hl (by decide) rfl (fun ls hl => ?_)
        obtain ⟨rl14, hlp, hm⟩ := g_bind hm
        have hE14 : ∀ (f13 : (Nat → Int32)), f13 = rl14 → ∀ (H14e : Heap) (locs14e : List Loc), va_P (dC, dI) vwCl (wM A_x A_da A_ma A_ha A_ho A_ti A_be A_te A_ch K_da K_ma K_ha K_ho K_ti K_be K_te K_ch f8 f13 c_ha f3 f4 f5 c_te c_ch c_up c_fu c_tm c_tc) H14e → va_D A (wM A_x A_da A_ma A_ha A_ho A_ti A_be A_te A_ch K_da K_ma K_ha K_ho K_ti K_be K_te K_ch f8 f13 c_ha f3 f4 f5 c_te c_ch c_up c_fu c_tm c_tc) → va_S A s.heap H14e locs14e → ∀ (ls : Array Slot), lv_has ls 3 [(0, .ref A_x)] → W p l e (headSpec wsX5_mount rm_X5_mount).room s m (([.ref A_x] : List Value).toArray) below meth c H14e locs14e 0 0 Q (F0 m 89 ls []) := by
          intro f13 hq H14e locs14e hP hD hS ls hl
          subst hq
          have hm := g_k1_s hm
          refine lv_aload_n hx hb dX5_mount_89 rfl (lv_at hl 0 rfl) ?_
          refine lv_iconst (v := 1) hx hb dX5_mount_90 (by decide) ?_
          refine va_put (D := (dC, dI)) (ci := 3) (v := .int (1 : Int32)) (ty := .boolean) (C := RX5) (T := TX5) (N := 12) hx hb hts hi_X5_mount_X5 tyX5 tyX5_ok nmX5 hown hK hP hD hS 0 rfl rfl 1 (by decide) (hts (Cond.fieldLink RX5 42 "BuddyFilesModel" "up" "Z") hk_X5_mount_42) (fun _ h9 => h9) rfl (by decide +kernel) rfl rfl (Nat.le_of_ble_eq_true rfl) dX5_mount_91 (fun H19 locs19 hP hD hS => ?_)
          have hP : va_P (dC, dI) vwCl (wM A_x A_da A_ma A_ha A_ho A_ti A_be A_te A_ch K_da K_ma K_ha K_ho K_ti K_be K_te K_ch f8 f13 c_ha f3 f4 f5 c_te c_ch (1 : Int32) c_fu c_tm c_tc) H19 := hP
          have hD : va_D A (wM A_x A_da A_ma A_ha A_ho A_ti A_be A_te A_ch K_da K_ma K_ha K_ho K_ti K_be K_te K_ch f8 f13 c_ha f3 f4 f5 c_te c_ch (1 : Int32) c_fu c_tm c_tc) := hD
          refine lv_iconst (v := 0) hx hb dX5_mount_94 (by decide) ?_
          cases hm
          subst hQ
          exact W.iret hx hb hr (fun t ht hW => ⟨⟨_, (), rfl, rfl, by rw [ht]; exact hP, hD⟩, hS.F ht⟩) hS.2.2 dX5_mount_95
        have hL14 : ∀ (n : Nat) (y11 : Int32) (f12 : (Nat → Int32)), g_loop (fun q => m_X5_mount_L65 f3 q.1 q.2) n (y11, f12) = some rl14 → ∀ (H14b : Heap) (locs14b : List Loc), va_P (dC, dI) vwCl (wM A_x A_da A_ma A_ha A_ho A_ti A_be A_te A_ch K_da K_ma K_ha K_ho K_ti K_be K_te K_ch f8 f12 c_ha f3 f4 f5 c_te c_ch c_up c_fu c_tm c_tc) H14b → va_D A (wM A_x A_da A_ma A_ha A_ho A_ti A_be A_te A_ch K_da K_ma K_ha K_ho K_ti K_be K_te K_ch f8 f12 c_ha f3 f4 f5 c_te c_ch c_up c_fu c_tm c_tc) → va_S A s.heap H14b locs14b → ∀ (ls : Array Slot), lv_has ls 3 [(0, .ref A_x), (2, .int y11)] → W p l e (headSpec wsX5_mount rm_X5_mount).room s m (([.ref A_x] : List Value).toArray) below meth c H14b locs14b 0 0 Q (F0 m 65 ls []) := by
          intro n
          induction n with
          | zero =>
            intro y11 f12 hm
            exact g_loop_z hm
          | succ n ih =>
            intro y11 f12 hm H14b locs14b hP hD hS ls hl
            obtain ⟨q, hm, hy⟩ := g_loop_s hm
            have hm : m_X5_mount_L65 f3 y11 f12 = some q := hm
            unfold m_X5_mount_L65 at hm
            refine lv_iload_n hx hb dX5_mount_65 rfl (lv_at hl 1 rfl) ?_
            refine lv_bipush (v := 110) hx hb dX5_mount_66 (by decide) ?_
            refine lv_icmp_ge (tgt := 89) hx hb dX5_mount_68 (by decide) (fun c15 => ?_) (fun c15 => ?_)
            · have hm := g_t c15 hm
              cases hm
              exact hE14 _ hy _ _ hP hD hS _ (lv_sub hl [0] rfl)
            · have hm := g_f c15 hm
              refine lv_aload_n hx hb dX5_mount_71 rfl (lv_at hl 0 rfl) ?_
              refine va_get (D := (dC, dI)) (ci := 3) (v := .ref A_ma) (C := RX5) (T := TX5) (N := 12) hx hb hts hi_X5_mount_X5 hown hK hP 0 rfl rfl 3 (by decide) (hts (Cond.fieldLink RX5 13 "BuddyFilesModel" "mem" "[I") hk_X5_mount_13) (fun _ h9 => h9) rfl dX5_mount_72 ?_
              refine lv_iload_n hx hb dX5_mount_75 rfl (lv_at hl 1 rfl) ?_
              refine lv_aload_n hx hb dX5_mount_76 rfl (lv_at hl 0 rfl) ?_
              refine va_get (D := (dC, dI)) (ci := 3) (v := .ref A_ho) (C := RX5) (T := TX5) (N := 12) hx hb hts hi_X5_mount_X5 hown hK hP 0 rfl rfl 5 (by decide) (hts (Cond.fieldLink RX5 19 "BuddyFilesModel" "home" "[I") hk_X5_mount_19) (fun _ h9 => h9) rfl dX5_mount_77 ?_
              refine lv_iload_n hx hb dX5_mount_80 rfl (lv_at hl 1 rfl) ?_
              obtain ⟨x16, ex, hm⟩ := g_bind hm
              refine w_ald hx hb hK hP 4 3 rfl rfl ex dX5_mount_81 ?_
              obtain ⟨f17, ex, hm⟩ := g_bind hm
              refine w_ast hx hb hK hP hD hS 2 1 rfl rfl ex dX5_mount_82 (fun H18 locs18 hP hD hS => ?_)
              have hP : va_P (dC, dI) vwCl (wM A_x A_da A_ma A_ha A_ho A_ti A_be A_te A_ch K_da K_ma K_ha K_ho K_ti K_be K_te K_ch f8 f17 c_ha f3 f4 f5 c_te c_ch c_up c_fu c_tm c_tc) H18 := hP
              have hD : va_D A (wM A_x A_da A_ma A_ha A_ho A_ti A_be A_te A_ch K_da K_ma K_ha K_ho K_ti K_be K_te K_ch f8 f17 c_ha f3 f4 f5 c_te c_ch c_up c_fu c_tm c_tc) := hD
              refine lv_iinc (v := (y11 + (1 : Int32))) (lv' := [(2, .int (y11 + (1 : Int32))), (0, .ref A_x)]) hx hb dX5_mount_83 hl (k := 1) rfl rfl (by decide) rfl (fun ls hl => ?_)
              refine lv_goto (tgt := 65) hx hb dX5_mount_86 (by decide) ?_
              cases hm
              exact ih _ _ hy _ _ hP hD hS _ (lv_sub hl [1, 0] rfl)
        exact hL14 _ _ _ hlp _ _ hP hD hS _ (lv_sub hl [1, 0] rfl)
      · have hm := g_f c10 hm
        refine lv_bipush (v := -13) hx hb dX5_mount_60 (by decide) ?_
        cases hm
        subst hQ
        exact W.iret hx hb hr (fun t ht hW => ⟨⟨_, (), rfl, rfl, by rw [ht]; exact hP, hD⟩, hS.F ht⟩) hS.2.2 dX5_mount_62
    have hm := hreg
    refine lv_if_eq (tgt := 56) hx hb dX5_mount_19 (by decide) (fun c20 => ?_) (fun c20 => ?_)
    · have hm := g_t c20 hm
      exact hJ9 _ (Option.some.inj hm) _ _ hP hD hS _ (lv_sub hl [1, 0] rfl)
    · have hm := g_f c20 hm
      refine lv_iconst (v := 0) hx hb dX5_mount_22 (by decide) ?_
      refine lv_istore_n (lv' := [(2, .int (0 : Int32)), (1, .int x2), (0, .ref A_x)]) hx hb dX5_mount_23 rfl hl (by decide) rfl (fun ls hl => ?_)
      obtain ⟨rl24, hlp, hm⟩ := g_bind hm
      have hE24 : ∀ (f23 : (Nat → Int32)), f23 = rl24 → ∀ (H24e : Heap) (locs24e : List Loc), va_P (dC, dI) vwCl (wM A_x A_da A_ma A_ha A_ho A_ti A_be A_te A_ch K_da K_ma K_ha K_ho K_ti K_be K_te K_ch f23 c_ma c_ha f3 f4 f5 c_te c_ch c_up c_fu c_tm c_tc) H24e → va_D A (wM A_x A_da A_ma A_ha A_ho A_ti A_be A_te A_ch K_da K_ma K_ha K_ho K_ti K_be K_te K_ch f23 c_ma c_ha f3 f4 f5 c_te c_ch c_up c_fu c_tm c_tc) → va_S A s.heap H24e locs24e → ∀ (ls : Array Slot), lv_has ls 3 [(0, .ref A_x), (1, .int x2)] → W p l e (headSpec wsX5_mount rm_X5_mount).room s m (([.ref A_x] : List Value).toArray) below meth c H24e locs24e 0 0 Q (F0 m 48 ls []) := by
        intro f23 hq H24e locs24e hP hD hS ls hl
        subst hq
        have hm := g_k1_s hm
        refine lv_aload_n hx hb dX5_mount_48 rfl (lv_at hl 0 rfl) ?_
        refine va_get (D := (dC, dI)) (ci := 3) (v := .ref A_da) (C := RX5) (T := TX5) (N := 12) hx hb hts hi_X5_mount_X5 hown hK hP 0 rfl rfl 0 (by decide) (hts (Cond.fieldLink RX5 7 "BuddyFilesModel" "disk" "[I") hk_X5_mount_7) (fun _ h9 => h9) rfl dX5_mount_49 ?_
        refine lv_bipush (v := 110) hx hb dX5_mount_52 (by decide) ?_
        refine lv_iconst (v := 0) hx hb dX5_mount_54 (by decide) ?_
        obtain ⟨f29, ex, hm⟩ := g_bind hm
        refine w_ast hx hb hK hP hD hS 1 0 rfl rfl ex dX5_mount_55 (fun H30 locs30 hP hD hS => ?_)
        have hP : va_P (dC, dI) vwCl (wM A_x A_da A_ma A_ha A_ho A_ti A_be A_te A_ch K_da K_ma K_ha K_ho K_ti K_be K_te K_ch f29 c_ma c_ha f3 f4 f5 c_te c_ch c_up c_fu c_tm c_tc) H30 := hP
        have hD : va_D A (wM A_x A_da A_ma A_ha A_ho A_ti A_be A_te A_ch K_da K_ma K_ha K_ho K_ti K_be K_te K_ch f29 c_ma c_ha f3 f4 f5 c_te c_ch c_up c_fu c_tm c_tc) := hD
        exact hJ9 _ (Option.some.inj hm) _ _ hP hD hS _ (lv_sub hl [0, 1] rfl)
      have hL24 : ∀ (n : Nat) (y21 : Int32) (f22 : (Nat → Int32)), g_loop (fun q => m_X5_mount_L24 f3 q.1 q.2) n (y21, f22) = some rl24 → ∀ (H24b : Heap) (locs24b : List Loc), va_P (dC, dI) vwCl (wM A_x A_da A_ma A_ha A_ho A_ti A_be A_te A_ch K_da K_ma K_ha K_ho K_ti K_be K_te K_ch f22 c_ma c_ha f3 f4 f5 c_te c_ch c_up c_fu c_tm c_tc) H24b → va_D A (wM A_x A_da A_ma A_ha A_ho A_ti A_be A_te A_ch K_da K_ma K_ha K_ho K_ti K_be K_te K_ch f22 c_ma c_ha f3 f4 f5 c_te c_ch c_up c_fu c_tm c_tc) → va_S A s.heap H24b locs24b → ∀ (ls : Array Slot), lv_has ls 3 [(0, .ref A_x), (1, .int x2), (2, .int y21)] → W p l e (headSpec wsX5_mount rm_X5_mount).room s m (([.ref A_x] : List Value).toArray) below meth c H24b locs24b 0 0 Q (F0 m 24 ls []) := by
        intro n
        induction n with
        | zero =>
          intro y21 f22 hm
          exact g_loop_z hm
        | succ n ih =>
          intro y21 f22 hm H24b locs24b hP hD hS ls hl
          obtain ⟨q, hm, hy⟩ := g_loop_s hm
          have hm : m_X5_mount_L24 f3 y21 f22 = some q := hm
          unfold m_X5_mount_L24 at hm
          refine lv_iload_n hx hb dX5_mount_24 rfl (lv_at hl 2 rfl) ?_
          refine lv_bipush (v := 110) hx hb dX5_mount_25 (by decide) ?_
          refine lv_icmp_ge (tgt := 48) hx hb dX5_mount_27 (by decide) (fun c25 => ?_) (fun c25 => ?_)
          · have hm := g_t c25 hm
            cases hm
            exact hE24 _ hy _ _ hP hD hS _ (lv_sub hl [0, 1] rfl)
          · have hm := g_f c25 hm
            refine lv_aload_n hx hb dX5_mount_30 rfl (lv_at hl 0 rfl) ?_
            refine va_get (D := (dC, dI)) (ci := 3) (v := .ref A_da) (C := RX5) (T := TX5) (N := 12) hx hb hts hi_X5_mount_X5 hown hK hP 0 rfl rfl 0 (by decide) (hts (Cond.fieldLink RX5 7 "BuddyFilesModel" "disk" "[I") hk_X5_mount_7) (fun _ h9 => h9) rfl dX5_mount_31 ?_
            refine lv_iload_n hx hb dX5_mount_34 rfl (lv_at hl 2 rfl) ?_
            refine lv_aload_n hx hb dX5_mount_35 rfl (lv_at hl 0 rfl) ?_
            refine va_get (D := (dC, dI)) (ci := 3) (v := .ref A_ho) (C := RX5) (T := TX5) (N := 12) hx hb hts hi_X5_mount_X5 hown hK hP 0 rfl rfl 5 (by decide) (hts (Cond.fieldLink RX5 19 "BuddyFilesModel" "home" "[I") hk_X5_mount_19) (fun _ h9 => h9) rfl dX5_mount_36 ?_
            refine lv_iload_n hx hb dX5_mount_39 rfl (lv_at hl 2 rfl) ?_
            obtain ⟨x26, ex, hm⟩ := g_bind hm
            refine w_ald hx hb hK hP 4 3 rfl rfl ex dX5_mount_40 ?_
            obtain ⟨f27, ex, hm⟩ := g_bind hm
            refine w_ast hx hb hK hP hD hS 1 0 rfl rfl ex dX5_mount_41 (fun H28 locs28 hP hD hS => ?_)
            have hP : va_P (dC, dI) vwCl (wM A_x A_da A_ma A_ha A_ho A_ti A_be A_te A_ch K_da K_ma K_ha K_ho K_ti K_be K_te K_ch f27 c_ma c_ha f3 f4 f5 c_te c_ch c_up c_fu c_tm c_tc) H28 := hP
            have hD : va_D A (wM A_x A_da A_ma A_ha A_ho A_ti A_be A_te A_ch K_da K_ma K_ha K_ho K_ti K_be K_te K_ch f27 c_ma c_ha f3 f4 f5 c_te c_ch c_up c_fu c_tm c_tc) := hD
            refine lv_iinc (v := (y21 + (1 : Int32))) (lv' := [(2, .int (y21 + (1 : Int32))), (0, .ref A_x), (1, .int x2)]) hx hb dX5_mount_42 hl (k := 2) rfl rfl (by decide) rfl (fun ls hl => ?_)
            refine lv_goto (tgt := 24) hx hb dX5_mount_45 (by decide) ?_
            cases hm
            exact ih _ _ hy _ _ hP hD hS _ (lv_sub hl [1, 2, 0] rfl)
      exact hL24 _ _ _ hlp _ _ hP hD hS _ (lv_sub hl [2, 1, 0] rfl)
  · have hm := g_f c1 hm
    refine lv_bipush (v := -4) hx hb dX5_mount_7 (by decide) ?_
    cases hm
    subst hQ
    exact W.iret hx hb hr (fun t ht hW => ⟨⟨_, (), rfl, rfl, by rw [ht]; exact hP, hD⟩, hS.F ht⟩) hS.2.2 dX5_mount_9
theorem hi_X5_corrupt_X5 : ∀ w ∈ wsX50, w ∈ wsX5_corrupt := by decide +kernel
theorem hk_X5_corrupt_42 : Cond.fieldLink RX5 42 "BuddyFilesModel" "up" "Z" ∈ wsX5_corrupt := by decide +kernel
theorem hk_X5_corrupt_7 : Cond.fieldLink RX5 7 "BuddyFilesModel" "disk" "[I" ∈ wsX5_corrupt := by decide +kernel
abbrev rm_X5_corrupt : Room := { frames := 1, cells := 0, slots := 0, locals := 22 }
set_option maxHeartbeats 4000000 in
set_option maxRecDepth 100000 in
theorem k_X5_corrupt (l : Launch) (dC : Nat → ClassId) (dI : Nat → Nat → Nat) (A_x A_da A_ma A_ha A_ho A_ti A_be A_te A_ch : Nat) (K_da K_ma K_ha K_ho K_ti K_be K_te K_ch : ClassId) (c_da c_ma c_ha c_ho c_ti c_be c_te c_ch : Nat → Int32) (c_up c_fu c_tm c_tc : Int32) (sz : Nat) (p1 : Int32) (p2 : Int32) (r0 : Int32) (o_da : (Nat → Int32)) (hm : m_X5_corrupt c_da c_up p1 p2 = some (r0, o_da)) : Met l yX5_corrupt wsX5_corrupt rm_X5_corrupt (va_Pc [.ref A_x, .int p1, .int p2] (fun U => U.heap.size = sz ∧ va_P (dC, dI) vwCl (wM A_x A_da A_ma A_ha A_ho A_ti A_be A_te A_ch K_da K_ma K_ha K_ho K_ti K_be K_te K_ch c_da c_ma c_ha c_ho c_ti c_be c_te c_ch c_up c_fu c_tm c_tc) U.heap ∧ va_K (dC, dI) vwCl (tM K_da K_ma K_ha K_ho K_ti K_be K_te K_ch) U ∧ va_D (fun _ => True) (wM A_x A_da A_ma A_ha A_ho A_ti A_be A_te A_ch K_da K_ma K_ha K_ho K_ti K_be K_te K_ch c_da c_ma c_ha c_ho c_ti c_be c_te c_ch c_up c_fu c_tm c_tc))) (va_Qi (fun (r : Int32) (_ : Unit) => r0 = r) (fun _ t => va_P (dC, dI) vwCl (wM A_x A_da A_ma A_ha A_ho A_ti A_be A_te A_ch K_da K_ma K_ha K_ho K_ti K_be K_te K_ch o_da c_ma c_ha c_ho c_ti c_be c_te c_ch c_up c_fu c_tm c_tc) t.heap ∧ va_D (va_A (wM A_x A_da A_ma A_ha A_ho A_ti A_be A_te A_ch K_da K_ma K_ha K_ho K_ti K_be K_te K_ch c_da c_ma c_ha c_ho c_ti c_be c_te c_ch c_up c_fu c_tm c_tc) sz) (wM A_x A_da A_ma A_ha A_ho A_ti A_be A_te A_ch K_da K_ma K_ha K_ho K_ti K_be K_te K_ch o_da c_ma c_ha c_ho c_ti c_be c_te c_ch c_up c_fu c_tm c_tc)) (va_A (wM A_x A_da A_ma A_ha A_ho A_ti A_be A_te A_ch K_da K_ma K_ha K_ho K_ti K_be K_te K_ch c_da c_ma c_ha c_ho c_ti c_be c_te c_ch c_up c_fu c_tm c_tc) sz)) 0 0 (va_A (wM A_x A_da A_ma A_ha A_ho A_ti A_be A_te A_ch K_da K_ma K_ha K_ho K_ti K_be K_te K_ch c_da c_ma c_ha c_ho c_ti c_be c_te c_ch c_up c_fu c_tm c_tc) sz) := by
  refine Met.ofW (cc := cX5_corrupt) (maxL := 3) (ret := (some .boolean)) (by decide) rfl ?_
  intro p e s m args below meth c s₁ B hml hv
  obtain ⟨rfl, hsz, hP, hK, hD0⟩ := hv
  have hx := B.exec
  have hb := B.bytes
  have hr := B.returns
  have hts := atoms_spec (ws := wsX5_corrupt) B.pre
  have hown : s.vm.findClass RX5 = some m.cls := findClass_of_methodNamed B.named
  have hlocks := B.notSynchronized
  subst hsz
  have hD := hD0.self (sz := s.heap.size)
  generalize hAe : va_A (wM A_x A_da A_ma A_ha A_ho A_ti A_be A_te A_ch K_da K_ma K_ha K_ho K_ti K_be K_te K_ch c_da c_ma c_ha c_ho c_ti c_be c_te c_ch c_up c_fu c_tm c_tc) s.heap.size = A at hD ⊢
  have hA : ∀ q : Nat, s.heap.size ≤ q → A q := fun q h => by rw [← hAe]; exact Or.inr h
  have hS : va_S A s.heap s.heap [] := va_S.rf
  have hP : va_P (dC, dI) vwCl (wM A_x A_da A_ma A_ha A_ho A_ti A_be A_te A_ch K_da K_ma K_ha K_ho K_ti K_be K_te K_ch c_da c_ma c_ha c_ho c_ti c_be c_te c_ch c_up c_fu c_tm c_tc) s.heap := hP
  have hl := lv_entry ([.ref A_x, .int p1, .int p2]) (n := 3) (Nat.le_of_ble_eq_true rfl)
  rw [lg_entry_eq]
  generalize (lg_sl ([.ref A_x, .int p1, .int p2]) ++ List.replicate (3 - (lg_sl ([.ref A_x, .int p1, .int p2])).length) Slot.unset).toArray = ls at hl ⊢
  have hl : lv_has ls 3 [(0, .ref A_x), (1, .int p1), (2, .int p2)] := hl
  refine w_name (fun Q hQ => ?_)
  unfold m_X5_corrupt at hm
  refine lv_aload_n hx hb dX5_corrupt_0 rfl (lv_at hl 0 rfl) ?_
  refine va_get (D := (dC, dI)) (ci := 3) (v := .int c_up) (C := RX5) (T := TX5) (N := 12) hx hb hts hi_X5_corrupt_X5 hown hK hP 0 rfl rfl 1 (by decide) (hts (Cond.fieldLink RX5 42 "BuddyFilesModel" "up" "Z") hk_X5_corrupt_42) (fun _ h9 => h9) rfl dX5_corrupt_1 ?_
  refine lv_if_ne (tgt := 18) hx hb dX5_corrupt_4 (by decide) (fun c1 => ?_) (fun c1 => ?_)
  · have hm := g_f c1 hm
    refine lv_iconst (v := 0) hx hb dX5_corrupt_18 (by decide) ?_
    cases hm
    subst hQ
    exact W.zret hx hb hr rfl (fun t ht hW => ⟨⟨_, (), rfl, rfl, by rw [ht]; exact hP, hD⟩, hS.F ht⟩) hS.2.2 dX5_corrupt_19
  · have hm := g_t c1 hm
    refine lv_iload_n hx hb dX5_corrupt_7 rfl (lv_at hl 1 rfl) ?_
    refine lv_iconst (v := 0) hx hb dX5_corrupt_8 (by decide) ?_
    refine lv_sipush (v := 331) hx hb dX5_corrupt_9 (by decide) ?_
    obtain ⟨x2, ex, hm⟩ := g_bind hm
    refine vp_callSi (W.runS (As := [.int p1, .int (0 : Int32), .int (331 : Int32)]) (rest := []) ⟨hx, hb, hml, hown, hts⟩ (k_X5_within l  p1 (0 : Int32) (331 : Int32) _ ex) (va_cwS 3 hts gX5_corrupt_X5_within rfl rfl rfl (by decide +kernel) ⟨Nat.le_of_ble_eq_true rfl, Nat.le_of_ble_eq_true rfl⟩) ⟨w_bl0, fun U hU hW => ⟨rfl, trivial⟩⟩ rfl rfl hl.1 rfl (lv_room (Nat.le_of_ble_eq_true rfl)) dX5_corrupt_12 ⟨Nat.zero_le _, Nat.zero_le _⟩) (fun _ ey => ?_)
    subst ey
    refine lv_if_ne (tgt := 20) hx hb dX5_corrupt_15 (by decide) (fun c3 => ?_) (fun c3 => ?_)
    · have hm := g_f c3 hm
      refine lv_aload_n hx hb dX5_corrupt_20 rfl (lv_at hl 0 rfl) ?_
      refine va_get (D := (dC, dI)) (ci := 3) (v := .ref A_da) (C := RX5) (T := TX5) (N := 12) hx hb hts hi_X5_corrupt_X5 hown hK hP 0 rfl rfl 0 (by decide) (hts (Cond.fieldLink RX5 7 "BuddyFilesModel" "disk" "[I") hk_X5_corrupt_7) (fun _ h9 => h9) rfl dX5_corrupt_21 ?_
      refine lv_iload_n hx hb dX5_corrupt_24 rfl (lv_at hl 1 rfl) ?_
      refine lv_iload_n hx hb dX5_corrupt_25 rfl (lv_at hl 2 rfl) ?_
      obtain ⟨f4, ex, hm⟩ := g_bind hm
      refine w_ast hx hb hK hP hD hS 1 0 rfl rfl ex dX5_corrupt_26 (fun H5 locs5 hP hD hS => ?_)
      have hP : va_P (dC, dI) vwCl (wM A_x A_da A_ma A_ha A_ho A_ti A_be A_te A_ch K_da K_ma K_ha K_ho K_ti K_be K_te K_ch f4 c_ma c_ha c_ho c_ti c_be c_te c_ch c_up c_fu c_tm c_tc) H5 := hP
      have hD : va_D A (wM A_x A_da A_ma A_ha A_ho A_ti A_be A_te A_ch K_da K_ma K_ha K_ho K_ti K_be K_te K_ch f4 c_ma c_ha c_ho c_ti c_be c_te c_ch c_up c_fu c_tm c_tc) := hD
      refine lv_iconst (v := 1) hx hb dX5_corrupt_27 (by decide) ?_
      cases hm
      subst hQ
      exact W.zret hx hb hr rfl (fun t ht hW => ⟨⟨_, (), rfl, rfl, by rw [ht]; exact hP, hD⟩, hS.F ht⟩) hS.2.2 dX5_corrupt_28
    · have hm := g_t c3 hm
      refine lv_iconst (v := 0) hx hb dX5_corrupt_18 (by decide) ?_
      cases hm
      subst hQ
      exact W.zret hx hb hr rfl (fun t ht hW => ⟨⟨_, (), rfl, rfl, by rw [ht]; exact hP, hD⟩, hS.F ht⟩) hS.2.2 dX5_corrupt_19
abbrev rm_X5_fsck : Room := { frames := 4, cells := 0, slots := 0, locals := 88 }
set_option maxHeartbeats 4000000 in
set_option maxRecDepth 100000 in
theorem k_X5_fsck (l : Launch) (dC : Nat → ClassId) (dI : Nat → Nat → Nat) (A_x A_da A_ma A_ha A_ho A_ti A_be A_te A_ch : Nat) (K_da K_ma K_ha K_ho K_ti K_be K_te K_ch : ClassId) (c_da c_ma c_ha c_ho c_ti c_be c_te c_ch : Nat → Int32) (c_up c_fu c_tm c_tc : Int32) (sz : Nat)  (r0 : Int32) (o_ho : (Nat → Int32)) (o_ti : (Nat → Int32)) (o_be : (Nat → Int32)) (hm : m_X5_fsck c_da c_ho c_ti c_be = some (r0, o_ho, o_ti, o_be)) : Met l yX5_fsck wsX5_fsck rm_X5_fsck (va_Pc [.ref A_x] (fun U => U.heap.size = sz ∧ va_P (dC, dI) vwCl (wM A_x A_da A_ma A_ha A_ho A_ti A_be A_te A_ch K_da K_ma K_ha K_ho K_ti K_be K_te K_ch c_da c_ma c_ha c_ho c_ti c_be c_te c_ch c_up c_fu c_tm c_tc) U.heap ∧ va_K (dC, dI) vwCl (tM K_da K_ma K_ha K_ho K_ti K_be K_te K_ch) U ∧ va_D (fun _ => True) (wM A_x A_da A_ma A_ha A_ho A_ti A_be A_te A_ch K_da K_ma K_ha K_ho K_ti K_be K_te K_ch c_da c_ma c_ha c_ho c_ti c_be c_te c_ch c_up c_fu c_tm c_tc))) (va_Qi (fun (r : Int32) (_ : Unit) => r0 = r) (fun _ t => va_P (dC, dI) vwCl (wM A_x A_da A_ma A_ha A_ho A_ti A_be A_te A_ch K_da K_ma K_ha K_ho K_ti K_be K_te K_ch c_da c_ma c_ha o_ho o_ti o_be c_te c_ch c_up c_fu c_tm c_tc) t.heap ∧ va_D (va_A (wM A_x A_da A_ma A_ha A_ho A_ti A_be A_te A_ch K_da K_ma K_ha K_ho K_ti K_be K_te K_ch c_da c_ma c_ha c_ho c_ti c_be c_te c_ch c_up c_fu c_tm c_tc) sz) (wM A_x A_da A_ma A_ha A_ho A_ti A_be A_te A_ch K_da K_ma K_ha K_ho K_ti K_be K_te K_ch c_da c_ma c_ha o_ho o_ti o_be c_te c_ch c_up c_fu c_tm c_tc)) (va_A (wM A_x A_da A_ma A_ha A_ho A_ti A_be A_te A_ch K_da K_ma K_ha K_ho K_ti K_be K_te K_ch c_da c_ma c_ha c_ho c_ti c_be c_te c_ch c_up c_fu c_tm c_tc) sz)) 0 0 (va_A (wM A_x A_da A_ma A_ha A_ho A_ti A_be A_te A_ch K_da K_ma K_ha K_ho K_ti K_be K_te K_ch c_da c_ma c_ha c_ho c_ti c_be c_te c_ch c_up c_fu c_tm c_tc) sz) := by
  refine Met.ofW (cc := cX5_fsck) (maxL := 1) (ret := (some .int)) (by decide) rfl ?_
  intro p e s m args below meth c s₁ B hml hv
  obtain ⟨rfl, hsz, hP, hK, hD0⟩ := hv
  have hx := B.exec
  have hb := B.bytes
  have hr := B.returns
  have hts := atoms_spec (ws := wsX5_fsck) B.pre
  have hown : s.vm.findClass RX5 = some m.cls := findClass_of_methodNamed B.named
  have hlocks := B.notSynchronized
  subst hsz
  have hD := hD0.self (sz := s.heap.size)
  generalize hAe : va_A (wM A_x A_da A_ma A_ha A_ho A_ti A_be A_te A_ch K_da K_ma K_ha K_ho K_ti K_be K_te K_ch c_da c_ma c_ha c_ho c_ti c_be c_te c_ch c_up c_fu c_tm c_tc) s.heap.size = A at hD ⊢
  have hA : ∀ q : Nat, s.heap.size ≤ q → A q := fun q h => by rw [← hAe]; exact Or.inr h
  have hS : va_S A s.heap s.heap [] := va_S.rf
  have hP : va_P (dC, dI) vwCl (wM A_x A_da A_ma A_ha A_ho A_ti A_be A_te A_ch K_da K_ma K_ha K_ho K_ti K_be K_te K_ch c_da c_ma c_ha c_ho c_ti c_be c_te c_ch c_up c_fu c_tm c_tc) s.heap := hP
  have hl := lv_entry ([.ref A_x]) (n := 1) (Nat.le_of_ble_eq_true rfl)
  rw [lg_entry_eq]
  generalize (lg_sl ([.ref A_x]) ++ List.replicate (1 - (lg_sl ([.ref A_x])).length) Slot.unset).toArray = ls at hl ⊢
  have hl : lv_has ls 1 [(0, .ref A_x)] := hl
  refine w_name (fun Q hQ => ?_)
  unfold m_X5_fsck at hm
  refine lv_aload_n hx hb dX5_fsck_0 rfl (lv_at hl 0 rfl) ?_
  obtain ⟨⟨x1, f2, f3, f4⟩, ex, hm⟩ := g_bind hm
  have hm := g_k4_s hm
  have hPc := hP.sub (ws' := (wM A_x A_da A_ma A_ha A_ho A_ti A_be A_te A_ch K_da K_ma K_ha K_ho K_ti K_be K_te K_ch c_da c_ma c_ha c_ho c_ti c_be c_te c_ch c_up c_fu c_tm c_tc)) [0, 1, 2, 3, 4, 5, 6, 7, 8] rfl
  have hDc := hD.sub (ws' := (wM A_x A_da A_ma A_ha A_ho A_ti A_be A_te A_ch K_da K_ma K_ha K_ho K_ti K_be K_te K_ch c_da c_ma c_ha c_ho c_ti c_be c_te c_ch c_up c_fu c_tm c_tc)) [0, 1, 2, 3, 4, 5, 6, 7, 8] (by decide) rfl
  have hKc := hK.sub (tys' := (tM K_da K_ma K_ha K_ho K_ti K_be K_te K_ch)) [0, 1, 2, 3, 4, 5, 6, 7] rfl
  have hFc := va_free (wc := (wM A_x A_da A_ma A_ha A_ho A_ti A_be A_te A_ch K_da K_ma K_ha K_ho K_ti K_be K_te K_ch c_da c_ma c_ha c_ho c_ti c_be c_te c_ch c_up c_fu c_tm c_tc)) hD hS hA [0, 1, 2, 3, 4, 5, 6, 7, 8] rfl
  refine va_calli (va_runV (As := []) (rest := []) ⟨hx, hb, hml, hown, hts⟩ (k_X5_judge l dC dI A_x A_da A_ma A_ha A_ho A_ti A_be A_te A_ch K_da K_ma K_ha K_ho K_ti K_be K_te K_ch c_da c_ma c_ha c_ho c_ti c_be c_te c_ch c_up c_fu c_tm c_tc s.heap.size  _ _ _ _ ex) (cwV 0 hts gX5_fsck_X5_judge rfl rfl rfl (by decide +kernel) ⟨Nat.le_of_ble_eq_true rfl, Nat.le_of_ble_eq_true rfl⟩) ⟨w_blW, va_recv hKc hPc (ci := 3) (q0 := 0) rfl rfl, fun U hU hW => ⟨rfl, by rw [hU], by rw [hU]; exact hPc, va_K.moved hW.alike hKc, hDc.weaken (fun _ _ _ _ => trivial)⟩⟩ rfl rfl hl.1 rfl (lv_room (Nat.le_of_ble_eq_true rfl)) dX5_fsck_1 ⟨Nat.zero_le _, Nat.zero_le _⟩) hS (fun q _ h => hFc q h) hFc (fun _ _ t H5 locs5 ht hvm hw hB hz1 hk1 hS => ?_)
  subst hw
  refine W.widen (k := 0) (n := 0) (Nat.le_refl 0) (Nat.le_refl 0) ?_
  obtain ⟨hP1, hD1⟩ := hB
  rw [ht] at hP1
  obtain ⟨hP, hD⟩ := va_join (wr := []) (w1 := (wM A_x A_da A_ma A_ha A_ho A_ti A_be A_te A_ch K_da K_ma K_ha K_ho K_ti K_be K_te K_ch c_da c_ma c_ha f2 f3 f4 c_te c_ch c_up c_fu c_tm c_tc)) hP hD [0, 1, 2, 3, 4, 5, 6, 7, 8] [] rfl rfl (by decide) (by decide) hk1 hFc hP1 hD1
  have hP : va_P (dC, dI) vwCl (wM A_x A_da A_ma A_ha A_ho A_ti A_be A_te A_ch K_da K_ma K_ha K_ho K_ti K_be K_te K_ch c_da c_ma c_ha f2 f3 f4 c_te c_ch c_up c_fu c_tm c_tc) H5 := hP.sub [0, 1, 2, 3, 4, 5, 6, 7, 8] rfl
  have hD : va_D A (wM A_x A_da A_ma A_ha A_ho A_ti A_be A_te A_ch K_da K_ma K_ha K_ho K_ti K_be K_te K_ch c_da c_ma c_ha f2 f3 f4 c_te c_ch c_up c_fu c_tm c_tc) := hD.sub [0, 1, 2, 3, 4, 5, 6, 7, 8] (by decide) rfl
  cases hm
  subst hQ
  exact W.iret hx hb hr (fun t ht hW => ⟨⟨_, (), rfl, rfl, by rw [ht]; exact hP, hD⟩, hS.F ht⟩) hS.2.2 dX5_fsck_4
theorem hi_X5_peek_X5 : ∀ w ∈ wsX50, w ∈ wsX5_peek := by decide +kernel
theorem hk_X5_peek_7 : Cond.fieldLink RX5 7 "BuddyFilesModel" "disk" "[I" ∈ wsX5_peek := by decide +kernel
abbrev rm_X5_peek : Room := { frames := 1, cells := 0, slots := 0, locals := 22 }
set_option maxHeartbeats 4000000 in
set_option maxRecDepth 100000 in
theorem k_X5_peek (l : Launch) (dC : Nat → ClassId) (dI : Nat → Nat → Nat) (A_x A_da A_ma A_ha A_ho A_ti A_be A_te A_ch : Nat) (K_da K_ma K_ha K_ho K_ti K_be K_te K_ch : ClassId) (c_da c_ma c_ha c_ho c_ti c_be c_te c_ch : Nat → Int32) (c_up c_fu c_tm c_tc : Int32) (p1 : Int32) (r0 : Int32) (hm : m_X5_peek c_da p1 = some r0) : Met l yX5_peek wsX5_peek rm_X5_peek (va_Pc [.ref A_x, .int p1] (fun U => va_P (dC, dI) vwCl (wM A_x A_da A_ma A_ha A_ho A_ti A_be A_te A_ch K_da K_ma K_ha K_ho K_ti K_be K_te K_ch c_da c_ma c_ha c_ho c_ti c_be c_te c_ch c_up c_fu c_tm c_tc) U.heap ∧ va_K (dC, dI) vwCl (tM K_da K_ma K_ha K_ho K_ti K_be K_te K_ch) U)) (vp_Si (fun r => r0 = r)) 0 0 (fun _ => False) := by
  refine Met.ofW (cc := cX5_peek) (maxL := 2) (ret := (some .int)) (by decide) rfl ?_
  intro p e s m args below meth c s₁ B hml hv
  obtain ⟨rfl, hP, hK⟩ := hv
  have hx := B.exec
  have hb := B.bytes
  have hr := B.returns
  have hts := atoms_spec (ws := wsX5_peek) B.pre
  have hown : s.vm.findClass RX5 = some m.cls := findClass_of_methodNamed B.named
  have hlocks := B.notSynchronized
  have hl := lv_entry ([.ref A_x, .int p1]) (n := 2) (Nat.le_of_ble_eq_true rfl)
  rw [lg_entry_eq]
  generalize (lg_sl ([.ref A_x, .int p1]) ++ List.replicate (2 - (lg_sl ([.ref A_x, .int p1])).length) Slot.unset).toArray = ls at hl ⊢
  have hl : lv_has ls 2 [(0, .ref A_x), (1, .int p1)] := hl
  refine w_name (fun Q hQ => ?_)
  unfold m_X5_peek at hm
  refine lv_iload_n hx hb dX5_peek_0 rfl (lv_at hl 1 rfl) ?_
  refine lv_iconst (v := 0) hx hb dX5_peek_1 (by decide) ?_
  refine lv_sipush (v := 331) hx hb dX5_peek_2 (by decide) ?_
  obtain ⟨x1, ex, hm⟩ := g_bind hm
  refine vp_callSi (W.runS (As := [.int p1, .int (0 : Int32), .int (331 : Int32)]) (rest := []) ⟨hx, hb, hml, hown, hts⟩ (k_X5_within l  p1 (0 : Int32) (331 : Int32) _ ex) (va_cwS 3 hts gX5_peek_X5_within rfl rfl rfl (by decide +kernel) ⟨Nat.le_of_ble_eq_true rfl, Nat.le_of_ble_eq_true rfl⟩) ⟨w_bl0, fun U hU hW => ⟨rfl, trivial⟩⟩ rfl rfl hl.1 rfl (lv_room (Nat.le_of_ble_eq_true rfl)) dX5_peek_5 ⟨Nat.zero_le _, Nat.zero_le _⟩) (fun _ ey => ?_)
  subst ey
  refine lv_if_eq (tgt := 20) hx hb dX5_peek_8 (by decide) (fun c2 => ?_) (fun c2 => ?_)
  · have hm := g_t c2 hm
    refine lv_iconst (v := 0) hx hb dX5_peek_20 (by decide) ?_
    cases hm
    subst hQ
    exact W.iret hx hb hr (fun t ht hW => ⟨_, rfl, rfl, ht⟩) (fun _ h => nomatch h) dX5_peek_21
  · have hm := g_f c2 hm
    refine lv_aload_n hx hb dX5_peek_11 rfl (lv_at hl 0 rfl) ?_
    refine va_get (D := (dC, dI)) (ci := 3) (v := .ref A_da) (C := RX5) (T := TX5) (N := 12) hx hb hts hi_X5_peek_X5 hown hK hP 0 rfl rfl 0 (by decide) (hts (Cond.fieldLink RX5 7 "BuddyFilesModel" "disk" "[I") hk_X5_peek_7) (fun _ h9 => h9) rfl dX5_peek_12 ?_
    refine lv_iload_n hx hb dX5_peek_15 rfl (lv_at hl 1 rfl) ?_
    obtain ⟨x3, ex, hm⟩ := g_bind hm
    refine w_ald hx hb hK hP 1 0 rfl rfl ex dX5_peek_16 ?_
    refine lv_goto (tgt := 21) hx hb dX5_peek_17 (by decide) ?_
    cases hm
    subst hQ
    exact W.iret hx hb hr (fun t ht hW => ⟨_, rfl, rfl, ht⟩) (fun _ h => nomatch h) dX5_peek_21
