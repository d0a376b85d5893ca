theorem law_gt {i L : Nat} (hL : L ≤ 256) (hi2 : i ≤ 300) (hi : ¬ i + 4 ≤ L) : Int32.ofNat L - 4 < nI i := by
  have h1 : (nI L - nI 4).toInt = (L : Int) - 4 := pk_sub_toInt (by omega) (by omega)
  rw [Int32.lt_iff_toInt_lt, nI_toInt (by omega)]
  show (nI L - nI 4).toInt < _
  omega
theorem law_ngt {i L : Nat} (hL : L ≤ 256) (hi : i + 4 ≤ L) : ¬ (Int32.ofNat L - 4 < nI i) := by
  have h1 : (nI L - nI 4).toInt = (L : Int) - 4 := pk_sub_toInt (by omega) (by omega)
  rw [Int32.lt_iff_toInt_lt, nI_toInt (by omega)]
  show ¬ (nI L - nI 4).toInt < _
  omega
set_option maxHeartbeats 4000000 in
theorem law_end {p : Program} {l : Launch} {e : Env} {s : State} {m : MethodId} {below : List Frame} {meth : Method} {c : Code} {b L : Nat} {xs : Nat → Int32} (hL : L ≤ 256) (C0 : lw_At p s m meth c b L xs) {i x y : Nat} (hi2 : i ≤ 300) (hi : ¬ i + 4 ≤ L) {H : Heap} {locs : List Loc} (hS : va_S (fun q : Nat => s.heap.size ≤ q) s.heap H locs) {ls : Array Slot} (hl : lv_has ls 4 [(0, .ref b), (1, .ref x), (2, .ref y), (3, .int (nI i))]) : W p l e room_1 s m #[Value.ref b] below meth c H locs 17 1343 (lw_Z below #[Value.ref b] s) (F0 m 18 ls []) := by
  obtain ⟨hx, hb, hr, hml, hown, hts0, hX, hbl, hlocks, hgv⟩ := C0
  have hA : ∀ q : Nat, s.heap.size ≤ q → (fun q : Nat => s.heap.size ≤ q) q := fun _ h => h
  have hbA : ¬ (fun q : Nat => s.heap.size ≤ q) b := Nat.not_le.mpr hbl
  refine lv_iload_n hx hb dL_law_18 rfl (lv_at hl 3 rfl) ?_
  refine lv_aload_n hx hb dL_law_19 rfl (lv_at hl 0 rfl) ?_
  refine va_slen hx hb hX hbl hbA hS dL_law_20 ?_
  refine lv_iconst (v := 4) hx hb dL_law_21 (by decide) ?_
  refine lv_isub hx hb dL_law_22 ?_
  refine lv_icmp_gt (tgt := 642) hx hb dL_law_23 (by decide) (fun c9 => ?_) (fun c9 => ?_)
  · refine lv_iconst (v := 1) hx hb dL_law_642 (by decide) ?_
    refine va_forget (fun q hq => hS.2.2 q hq) ?_
    exact lw_ret hx hb hr hlocks dL_law_643
  · exact absurd (law_gt (i := i) hL hi2 hi) c9
set_option maxHeartbeats 4000000 in
theorem law_sw {p : Program} {l : Launch} {e : Env} {s : State} {m : MethodId} {below : List Frame} {meth : Method} {c : Code} {b L : Nat} {xs : Nat → Int32} (hL : L ≤ 256) (C0 : lw_At p s m meth c b L xs) {i x y : Nat} (hi : i + 4 ≤ L) {H : Heap} {locs : List Loc} (hS : va_S (fun q : Nat => s.heap.size ≤ q) s.heap H locs) {ls : Array Slot} (hl : lv_has ls 4 [(0, .ref b), (1, .ref x), (2, .ref y), (3, .int (nI i))]) (K : W p l e room_1 s m #[Value.ref b] below meth c H locs 17 1343 (lw_Z below #[Value.ref b] s) (F0 m 32 ls [.int (xs (nI i).toNatClampNeg &&& 31)])) : W p l e room_1 s m #[Value.ref b] below meth c H locs 17 1343 (lw_Z below #[Value.ref b] s) (F0 m 18 ls []) := by
  obtain ⟨hx, hb, hr, hml, hown, hts0, hX, hbl, hlocks, hgv⟩ := C0
  have hA : ∀ q : Nat, s.heap.size ≤ q → (fun q : Nat => s.heap.size ≤ q) q := fun _ h => h
  have hbA : ¬ (fun q : Nat => s.heap.size ≤ q) b := Nat.not_le.mpr hbl
  refine lv_iload_n hx hb dL_law_18 rfl (lv_at hl 3 rfl) ?_
  refine lv_aload_n hx hb dL_law_19 rfl (lv_at hl 0 rfl) ?_
  refine va_slen hx hb hX hbl hbA hS dL_law_20 ?_
  refine lv_iconst (v := 4) hx hb dL_law_21 (by decide) ?_
  refine lv_isub hx hb dL_law_22 ?_
  refine lv_icmp_gt (tgt := 642) hx hb dL_law_23 (by decide) (fun c9 => ?_) (fun c9 => ?_)
  · exact absurd c9 (law_ngt hL hi)
  · refine lv_aload_n hx hb dL_law_26 rfl (lv_at hl 0 rfl) ?_
    refine lv_iload_n hx hb dL_law_27 rfl (lv_at hl 3 rfl) ?_
    refine va_sld hx hb hX hbl hbA hS (vp_in_nI (by omega) (by omega)) dL_law_28 ?_
    refine lv_bipush (v := 31) hx hb dL_law_29 (by decide) ?_
    refine lv_iand hx hb dL_law_31 ?_
    exact K
theorem vp_in_at {x : Int32} {n N : Nat} (e : x = nI n) (h : n < N) (hN : N < 2 ^ 31) : vp_in x N := by rw [e]; exact vp_in_nI h hN
set_option maxHeartbeats 4000000 in
set_option maxRecDepth 100000 in
theorem law_c0 {p : Program} {l : Launch} {e : Env} {s : State} {m : MethodId} {below : List Frame} {meth : Method} {c : Code} {dC : Nat → ClassId} {dI : Nat → Nat → Nat} {b L : Nat} {xs : Nat → Int32} (hL : L ≤ 256) (C0 : lw_At p s m meth c b L xs) {A_x A_d A_mh A_jh A_ha A_da A_ma A_ja N_x N_da N_ma N_ha N_ho N_ti N_be N_te N_ch : Nat} {K_ha K_da K_ma K_ja J_da J_ma J_ha J_ho J_ti J_be J_te J_ch : ClassId} {b_ha : Nat → Int32} {b_da : Nat → Int32} {b_ma : Nat → Int32} {b_ja : Nat → Int32} {b_up : Int32} {b_fu : Int32} {n_da : Nat → Int32} {n_ma : Nat → Int32} {n_ha : Nat → Int32} {n_ho : Nat → Int32} {n_ti : Nat → Int32} {n_be : Nat → Int32} {n_te : Nat → Int32} {n_ch : Nat → Int32} {n_up : Int32} {n_fu : Int32} {n_tm : Int32} {n_tc : Int32} {i : Nat} (hi : i + 4 ≤ L) (R : Rel b_ha b_da b_ma b_up b_fu n_da n_ma n_ha n_up n_fu) (H : Heap) (locs : List Loc) (hK : va_K (dC, dI) vwCl ((tB K_ha K_da K_ma K_ja) ++ (tM J_da J_ma J_ha J_ho J_ti J_be J_te J_ch)) s) (hP : va_P (dC, dI) vwCl ((wB A_x A_d A_mh A_jh A_ha A_da A_ma A_ja K_ha K_da K_ma K_ja b_ha b_da b_ma b_ja b_up b_fu) ++ (wM N_x N_da N_ma N_ha N_ho N_ti N_be N_te N_ch J_da J_ma J_ha J_ho J_ti J_be J_te J_ch n_da n_ma n_ha n_ho n_ti n_be n_te n_ch n_up n_fu n_tm n_tc)) H) (hD : va_D (fun q : Nat => s.heap.size ≤ q) ((wB A_x A_d A_mh A_jh A_ha A_da A_ma A_ja K_ha K_da K_ma K_ja b_ha b_da b_ma b_ja b_up b_fu) ++ (wM N_x N_da N_ma N_ha N_ho N_ti N_be N_te N_ch J_da J_ma J_ha J_ho J_ti J_be J_te J_ch n_da n_ma n_ha n_ho n_ti n_be n_te n_ch n_up n_fu n_tm n_tc))) (hS : va_S (fun q : Nat => s.heap.size ≤ q) s.heap H locs) (ls : Array Slot) (hl : lv_has ls 4 [(0, .ref b), (1, .ref A_x), (2, .ref N_x), (3, .int (nI i))])
    (K : ∀ (u_ha : Nat → Int32) (u_da : Nat → Int32) (u_ma : Nat → Int32) (u_ja : Nat → Int32) (u_up : Int32) (u_fu : Int32) (v_da : Nat → Int32) (v_ma : Nat → Int32) (v_ha : Nat → Int32) (v_ho : Nat → Int32) (v_ti : Nat → Int32) (v_be : Nat → Int32) (v_te : Nat → Int32) (v_ch : Nat → Int32) (v_up : Int32) (v_fu : Int32) (v_tm : Int32) (v_tc : Int32), Rel u_ha u_da u_ma u_up u_fu v_da v_ma v_ha v_up v_fu → ∀ (H : Heap) (locs : List Loc), va_P (dC, dI) vwCl ((wB A_x A_d A_mh A_jh A_ha A_da A_ma A_ja K_ha K_da K_ma K_ja u_ha u_da u_ma u_ja u_up u_fu) ++ (wM N_x N_da N_ma N_ha N_ho N_ti N_be N_te N_ch J_da J_ma J_ha J_ho J_ti J_be J_te J_ch v_da v_ma v_ha v_ho v_ti v_be v_te v_ch v_up v_fu v_tm v_tc)) H → va_D (fun q : Nat => s.heap.size ≤ q) ((wB A_x A_d A_mh A_jh A_ha A_da A_ma A_ja K_ha K_da K_ma K_ja u_ha u_da u_ma u_ja u_up u_fu) ++ (wM N_x N_da N_ma N_ha N_ho N_ti N_be N_te N_ch J_da J_ma J_ha J_ho J_ti J_be J_te J_ch v_da v_ma v_ha v_ho v_ti v_be v_te v_ch v_up v_fu v_tm v_tc)) → va_S (fun q : Nat => s.heap.size ≤ q) s.heap H locs → ∀ (ls : Array Slot), lv_has ls 4 [(0, .ref b), (1, .ref A_x), (2, .ref N_x), (3, .int (nI i))] → W p l e room_1 s m #[Value.ref b] below meth c H locs 17 1343 (lw_Z below #[Value.ref b] s) (F0 m 636 ls [])) : W p l e room_1 s m #[Value.ref b] below meth c H locs 17 1343 (lw_Z below #[Value.ref b] s) (F0 m 128 ls []) := by
  obtain ⟨hx, hb, hr, hml, hown, hts0, hX, hbl, hlocks, hgv⟩ := C0
  have hts : ∀ w ∈ wsL_law, w.before #[Value.ref b] s = true := fun w h => hts0 w (wsL_law_in w h)
  have hA : ∀ q : Nat, s.heap.size ≤ q → (fun q : Nat => s.heap.size ≤ q) q := fun _ h => h
  have hbA : ¬ (fun q : Nat => s.heap.size ≤ q) b := Nat.not_le.mpr hbl
  have hown : s.vm.findClass RL = some m.cls := hown
  obtain ⟨u_ha, u_da, u_ma, u_up, u_fu, v_da, v_ma, v_ha, v_up, v_fu, e4, e5, R2⟩ := st_format  R 
  refine lv_aload_n hx hb dL_law_128 rfl (lv_at hl 1 rfl) ?_
  have hPc := hP.sub (ws' := (wB A_x A_d A_mh A_jh A_ha A_da A_ma A_ja K_ha K_da K_ma K_ja b_ha b_da b_ma b_ja b_up b_fu)) [0, 1, 2, 3, 4, 5, 6, 7] rfl
  have hDc := hD.sub (ws' := (wB A_x A_d A_mh A_jh A_ha A_da A_ma A_ja K_ha K_da K_ma K_ja b_ha b_da b_ma b_ja b_up b_fu)) [0, 1, 2, 3, 4, 5, 6, 7] (by decide) rfl
  have hKc := hK.sub (tys' := (tB K_ha K_da K_ma K_ja)) [0, 1, 2, 3] rfl
  have hFc := va_free (wc := (wB A_x A_d A_mh A_jh A_ha A_da A_ma A_ja K_ha K_da K_ma K_ja b_ha b_da b_ma b_ja b_up b_fu)) hD hS hA [0, 1, 2, 3, 4, 5, 6, 7] rfl
  refine va_callv (va_runV (As := []) (rest := []) ⟨hx, hb, hml, hown, hts⟩ (k_X4_format l dC dI A_x A_d A_mh A_jh A_ha A_da A_ma A_ja K_ha K_da K_ma K_ja b_ha b_da b_ma b_ja b_up b_fu H.size  _ _ _ _ _  e4) (cwV 0 hts gL_law_X4_format rfl rfl rfl (by decide +kernel) ⟨Nat.le_of_ble_eq_true rfl, Nat.le_of_ble_eq_true rfl⟩) ⟨w_blW, va_recv hKc hPc (ci := 2) (q0 := 0) rfl rfl, fun U hU hW => ⟨rfl, by rw [hU], by rw [hU]; exact hPc, va_K.moved hW.alike hKc, hDc.weaken (fun _ _ _ _ => trivial)⟩⟩ rfl rfl hl.1 rfl (lv_room (Nat.le_of_ble_eq_true rfl)) dL_law_129 ⟨Nat.le_of_ble_eq_true rfl, Nat.le_of_ble_eq_true rfl⟩) hS (fun q _ h => hFc q h) hFc (fun _ t H_X4 locs_X4 ht hvm hw hB hz1 hk1 hS => ?_)
  refine W.widen (k := 17) (n := 1343) (Nat.le_of_ble_eq_true rfl) (Nat.le_of_ble_eq_true rfl) ?_
  obtain ⟨hP1, hD1⟩ := hB
  rw [ht] at hP1
  obtain ⟨hP, hD⟩ := va_join (wr := (wM N_x N_da N_ma N_ha N_ho N_ti N_be N_te N_ch J_da J_ma J_ha J_ho J_ti J_be J_te J_ch n_da n_ma n_ha n_ho n_ti n_be n_te n_ch n_up n_fu n_tm n_tc)) (w1 := (wB A_x A_d A_mh A_jh A_ha A_da A_ma A_ja K_ha K_da K_ma K_ja u_ha u_da u_ma b_ja u_up u_fu)) hP hD [0, 1, 2, 3, 4, 5, 6, 7] [8, 9, 10, 11, 12, 13, 14, 15, 16] rfl rfl (by decide) (by decide) hk1 hFc hP1 hD1
  have hP : va_P (dC, dI) vwCl ((wB A_x A_d A_mh A_jh A_ha A_da A_ma A_ja K_ha K_da K_ma K_ja u_ha u_da u_ma b_ja u_up u_fu) ++ (wM N_x N_da N_ma N_ha N_ho N_ti N_be N_te N_ch J_da J_ma J_ha J_ho J_ti J_be J_te J_ch n_da n_ma n_ha n_ho n_ti n_be n_te n_ch n_up n_fu n_tm n_tc)) H_X4 := hP.sub [9, 10, 11, 12, 13, 14, 15, 16, 0, 1, 2, 3, 4, 5, 6, 7, 8] rfl
  have hD : va_D (fun q : Nat => s.heap.size ≤ q) ((wB A_x A_d A_mh A_jh A_ha A_da A_ma A_ja K_ha K_da K_ma K_ja u_ha u_da u_ma b_ja u_up u_fu) ++ (wM N_x N_da N_ma N_ha N_ho N_ti N_be N_te N_ch J_da J_ma J_ha J_ho J_ti J_be J_te J_ch n_da n_ma n_ha n_ho n_ti n_be n_te n_ch n_up n_fu n_tm n_tc)) := hD.sub [9, 10, 11, 12, 13, 14, 15, 16, 0, 1, 2, 3, 4, 5, 6, 7, 8] (by decide) rfl
  refine lv_aload_n hx hb dL_law_132 rfl (lv_at hl 2 rfl) ?_
  have hPc := hP.sub (ws' := (wM N_x N_da N_ma N_ha N_ho N_ti N_be N_te N_ch J_da J_ma J_ha J_ho J_ti J_be J_te J_ch n_da n_ma n_ha n_ho n_ti n_be n_te n_ch n_up n_fu n_tm n_tc)) [8, 9, 10, 11, 12, 13, 14, 15, 16] rfl
  have hDc := hD.sub (ws' := (wM N_x N_da N_ma N_ha N_ho N_ti N_be N_te N_ch J_da J_ma J_ha J_ho J_ti J_be J_te J_ch n_da n_ma n_ha n_ho n_ti n_be n_te n_ch n_up n_fu n_tm n_tc)) [8, 9, 10, 11, 12, 13, 14, 15, 16] (by decide) rfl
  have hKc := hK.sub (tys' := (tM J_da J_ma J_ha J_ho J_ti J_be J_te J_ch)) [4, 5, 6, 7, 8, 9, 10, 11] rfl
  have hFc := va_free (wc := (wM N_x N_da N_ma N_ha N_ho N_ti N_be N_te N_ch J_da J_ma J_ha J_ho J_ti J_be J_te J_ch n_da n_ma n_ha n_ho n_ti n_be n_te n_ch n_up n_fu n_tm n_tc)) hD hS hA [8, 9, 10, 11, 12, 13, 14, 15, 16] rfl
  refine va_callv (va_runV (As := []) (rest := []) ⟨hx, hb, hml, hown, hts⟩ (k_X5_format l dC dI N_x N_da N_ma N_ha N_ho N_ti N_be N_te N_ch J_da J_ma J_ha J_ho J_ti J_be J_te J_ch n_da n_ma n_ha n_ho n_ti n_be n_te n_ch n_up n_fu n_tm n_tc H_X4.size  _ _ _ _ _  e5) (cwV 0 hts gL_law_X5_format rfl rfl rfl (by decide +kernel) ⟨Nat.le_of_ble_eq_true rfl, Nat.le_of_ble_eq_true rfl⟩) ⟨w_blW, va_recv hKc hPc (ci := 3) (q0 := 0) rfl rfl, fun U hU hW => ⟨rfl, by rw [hU], by rw [hU]; exact hPc, va_K.moved hW.alike hKc, hDc.weaken (fun _ _ _ _ => trivial)⟩⟩ rfl rfl hl.1 rfl (lv_room (Nat.le_of_ble_eq_true rfl)) dL_law_133 ⟨Nat.le_of_ble_eq_true rfl, Nat.le_of_ble_eq_true rfl⟩) hS (fun q _ h => hFc q h) hFc (fun _ t H_X5 locs_X5 ht hvm hw hB hz1 hk1 hS => ?_)
  refine W.widen (k := 17) (n := 1343) (Nat.le_of_ble_eq_true rfl) (Nat.le_of_ble_eq_true rfl) ?_
  obtain ⟨hP1, hD1⟩ := hB
  rw [ht] at hP1
  obtain ⟨hP, hD⟩ := va_join (wr := (wB A_x A_d A_mh A_jh A_ha A_da A_ma A_ja K_ha K_da K_ma K_ja u_ha u_da u_ma b_ja u_up u_fu)) (w1 := (wM N_x N_da N_ma N_ha N_ho N_ti N_be N_te N_ch J_da J_ma J_ha J_ho J_ti J_be J_te J_ch v_da v_ma v_ha n_ho n_ti n_be n_te n_ch v_up v_fu n_tm n_tc)) hP hD [8, 9, 10, 11, 12, 13, 14, 15, 16] [0, 1, 2, 3, 4, 5, 6, 7] rfl rfl (by decide) (by decide) hk1 hFc hP1 hD1
  have hP : va_P (dC, dI) vwCl ((wB A_x A_d A_mh A_jh A_ha A_da A_ma A_ja K_ha K_da K_ma K_ja u_ha u_da u_ma b_ja u_up u_fu) ++ (wM N_x N_da N_ma N_ha N_ho N_ti N_be N_te N_ch J_da J_ma J_ha J_ho J_ti J_be J_te J_ch v_da v_ma v_ha n_ho n_ti n_be n_te n_ch v_up v_fu n_tm n_tc)) H_X5 := hP
  have hD : va_D (fun q : Nat => s.heap.size ≤ q) ((wB A_x A_d A_mh A_jh A_ha A_da A_ma A_ja K_ha K_da K_ma K_ja u_ha u_da u_ma b_ja u_up u_fu) ++ (wM N_x N_da N_ma N_ha N_ho N_ti N_be N_te N_ch J_da J_ma J_ha J_ho J_ti J_be J_te J_ch v_da v_ma v_ha n_ho n_ti n_be n_te n_ch v_up v_fu n_tm n_tc)) := hD
  refine lv_goto (tgt := 636) hx hb dL_law_136 (by decide) ?_
  exact K u_ha u_da u_ma b_ja u_up u_fu v_da v_ma v_ha n_ho n_ti n_be n_te n_ch v_up v_fu n_tm n_tc R2 _ _ hP hD hS _ hl
set_option maxHeartbeats 4000000 in
set_option maxRecDepth 100000 in
theorem law_c1 {p : Program} {l : Launch} {e : Env} {s : State} {m : MethodId} {below : List Frame} {meth : Method} {c : Code} {dC : Nat → ClassId} {dI : Nat → Nat → Nat} {b L : Nat} {xs : Nat → Int32} (hL : L ≤ 256) (C0 : lw_At p s m meth c b L xs) {A_x A_d A_mh A_jh A_ha A_da A_ma A_ja N_x N_da N_ma N_ha N_ho N_ti N_be N_te N_ch : Nat} {K_ha K_da K_ma K_ja J_da J_ma J_ha J_ho J_ti J_be J_te J_ch : ClassId} {b_ha : Nat → Int32} {b_da : Nat → Int32} {b_ma : Nat → Int32} {b_ja : Nat → Int32} {b_up : Int32} {b_fu : Int32} {n_da : Nat → Int32} {n_ma : Nat → Int32} {n_ha : Nat → Int32} {n_ho : Nat → Int32} {n_ti : Nat → Int32} {n_be : Nat → Int32} {n_te : Nat → Int32} {n_ch : Nat → Int32} {n_up : Int32} {n_fu : Int32} {n_tm : Int32} {n_tc : Int32} {i : Nat} (hi : i + 4 ≤ L) (R : Rel b_ha b_da b_ma b_up b_fu n_da n_ma n_ha n_up n_fu) (H : Heap) (locs : List Loc) (hK : va_K (dC, dI) vwCl ((tB K_ha K_da K_ma K_ja) ++ (tM J_da J_ma J_ha J_ho J_ti J_be J_te J_ch)) s) (hP : va_P (dC, dI) vwCl ((wB A_x A_d A_mh A_jh A_ha A_da A_ma A_ja K_ha K_da K_ma K_ja b_ha b_da b_ma b_ja b_up b_fu) ++ (wM N_x N_da N_ma N_ha N_ho N_ti N_be N_te N_ch J_da J_ma J_ha J_ho J_ti J_be J_te J_ch n_da n_ma n_ha n_ho n_ti n_be n_te n_ch n_up n_fu n_tm n_tc)) H) (hD : va_D (fun q : Nat => s.heap.size ≤ q) ((wB A_x A_d A_mh A_jh A_ha A_da A_ma A_ja K_ha K_da K_ma K_ja b_ha b_da b_ma b_ja b_up b_fu) ++ (wM N_x N_da N_ma N_ha N_ho N_ti N_be N_te N_ch J_da J_ma J_ha J_ho J_ti J_be J_te J_ch n_da n_ma n_ha n_ho n_ti n_be n_te n_ch n_up n_fu n_tm n_tc))) (hS : va_S (fun q : Nat => s.heap.size ≤ q) s.heap H locs) (ls : Array Slot) (hl : lv_has ls 4 [(0, .ref b), (1, .ref A_x), (2, .ref N_x), (3, .int (nI i))])
    (K : ∀ (u_ha : Nat → Int32) (u_da : Nat → Int32) (u_ma : Nat → Int32) (u_ja : Nat → Int32) (u_up : Int32) (u_fu : Int32) (v_da : Nat → Int32) (v_ma : Nat → Int32) (v_ha : Nat → Int32) (v_ho : Nat → Int32) (v_ti : Nat → Int32) (v_be : Nat → Int32) (v_te : Nat → Int32) (v_ch : Nat → Int32) (v_up : Int32) (v_fu : Int32) (v_tm : Int32) (v_tc : Int32), Rel u_ha u_da u_ma u_up u_fu v_da v_ma v_ha v_up v_fu → ∀ (H : Heap) (locs : List Loc), va_P (dC, dI) vwCl ((wB A_x A_d A_mh A_jh A_ha A_da A_ma A_ja K_ha K_da K_ma K_ja u_ha u_da u_ma u_ja u_up u_fu) ++ (wM N_x N_da N_ma N_ha N_ho N_ti N_be N_te N_ch J_da J_ma J_ha J_ho J_ti J_be J_te J_ch v_da v_ma v_ha v_ho v_ti v_be v_te v_ch v_up v_fu v_tm v_tc)) H → va_D (fun q : Nat => s.heap.size ≤ q) ((wB A_x A_d A_mh A_jh A_ha A_da A_ma A_ja K_ha K_da K_ma K_ja u_ha u_da u_ma u_ja u_up u_fu) ++ (wM N_x N_da N_ma N_ha N_ho N_ti N_be N_te N_ch J_da J_ma J_ha J_ho J_ti J_be J_te J_ch v_da v_ma v_ha v_ho v_ti v_be v_te v_ch v_up v_fu v_tm v_tc)) → va_S (fun q : Nat => s.heap.size ≤ q) s.heap H locs → ∀ (ls : Array Slot), lv_has ls 4 [(0, .ref b), (1, .ref A_x), (2, .ref N_x), (3, .int (nI i))] → W p l e room_1 s m #[Value.ref b] below meth c H locs 17 1343 (lw_Z below #[Value.ref b] s) (F0 m 636 ls [])) : W p l e room_1 s m #[Value.ref b] below meth c H locs 17 1343 (lw_Z below #[Value.ref b] s) (F0 m 139 ls []) := by
  obtain ⟨hx, hb, hr, hml, hown, hts0, hX, hbl, hlocks, hgv⟩ := C0
  have hts : ∀ w ∈ wsL_law, w.before #[Value.ref b] s = true := fun w h => hts0 w (wsL_law_in w h)
  have hA : ∀ q : Nat, s.heap.size ≤ q → (fun q : Nat => s.heap.size ≤ q) q := fun _ h => h
  have hbA : ¬ (fun q : Nat => s.heap.size ≤ q) b := Nat.not_le.mpr hbl
  have hown : s.vm.findClass RL = some m.cls := hown
  have hin1 : vp_in (nI i + (1 : Int32)) L := vp_in_at (nI_add i 1) (by omega) (by omega)
  have hin2 : vp_in (nI i + (2 : Int32)) L := vp_in_at (nI_add i 2) (by omega) (by omega)
  obtain ⟨r, u_ma, v_ma, e4, e5, R2⟩ := st_create  R (xs (nI i + (1 : Int32)).toNatClampNeg) (xs (nI i + (2 : Int32)).toNatClampNeg)
  refine lv_aload_n hx hb dL_law_139 rfl (lv_at hl 1 rfl) ?_
  refine lv_aload_n hx hb dL_law_140 rfl (lv_at hl 0 rfl) ?_
  refine lv_iload_n hx hb dL_law_141 rfl (lv_at hl 3 rfl) ?_
  refine lv_iconst (v := 1) hx hb dL_law_142 (by decide) ?_
  refine lv_iadd hx hb dL_law_143 ?_
  refine va_sld hx hb hX hbl hbA hS hin1 dL_law_144 ?_
  refine lv_aload_n hx hb dL_law_145 rfl (lv_at hl 0 rfl) ?_
  refine lv_iload_n hx hb dL_law_146 rfl (lv_at hl 3 rfl) ?_
  refine lv_iconst (v := 2) hx hb dL_law_147 (by decide) ?_
  refine lv_iadd hx hb dL_law_148 ?_
  refine va_sld hx hb hX hbl hbA hS hin2 dL_law_149 ?_
  have hPc := hP.sub (ws' := (wB A_x A_d A_mh A_jh A_ha A_da A_ma A_ja K_ha K_da K_ma K_ja b_ha b_da b_ma b_ja b_up b_fu)) [0, 1, 2, 3, 4, 5, 6, 7] rfl
  have hDc := hD.sub (ws' := (wB A_x A_d A_mh A_jh A_ha A_da A_ma A_ja K_ha K_da K_ma K_ja b_ha b_da b_ma b_ja b_up b_fu)) [0, 1, 2, 3, 4, 5, 6, 7] (by decide) rfl
  have hKc := hK.sub (tys' := (tB K_ha K_da K_ma K_ja)) [0, 1, 2, 3] rfl
  have hFc := va_free (wc := (wB A_x A_d A_mh A_jh A_ha A_da A_ma A_ja K_ha K_da K_ma K_ja b_ha b_da b_ma b_ja b_up b_fu)) hD hS hA [0, 1, 2, 3, 4, 5, 6, 7] rfl
  refine va_calli (va_runV (As := [.int (xs (nI i + (1 : Int32)).toNatClampNeg), .int (xs (nI i + (2 : Int32)).toNatClampNeg)]) (rest := []) ⟨hx, hb, hml, hown, hts⟩ (k_X4_create l dC dI A_x A_d A_mh A_jh A_ha A_da A_ma A_ja K_ha K_da K_ma K_ja b_ha b_da b_ma b_ja b_up b_fu H.size (xs (nI i + (1 : Int32)).toNatClampNeg) (xs (nI i + (2 : Int32)).toNatClampNeg) _ _  e4) (cwV 2 hts gL_law_X4_create rfl rfl rfl (by decide +kernel) ⟨Nat.le_of_ble_eq_true rfl, Nat.le_of_ble_eq_true rfl⟩) ⟨w_blW, va_recv hKc hPc (ci := 2) (q0 := 0) rfl rfl, fun U hU hW => ⟨rfl, by rw [hU], by rw [hU]; exact hPc, va_K.moved hW.alike hKc, hDc.weaken (fun _ _ _ _ => trivial)⟩⟩ rfl rfl hl.1 rfl (lv_room (Nat.le_of_ble_eq_true rfl)) dL_law_150 ⟨Nat.le_of_ble_eq_true rfl, Nat.le_of_ble_eq_true rfl⟩) hS (fun q _ h => hFc q h) hFc (fun _ _ t H_X4 locs_X4 ht hvm hw hB hz1 hk1 hS => ?_)
  subst hw
  refine W.widen (k := 17) (n := 1343) (Nat.le_of_ble_eq_true rfl) (Nat.le_of_ble_eq_true rfl) ?_
  obtain ⟨hP1, hD1⟩ := hB
  rw [ht] at hP1
  obtain ⟨hP, hD⟩ := va_join (wr := (wM N_x N_da N_ma N_ha N_ho N_ti N_be N_te N_ch J_da J_ma J_ha J_ho J_ti J_be J_te J_ch n_da n_ma n_ha n_ho n_ti n_be n_te n_ch n_up n_fu n_tm n_tc)) (w1 := (wB A_x A_d A_mh A_jh A_ha A_da A_ma A_ja K_ha K_da K_ma K_ja b_ha b_da u_ma b_ja b_up b_fu)) hP hD [0, 1, 2, 3, 4, 5, 6, 7] [8, 9, 10, 11, 12, 13, 14, 15, 16] rfl rfl (by decide) (by decide) hk1 hFc hP1 hD1
  have hP : va_P (dC, dI) vwCl ((wB A_x A_d A_mh A_jh A_ha A_da A_ma A_ja K_ha K_da K_ma K_ja b_ha b_da u_ma b_ja b_up b_fu) ++ (wM N_x N_da N_ma N_ha N_ho N_ti N_be N_te N_ch J_da J_ma J_ha J_ho J_ti J_be J_te J_ch n_da n_ma n_ha n_ho n_ti n_be n_te n_ch n_up n_fu n_tm n_tc)) H_X4 := hP.sub [9, 10, 11, 12, 13, 14, 15, 16, 0, 1, 2, 3, 4, 5, 6, 7, 8] rfl
  have hD : va_D (fun q : Nat => s.heap.size ≤ q) ((wB A_x A_d A_mh A_jh A_ha A_da A_ma A_ja K_ha K_da K_ma K_ja b_ha b_da u_ma b_ja b_up b_fu) ++ (wM N_x N_da N_ma N_ha N_ho N_ti N_be N_te N_ch J_da J_ma J_ha J_ho J_ti J_be J_te J_ch n_da n_ma n_ha n_ho n_ti n_be n_te n_ch n_up n_fu n_tm n_tc)) := hD.sub [9, 10, 11, 12, 13, 14, 15, 16, 0, 1, 2, 3, 4, 5, 6, 7, 8] (by decide) rfl
  refine lv_aload_n hx hb dL_law_153 rfl (lv_at hl 2 rfl) ?_
  refine lv_aload_n hx hb dL_law_154 rfl (lv_at hl 0 rfl) ?_
  refine lv_iload_n hx hb dL_law_155 rfl (lv_at hl 3 rfl) ?_
  refine lv_iconst (v := 1) hx hb dL_law_156 (by decide) ?_
  refine lv_iadd hx hb dL_law_157 ?_
  refine va_sld hx hb hX hbl hbA hS hin1 dL_law_158 ?_
  refine lv_aload_n hx hb dL_law_159 rfl (lv_at hl 0 rfl) ?_
  refine lv_iload_n hx hb dL_law_160 rfl (lv_at hl 3 rfl) ?_
  refine lv_iconst (v := 2) hx hb dL_law_161 (by decide) ?_
  refine lv_iadd hx hb dL_law_162 ?_
  refine va_sld hx hb hX hbl hbA hS hin2 dL_law_163 ?_
  have hPc := hP.sub (ws' := (wM N_x N_da N_ma N_ha N_ho N_ti N_be N_te N_ch J_da J_ma J_ha J_ho J_ti J_be J_te J_ch n_da n_ma n_ha n_ho n_ti n_be n_te n_ch n_up n_fu n_tm n_tc)) [8, 9, 10, 11, 12, 13, 14, 15, 16] rfl
  have hDc := hD.sub (ws' := (wM N_x N_da N_ma N_ha N_ho N_ti N_be N_te N_ch J_da J_ma J_ha J_ho J_ti J_be J_te J_ch n_da n_ma n_ha n_ho n_ti n_be n_te n_ch n_up n_fu n_tm n_tc)) [8, 9, 10, 11, 12, 13, 14, 15, 16] (by decide) rfl
  have hKc := hK.sub (tys' := (tM J_da J_ma J_ha J_ho J_ti J_be J_te J_ch)) [4, 5, 6, 7, 8, 9, 10, 11] rfl
  have hFc := va_free (wc := (wM N_x N_da N_ma N_ha N_ho N_ti N_be N_te N_ch J_da J_ma J_ha J_ho J_ti J_be J_te J_ch n_da n_ma n_ha n_ho n_ti n_be n_te n_ch n_up n_fu n_tm n_tc)) hD hS hA [8, 9, 10, 11, 12, 13, 14, 15, 16] rfl
  refine va_calli (va_runV (As := [.int (xs (nI i + (1 : Int32)).toNatClampNeg), .int (xs (nI i + (2 : Int32)).toNatClampNeg)]) (rest := [.int r]) ⟨hx, hb, hml, hown, hts⟩ (k_X5_create l dC dI N_x N_da N_ma N_ha N_ho N_ti N_be N_te N_ch J_da J_ma J_ha J_ho J_ti J_be J_te J_ch n_da n_ma n_ha n_ho n_ti n_be n_te n_ch n_up n_fu n_tm n_tc H_X4.size (xs (nI i + (1 : Int32)).toNatClampNeg) (xs (nI i + (2 : Int32)).toNatClampNeg) _ _  e5) (cwV 2 hts gL_law_X5_create rfl rfl rfl (by decide +kernel) ⟨Nat.le_of_ble_eq_true rfl, Nat.le_of_ble_eq_true rfl⟩) ⟨w_blW, va_recv hKc hPc (ci := 3) (q0 := 0) rfl rfl, fun U hU hW => ⟨rfl, by rw [hU], by rw [hU]; exact hPc, va_K.moved hW.alike hKc, hDc.weaken (fun _ _ _ _ => trivial)⟩⟩ rfl rfl hl.1 rfl (lv_room (Nat.le_of_ble_eq_true rfl)) dL_law_164 ⟨Nat.le_of_ble_eq_true rfl, Nat.le_of_ble_eq_true rfl⟩) hS (fun q _ h => hFc q h) hFc (fun _ _ t H_X5 locs_X5 ht hvm hw hB hz1 hk1 hS => ?_)
  subst hw
  refine W.widen (k := 17) (n := 1343) (Nat.le_of_ble_eq_true rfl) (Nat.le_of_ble_eq_true rfl) ?_
  obtain ⟨hP1, hD1⟩ := hB
  rw [ht] at hP1
  obtain ⟨hP, hD⟩ := va_join (wr := (wB A_x A_d A_mh A_jh A_ha A_da A_ma A_ja K_ha K_da K_ma K_ja b_ha b_da u_ma b_ja b_up b_fu)) (w1 := (wM N_x N_da N_ma N_ha N_ho N_ti N_be N_te N_ch J_da J_ma J_ha J_ho J_ti J_be J_te J_ch n_da v_ma n_ha n_ho n_ti n_be n_te n_ch n_up n_fu n_tm n_tc)) hP hD [8, 9, 10, 11, 12, 13, 14, 15, 16] [0, 1, 2, 3, 4, 5, 6, 7] rfl rfl (by decide) (by decide) hk1 hFc hP1 hD1
  have hP : va_P (dC, dI) vwCl ((wB A_x A_d A_mh A_jh A_ha A_da A_ma A_ja K_ha K_da K_ma K_ja b_ha b_da u_ma b_ja b_up b_fu) ++ (wM N_x N_da N_ma N_ha N_ho N_ti N_be N_te N_ch J_da J_ma J_ha J_ho J_ti J_be J_te J_ch n_da v_ma n_ha n_ho n_ti n_be n_te n_ch n_up n_fu n_tm n_tc)) H_X5 := hP
  have hD : va_D (fun q : Nat => s.heap.size ≤ q) ((wB A_x A_d A_mh A_jh A_ha A_da A_ma A_ja K_ha K_da K_ma K_ja b_ha b_da u_ma b_ja b_up b_fu) ++ (wM N_x N_da N_ma N_ha N_ho N_ti N_be N_te N_ch J_da J_ma J_ha J_ho J_ti J_be J_te J_ch n_da v_ma n_ha n_ho n_ti n_be n_te n_ch n_up n_fu n_tm n_tc)) := hD
  refine lv_icmp_eq (tgt := 636) hx hb dL_law_167 (by decide) (fun _ => ?_) (fun cx => absurd rfl cx)
  exact K b_ha b_da u_ma b_ja b_up b_fu n_da v_ma n_ha n_ho n_ti n_be n_te n_ch n_up n_fu n_tm n_tc R2 _ _ hP hD hS _ hl
set_option maxHeartbeats 4000000 in
set_option maxRecDepth 100000 in
theorem law_c2 {p : Program} {l : Launch} {e : Env} {s : State} {m : MethodId} {below : List Frame} {meth : Method} {c : Code} {dC : Nat → ClassId} {dI : Nat → Nat → Nat} {b L : Nat} {xs : Nat → Int32} (hL : L ≤ 256) (C0 : lw_At p s m meth c b L xs) {A_x A_d A_mh A_jh A_ha A_da A_ma A_ja N_x N_da N_ma N_ha N_ho N_ti N_be N_te N_ch : Nat} {K_ha K_da K_ma K_ja J_da J_ma J_ha J_ho J_ti J_be J_te J_ch : ClassId} {b_ha : Nat → Int32} {b_da : Nat → Int32} {b_ma : Nat → Int32} {b_ja : Nat → Int32} {b_up : Int32} {b_fu : Int32} {n_da : Nat → Int32} {n_ma : Nat → Int32} {n_ha : Nat → Int32} {n_ho : Nat → Int32} {n_ti : Nat → Int32} {n_be : Nat → Int32} {n_te : Nat → Int32} {n_ch : Nat → Int32} {n_up : Int32} {n_fu : Int32} {n_tm : Int32} {n_tc : Int32} {i : Nat} (hi : i + 4 ≤ L) (R : Rel b_ha b_da b_ma b_up b_fu n_da n_ma n_ha n_up n_fu) (H : Heap) (locs : List Loc) (hK : va_K (dC, dI) vwCl ((tB K_ha K_da K_ma K_ja) ++ (tM J_da J_ma J_ha J_ho J_ti J_be J_te J_ch)) s) (hP : va_P (dC, dI) vwCl ((wB A_x A_d A_mh A_jh A_ha A_da A_ma A_ja K_ha K_da K_ma K_ja b_ha b_da b_ma b_ja b_up b_fu) ++ (wM N_x N_da N_ma N_ha N_ho N_ti N_be N_te N_ch J_da J_ma J_ha J_ho J_ti J_be J_te J_ch n_da n_ma n_ha n_ho n_ti n_be n_te n_ch n_up n_fu n_tm n_tc)) H) (hD : va_D (fun q : Nat => s.heap.size ≤ q) ((wB A_x A_d A_mh A_jh A_ha A_da A_ma A_ja K_ha K_da K_ma K_ja b_ha b_da b_ma b_ja b_up b_fu) ++ (wM N_x N_da N_ma N_ha N_ho N_ti N_be N_te N_ch J_da J_ma J_ha J_ho J_ti J_be J_te J_ch n_da n_ma n_ha n_ho n_ti n_be n_te n_ch n_up n_fu n_tm n_tc))) (hS : va_S (fun q : Nat => s.heap.size ≤ q) s.heap H locs) (ls : Array Slot) (hl : lv_has ls 4 [(0, .ref b), (1, .ref A_x), (2, .ref N_x), (3, .int (nI i))])
    (K : ∀ (u_ha : Nat → Int32) (u_da : Nat → Int32) (u_ma : Nat → Int32) (u_ja : Nat → Int32) (u_up : Int32) (u_fu : Int32) (v_da : Nat → Int32) (v_ma : Nat → Int32) (v_ha : Nat → Int32) (v_ho : Nat → Int32) (v_ti : Nat → Int32) (v_be : Nat → Int32) (v_te : Nat → Int32) (v_ch : Nat → Int32) (v_up : Int32) (v_fu : Int32) (v_tm : Int32) (v_tc : Int32), Rel u_ha u_da u_ma u_up u_fu v_da v_ma v_ha v_up v_fu → ∀ (H : Heap) (locs : List Loc), va_P (dC, dI) vwCl ((wB A_x A_d A_mh A_jh A_ha A_da A_ma A_ja K_ha K_da K_ma K_ja u_ha u_da u_ma u_ja u_up u_fu) ++ (wM N_x N_da N_ma N_ha N_ho N_ti N_be N_te N_ch J_da J_ma J_ha J_ho J_ti J_be J_te J_ch v_da v_ma v_ha v_ho v_ti v_be v_te v_ch v_up v_fu v_tm v_tc)) H → va_D (fun q : Nat => s.heap.size ≤ q) ((wB A_x A_d A_mh A_jh A_ha A_da A_ma A_ja K_ha K_da K_ma K_ja u_ha u_da u_ma u_ja u_up u_fu) ++ (wM N_x N_da N_ma N_ha N_ho N_ti N_be N_te N_ch J_da J_ma J_ha J_ho J_ti J_be J_te J_ch v_da v_ma v_ha v_ho v_ti v_be v_te v_ch v_up v_fu v_tm v_tc)) → va_S (fun q : Nat => s.heap.size ≤ q) s.heap H locs → ∀ (ls : Array Slot), lv_has ls 4 [(0, .ref b), (1, .ref A_x), (2, .ref N_x), (3, .int (nI i))] → W p l e room_1 s m #[Value.ref b] below meth c H locs 17 1343 (lw_Z below #[Value.ref b] s) (F0 m 636 ls [])) : W p l e room_1 s m #[Value.ref b] below meth c H locs 17 1343 (lw_Z below #[Value.ref b] s) (F0 m 172 ls []) := by
  obtain ⟨hx, hb, hr, hml, hown, hts0, hX, hbl, hlocks, hgv⟩ := C0
  have hts : ∀ w ∈ wsL_law, w.before #[Value.ref b] s = true := fun w h => hts0 w (wsL_law_in w h)
  have hA : ∀ q : Nat, s.heap.size ≤ q → (fun q : Nat => s.heap.size ≤ q) q := fun _ h => h
  have hbA : ¬ (fun q : Nat => s.heap.size ≤ q) b := Nat.not_le.mpr hbl
  have hown : s.vm.findClass RL = some m.cls := hown
  have hin1 : vp_in (nI i + (1 : Int32)) L := vp_in_at (nI_add i 1) (by omega) (by omega)
  obtain ⟨r, u_ma, v_ma, e4, e5, R2⟩ := st_unlink  R (xs (nI i + (1 : Int32)).toNatClampNeg)
  refine lv_aload_n hx hb dL_law_172 rfl (lv_at hl 1 rfl) ?_
  refine lv_aload_n hx hb dL_law_173 rfl (lv_at hl 0 rfl) ?_
  refine lv_iload_n hx hb dL_law_174 rfl (lv_at hl 3 rfl) ?_
  refine lv_iconst (v := 1) hx hb dL_law_175 (by decide) ?_
  refine lv_iadd hx hb dL_law_176 ?_
  refine va_sld hx hb hX hbl hbA hS hin1 dL_law_177 ?_
  have hPc := hP.sub (ws' := (wB A_x A_d A_mh A_jh A_ha A_da A_ma A_ja K_ha K_da K_ma K_ja b_ha b_da b_ma b_ja b_up b_fu)) [0, 1, 2, 3, 4, 5, 6, 7] rfl
  have hDc := hD.sub (ws' := (wB A_x A_d A_mh A_jh A_ha A_da A_ma A_ja K_ha K_da K_ma K_ja b_ha b_da b_ma b_ja b_up b_fu)) [0, 1, 2, 3, 4, 5, 6, 7] (by decide) rfl
  have hKc := hK.sub (tys' := (tB K_ha K_da K_ma K_ja)) [0, 1, 2, 3] rfl
  have hFc := va_free (wc := (wB A_x A_d A_mh A_jh A_ha A_da A_ma A_ja K_ha K_da K_ma K_ja b_ha b_da b_ma b_ja b_up b_fu)) hD hS hA [0, 1, 2, 3, 4, 5, 6, 7] rfl
  refine va_calli (va_runV (As := [.int (xs (nI i + (1 : Int32)).toNatClampNeg)]) (rest := []) ⟨hx, hb, hml, hown, hts⟩ (k_X4_unlink l dC dI A_x A_d A_mh A_jh A_ha A_da A_ma A_ja K_ha K_da K_ma K_ja b_ha b_da b_ma b_ja b_up b_fu H.size (xs (nI i + (1 : Int32)).toNatClampNeg) _ _  e4) (cwV 1 hts gL_law_X4_unlink rfl rfl rfl (by decide +kernel) ⟨Nat.le_of_ble_eq_true rfl, Nat.le_of_ble_eq_true rfl⟩) ⟨w_blW, va_recv hKc hPc (ci := 2) (q0 := 0) rfl rfl, fun U hU hW => ⟨rfl, by rw [hU], by rw [hU]; exact hPc, va_K.moved hW.alike hKc, hDc.weaken (fun _ _ _ _ => trivial)⟩⟩ rfl rfl hl.1 rfl (lv_room (Nat.le_of_ble_eq_true rfl)) dL_law_178 ⟨Nat.le_of_ble_eq_true rfl, Nat.le_of_ble_eq_true rfl⟩) hS (fun q _ h => hFc q h) hFc (fun _ _ t H_X4 locs_X4 ht hvm hw hB hz1 hk1 hS => ?_)
  subst hw
  refine W.widen (k := 17) (n := 1343) (Nat.le_of_ble_eq_true rfl) (Nat.le_of_ble_eq_true rfl) ?_
  obtain ⟨hP1, hD1⟩ := hB
  rw [ht] at hP1
  obtain ⟨hP, hD⟩ := va_join (wr := (wM N_x N_da N_ma N_ha N_ho N_ti N_be N_te N_ch J_da J_ma J_ha J_ho J_ti J_be J_te J_ch n_da n_ma n_ha n_ho n_ti n_be n_te n_ch n_up n_fu n_tm n_tc)) (w1 := (wB A_x A_d A_mh A_jh A_ha A_da A_ma A_ja K_ha K_da K_ma K_ja b_ha b_da u_ma b_ja b_up b_fu)) hP hD [0, 1, 2, 3, 4, 5, 6, 7] [8, 9, 10, 11, 12, 13, 14, 15, 16] rfl rfl (by decide) (by decide) hk1 hFc hP1 hD1
  have hP : va_P (dC, dI) vwCl ((wB A_x A_d A_mh A_jh A_ha A_da A_ma A_ja K_ha K_da K_ma K_ja b_ha b_da u_ma b_ja b_up b_fu) ++ (wM N_x N_da N_ma N_ha N_ho N_ti N_be N_te N_ch J_da J_ma J_ha J_ho J_ti J_be J_te J_ch n_da n_ma n_ha n_ho n_ti n_be n_te n_ch n_up n_fu n_tm n_tc)) H_X4 := hP.sub [9, 10, 11, 12, 13, 14, 15, 16, 0, 1, 2, 3, 4, 5, 6, 7, 8] rfl
  have hD : va_D (fun q : Nat => s.heap.size ≤ q) ((wB A_x A_d A_mh A_jh A_ha A_da A_ma A_ja K_ha K_da K_ma K_ja b_ha b_da u_ma b_ja b_up b_fu) ++ (wM N_x N_da N_ma N_ha N_ho N_ti N_be N_te N_ch J_da J_ma J_ha J_ho J_ti J_be J_te J_ch n_da n_ma n_ha n_ho n_ti n_be n_te n_ch n_up n_fu n_tm n_tc)) := hD.sub [9, 10, 11, 12, 13, 14, 15, 16, 0, 1, 2, 3, 4, 5, 6, 7, 8] (by decide) rfl
  refine lv_aload_n hx hb dL_law_181 rfl (lv_at hl 2 rfl) ?_
  refine lv_aload_n hx hb dL_law_182 rfl (lv_at hl 0 rfl) ?_
  refine lv_iload_n hx hb dL_law_183 rfl (lv_at hl 3 rfl) ?_
  refine lv_iconst (v := 1) hx hb dL_law_184 (by decide) ?_
  refine lv_iadd hx hb dL_law_185 ?_
  refine va_sld hx hb hX hbl hbA hS hin1 dL_law_186 ?_
  have hPc := hP.sub (ws' := (wM N_x N_da N_ma N_ha N_ho N_ti N_be N_te N_ch J_da J_ma J_ha J_ho J_ti J_be J_te J_ch n_da n_ma n_ha n_ho n_ti n_be n_te n_ch n_up n_fu n_tm n_tc)) [8, 9, 10, 11, 12, 13, 14, 15, 16] rfl
  have hDc := hD.sub (ws' := (wM N_x N_da N_ma N_ha N_ho N_ti N_be N_te N_ch J_da J_ma J_ha J_ho J_ti J_be J_te J_ch n_da n_ma n_ha n_ho n_ti n_be n_te n_ch n_up n_fu n_tm n_tc)) [8, 9, 10, 11, 12, 13, 14, 15, 16] (by decide) rfl
  have hKc := hK.sub (tys' := (tM J_da J_ma J_ha J_ho J_ti J_be J_te J_ch)) [4, 5, 6, 7, 8, 9, 10, 11] rfl
  have hFc := va_free (wc := (wM N_x N_da N_ma N_ha N_ho N_ti N_be N_te N_ch J_da J_ma J_ha J_ho J_ti J_be J_te J_ch n_da n_ma n_ha n_ho n_ti n_be n_te n_ch n_up n_fu n_tm n_tc)) hD hS hA [8, 9, 10, 11, 12, 13, 14, 15, 16] rfl
  refine va_calli (va_runV (As := [.int (xs (nI i + (1 : Int32)).toNatClampNeg)]) (rest := [.int r]) ⟨hx, hb, hml, hown, hts⟩ (k_X5_unlink l dC dI N_x N_da N_ma N_ha N_ho N_ti N_be N_te N_ch J_da J_ma J_ha J_ho J_ti J_be J_te J_ch n_da n_ma n_ha n_ho n_ti n_be n_te n_ch n_up n_fu n_tm n_tc H_X4.size (xs (nI i + (1 : Int32)).toNatClampNeg) _ _  e5) (cwV 1 hts gL_law_X5_unlink rfl rfl rfl (by decide +kernel) ⟨Nat.le_of_ble_eq_true rfl, Nat.le_of_ble_eq_true rfl⟩) ⟨w_blW, va_recv hKc hPc (ci := 3) (q0 := 0) rfl rfl, fun U hU hW => ⟨rfl, by rw [hU], by rw [hU]; exact hPc, va_K.moved hW.alike hKc, hDc.weaken (fun _ _ _ _ => trivial)⟩⟩ rfl rfl hl.1 rfl (lv_room (Nat.le_of_ble_eq_true rfl)) dL_law_187 ⟨Nat.le_of_ble_eq_true rfl, Nat.le_of_ble_eq_true rfl⟩) hS (fun q _ h => hFc q h) hFc (fun _ _ t H_X5 locs_X5 ht hvm hw hB hz1 hk1 hS => ?_)
  subst hw
  refine W.widen (k := 17) (n := 1343) (Nat.le_of_ble_eq_true rfl) (Nat.le_of_ble_eq_true rfl) ?_
  obtain ⟨hP1, hD1⟩ := hB
  rw [ht] at hP1
  obtain ⟨hP, hD⟩ := va_join (wr := (wB A_x A_d A_mh A_jh A_ha A_da A_ma A_ja K_ha K_da K_ma K_ja b_ha b_da u_ma b_ja b_up b_fu)) (w1 := (wM N_x N_da N_ma N_ha N_ho N_ti N_be N_te N_ch J_da J_ma J_ha J_ho J_ti J_be J_te J_ch n_da v_ma n_ha n_ho n_ti n_be n_te n_ch n_up n_fu n_tm n_tc)) hP hD [8, 9, 10, 11, 12, 13, 14, 15, 16] [0, 1, 2, 3, 4, 5, 6, 7] rfl rfl (by decide) (by decide) hk1 hFc hP1 hD1
  have hP : va_P (dC, dI) vwCl ((wB A_x A_d A_mh A_jh A_ha A_da A_ma A_ja K_ha K_da K_ma K_ja b_ha b_da u_ma b_ja b_up b_fu) ++ (wM N_x N_da N_ma N_ha N_ho N_ti N_be N_te N_ch J_da J_ma J_ha J_ho J_ti J_be J_te J_ch n_da v_ma n_ha n_ho n_ti n_be n_te n_ch n_up n_fu n_tm n_tc)) H_X5 := hP
  have hD : va_D (fun q : Nat => s.heap.size ≤ q) ((wB A_x A_d A_mh A_jh A_ha A_da A_ma A_ja K_ha K_da K_ma K_ja b_ha b_da u_ma b_ja b_up b_fu) ++ (wM N_x N_da N_ma N_ha N_ho N_ti N_be N_te N_ch J_da J_ma J_ha J_ho J_ti J_be J_te J_ch n_da v_ma n_ha n_ho n_ti n_be n_te n_ch n_up n_fu n_tm n_tc)) := hD
  refine lv_icmp_eq (tgt := 636) hx hb dL_law_190 (by decide) (fun _ => ?_) (fun cx => absurd rfl cx)
  exact K b_ha b_da u_ma b_ja b_up b_fu n_da v_ma n_ha n_ho n_ti n_be n_te n_ch n_up n_fu n_tm n_tc R2 _ _ hP hD hS _ hl
set_option maxHeartbeats 4000000 in
set_option maxRecDepth 100000 in
theorem law_c3 {p : Program} {l : Launch} {e : Env} {s : State} {m : MethodId} {below : List Frame} {meth : Method} {c : Code} {dC : Nat → ClassId} {dI : Nat → Nat → Nat} {b L : Nat} {xs : Nat → Int32} (hL : L ≤ 256) (C0 : lw_At p s m meth c b L xs) {A_x A_d A_mh A_jh A_ha A_da A_ma A_ja N_x N_da N_ma N_ha N_ho N_ti N_be N_te N_ch : Nat} {K_ha K_da K_ma K_ja J_da J_ma J_ha J_ho J_ti J_be J_te J_ch : ClassId} {b_ha : Nat → Int32} {b_da : Nat → Int32} {b_ma : Nat → Int32} {b_ja : Nat → Int32} {b_up : Int32} {b_fu : Int32} {n_da : Nat → Int32} {n_ma : Nat → Int32} {n_ha : Nat → Int32} {n_ho : Nat → Int32} {n_ti : Nat → Int32} {n_be : Nat → Int32} {n_te : Nat → Int32} {n_ch : Nat → Int32} {n_up : Int32} {n_fu : Int32} {n_tm : Int32} {n_tc : Int32} {i : Nat} (hi : i + 4 ≤ L) (R : Rel b_ha b_da b_ma b_up b_fu n_da n_ma n_ha n_up n_fu) (H : Heap) (locs : List Loc) (hK : va_K (dC, dI) vwCl ((tB K_ha K_da K_ma K_ja) ++ (tM J_da J_ma J_ha J_ho J_ti J_be J_te J_ch)) s) (hP : va_P (dC, dI) vwCl ((wB A_x A_d A_mh A_jh A_ha A_da A_ma A_ja K_ha K_da K_ma K_ja b_ha b_da b_ma b_ja b_up b_fu) ++ (wM N_x N_da N_ma N_ha N_ho N_ti N_be N_te N_ch J_da J_ma J_ha J_ho J_ti J_be J_te J_ch n_da n_ma n_ha n_ho n_ti n_be n_te n_ch n_up n_fu n_tm n_tc)) H) (hD : va_D (fun q : Nat => s.heap.size ≤ q) ((wB A_x A_d A_mh A_jh A_ha A_da A_ma A_ja K_ha K_da K_ma K_ja b_ha b_da b_ma b_ja b_up b_fu) ++ (wM N_x N_da N_ma N_ha N_ho N_ti N_be N_te N_ch J_da J_ma J_ha J_ho J_ti J_be J_te J_ch n_da n_ma n_ha n_ho n_ti n_be n_te n_ch n_up n_fu n_tm n_tc))) (hS : va_S (fun q : Nat => s.heap.size ≤ q) s.heap H locs) (ls : Array Slot) (hl : lv_has ls 4 [(0, .ref b), (1, .ref A_x), (2, .ref N_x), (3, .int (nI i))])
    (K : ∀ (u_ha : Nat → Int32) (u_da : Nat → Int32) (u_ma : Nat → Int32) (u_ja : Nat → Int32) (u_up : Int32) (u_fu : Int32) (v_da : Nat → Int32) (v_ma : Nat → Int32) (v_ha : Nat → Int32) (v_ho : Nat → Int32) (v_ti : Nat → Int32) (v_be : Nat → Int32) (v_te : Nat → Int32) (v_ch : Nat → Int32) (v_up : Int32) (v_fu : Int32) (v_tm : Int32) (v_tc : Int32), Rel u_ha u_da u_ma u_up u_fu v_da v_ma v_ha v_up v_fu → ∀ (H : Heap) (locs : List Loc), va_P (dC, dI) vwCl ((wB A_x A_d A_mh A_jh A_ha A_da A_ma A_ja K_ha K_da K_ma K_ja u_ha u_da u_ma u_ja u_up u_fu) ++ (wM N_x N_da N_ma N_ha N_ho N_ti N_be N_te N_ch J_da J_ma J_ha J_ho J_ti J_be J_te J_ch v_da v_ma v_ha v_ho v_ti v_be v_te v_ch v_up v_fu v_tm v_tc)) H → va_D (fun q : Nat => s.heap.size ≤ q) ((wB A_x A_d A_mh A_jh A_ha A_da A_ma A_ja K_ha K_da K_ma K_ja u_ha u_da u_ma u_ja u_up u_fu) ++ (wM N_x N_da N_ma N_ha N_ho N_ti N_be N_te N_ch J_da J_ma J_ha J_ho J_ti J_be J_te J_ch v_da v_ma v_ha v_ho v_ti v_be v_te v_ch v_up v_fu v_tm v_tc)) → va_S (fun q : Nat => s.heap.size ≤ q) s.heap H locs → ∀ (ls : Array Slot), lv_has ls 4 [(0, .ref b), (1, .ref A_x), (2, .ref N_x), (3, .int (nI i))] → W p l e room_1 s m #[Value.ref b] below meth c H locs 17 1343 (lw_Z below #[Value.ref b] s) (F0 m 636 ls [])) : W p l e room_1 s m #[Value.ref b] below meth c H locs 17 1343 (lw_Z below #[Value.ref b] s) (F0 m 195 ls []) := by
  obtain ⟨hx, hb, hr, hml, hown, hts0, hX, hbl, hlocks, hgv⟩ := C0
  have hts : ∀ w ∈ wsL_law, w.before #[Value.ref b] s = true := fun w h => hts0 w (wsL_law_in w h)
  have hA : ∀ q : Nat, s.heap.size ≤ q → (fun q : Nat => s.heap.size ≤ q) q := fun _ h => h
  have hbA : ¬ (fun q : Nat => s.heap.size ≤ q) b := Nat.not_le.mpr hbl
  have hown : s.vm.findClass RL = some m.cls := hown
  have hin1 : vp_in (nI i + (1 : Int32)) L := vp_in_at (nI_add i 1) (by omega) (by omega)
  obtain ⟨r, u_ha, v_ha, e4, e5, R2⟩ := st_open  R (xs (nI i + (1 : Int32)).toNatClampNeg)
  refine lv_aload_n hx hb dL_law_195 rfl (lv_at hl 1 rfl) ?_
  refine lv_aload_n hx hb dL_law_196 rfl (lv_at hl 0 rfl) ?_
  refine lv_iload_n hx hb dL_law_197 rfl (lv_at hl 3 rfl) ?_
  refine lv_iconst (v := 1) hx hb dL_law_198 (by decide) ?_
  refine lv_iadd hx hb dL_law_199 ?_
  refine va_sld hx hb hX hbl hbA hS hin1 dL_law_200 ?_
  have hPc := hP.sub (ws' := (wB A_x A_d A_mh A_jh A_ha A_da A_ma A_ja K_ha K_da K_ma K_ja b_ha b_da b_ma b_ja b_up b_fu)) [0, 1, 2, 3, 4, 5, 6, 7] rfl
  have hDc := hD.sub (ws' := (wB A_x A_d A_mh A_jh A_ha A_da A_ma A_ja K_ha K_da K_ma K_ja b_ha b_da b_ma b_ja b_up b_fu)) [0, 1, 2, 3, 4, 5, 6, 7] (by decide) rfl
  have hKc := hK.sub (tys' := (tB K_ha K_da K_ma K_ja)) [0, 1, 2, 3] rfl
  have hFc := va_free (wc := (wB A_x A_d A_mh A_jh A_ha A_da A_ma A_ja K_ha K_da K_ma K_ja b_ha b_da b_ma b_ja b_up b_fu)) hD hS hA [0, 1, 2, 3, 4, 5, 6, 7] rfl
  refine va_calli (va_runV (As := [.int (xs (nI i + (1 : Int32)).toNatClampNeg)]) (rest := []) ⟨hx, hb, hml, hown, hts⟩ (k_X4_open l dC dI A_x A_d A_mh A_jh A_ha A_da A_ma A_ja K_ha K_da K_ma K_ja b_ha b_da b_ma b_ja b_up b_fu H.size (xs (nI i + (1 : Int32)).toNatClampNeg) _ _  e4) (cwV 1 hts gL_law_X4_open rfl rfl rfl (by decide +kernel) ⟨Nat.le_of_ble_eq_true rfl, Nat.le_of_ble_eq_true rfl⟩) ⟨w_blW, va_recv hKc hPc (ci := 2) (q0 := 0) rfl rfl, fun U hU hW => ⟨rfl, by rw [hU], by rw [hU]; exact hPc, va_K.moved hW.alike hKc, hDc.weaken (fun _ _ _ _ => trivial)⟩⟩ rfl rfl hl.1 rfl (lv_room (Nat.le_of_ble_eq_true rfl)) dL_law_201 ⟨Nat.le_of_ble_eq_true rfl, Nat.le_of_ble_eq_true rfl⟩) hS (fun q _ h => hFc q h) hFc (fun _ _ t H_X4 locs_X4 ht hvm hw hB hz1 hk1 hS => ?_)
  subst hw
  refine W.widen (k := 17) (n := 1343) (Nat.le_of_ble_eq_true rfl) (Nat.le_of_ble_eq_true rfl) ?_
  obtain ⟨hP1, hD1⟩ := hB
  rw [ht] at hP1
  obtain ⟨hP, hD⟩ := va_join (wr := (wM N_x N_da N_ma N_ha N_ho N_ti N_be N_te N_ch J_da J_ma J_ha J_ho J_ti J_be J_te J_ch n_da n_ma n_ha n_ho n_ti n_be n_te n_ch n_up n_fu n_tm n_tc)) (w1 := (wB A_x A_d A_mh A_jh A_ha A_da A_ma A_ja K_ha K_da K_ma K_ja u_ha b_da b_ma b_ja b_up b_fu)) hP hD [0, 1, 2, 3, 4, 5, 6, 7] [8, 9, 10, 11, 12, 13, 14, 15, 16] rfl rfl (by decide) (by decide) hk1 hFc hP1 hD1
  have hP : va_P (dC, dI) vwCl ((wB A_x A_d A_mh A_jh A_ha A_da A_ma A_ja K_ha K_da K_ma K_ja u_ha b_da b_ma b_ja b_up b_fu) ++ (wM N_x N_da N_ma N_ha N_ho N_ti N_be N_te N_ch J_da J_ma J_ha J_ho J_ti J_be J_te J_ch n_da n_ma n_ha n_ho n_ti n_be n_te n_ch n_up n_fu n_tm n_tc)) H_X4 := hP.sub [9, 10, 11, 12, 13, 14, 15, 16, 0, 1, 2, 3, 4, 5, 6, 7, 8] rfl
  have hD : va_D (fun q : Nat => s.heap.size ≤ q) ((wB A_x A_d A_mh A_jh A_ha A_da A_ma A_ja K_ha K_da K_ma K_ja u_ha b_da b_ma b_ja b_up b_fu) ++ (wM N_x N_da N_ma N_ha N_ho N_ti N_be N_te N_ch J_da J_ma J_ha J_ho J_ti J_be J_te J_ch n_da n_ma n_ha n_ho n_ti n_be n_te n_ch n_up n_fu n_tm n_tc)) := hD.sub [9, 10, 11, 12, 13, 14, 15, 16, 0, 1, 2, 3, 4, 5, 6, 7, 8] (by decide) rfl
  refine lv_aload_n hx hb dL_law_204 rfl (lv_at hl 2 rfl) ?_
  refine lv_aload_n hx hb dL_law_205 rfl (lv_at hl 0 rfl) ?_
  refine lv_iload_n hx hb dL_law_206 rfl (lv_at hl 3 rfl) ?_
  refine lv_iconst (v := 1) hx hb dL_law_207 (by decide) ?_
  refine lv_iadd hx hb dL_law_208 ?_
  refine va_sld hx hb hX hbl hbA hS hin1 dL_law_209 ?_
  have hPc := hP.sub (ws' := (wM N_x N_da N_ma N_ha N_ho N_ti N_be N_te N_ch J_da J_ma J_ha J_ho J_ti J_be J_te J_ch n_da n_ma n_ha n_ho n_ti n_be n_te n_ch n_up n_fu n_tm n_tc)) [8, 9, 10, 11, 12, 13, 14, 15, 16] rfl
  have hDc := hD.sub (ws' := (wM N_x N_da N_ma N_ha N_ho N_ti N_be N_te N_ch J_da J_ma J_ha J_ho J_ti J_be J_te J_ch n_da n_ma n_ha n_ho n_ti n_be n_te n_ch n_up n_fu n_tm n_tc)) [8, 9, 10, 11, 12, 13, 14, 15, 16] (by decide) rfl
  have hKc := hK.sub (tys' := (tM J_da J_ma J_ha J_ho J_ti J_be J_te J_ch)) [4, 5, 6, 7, 8, 9, 10, 11] rfl
  have hFc := va_free (wc := (wM N_x N_da N_ma N_ha N_ho N_ti N_be N_te N_ch J_da J_ma J_ha J_ho J_ti J_be J_te J_ch n_da n_ma n_ha n_ho n_ti n_be n_te n_ch n_up n_fu n_tm n_tc)) hD hS hA [8, 9, 10, 11, 12, 13, 14, 15, 16] rfl
  refine va_calli (va_runV (As := [.int (xs (nI i + (1 : Int32)).toNatClampNeg)]) (rest := [.int r]) ⟨hx, hb, hml, hown, hts⟩ (k_X5_open l dC dI N_x N_da N_ma N_ha N_ho N_ti N_be N_te N_ch J_da J_ma J_ha J_ho J_ti J_be J_te J_ch n_da n_ma n_ha n_ho n_ti n_be n_te n_ch n_up n_fu n_tm n_tc H_X4.size (xs (nI i + (1 : Int32)).toNatClampNeg) _ _  e5) (cwV 1 hts gL_law_X5_open rfl rfl rfl (by decide +kernel) ⟨Nat.le_of_ble_eq_true rfl, Nat.le_of_ble_eq_true rfl⟩) ⟨w_blW, va_recv hKc hPc (ci := 3) (q0 := 0) rfl rfl, fun U hU hW => ⟨rfl, by rw [hU], by rw [hU]; exact hPc, va_K.moved hW.alike hKc, hDc.weaken (fun _ _ _ _ => trivial)⟩⟩ rfl rfl hl.1 rfl (lv_room (Nat.le_of_ble_eq_true rfl)) dL_law_210 ⟨Nat.le_of_ble_eq_true rfl, Nat.le_of_ble_eq_true rfl⟩) hS (fun q _ h => hFc q h) hFc (fun _ _ t H_X5 locs_X5 ht hvm hw hB hz1 hk1 hS => ?_)
  subst hw
  refine W.widen (k := 17) (n := 1343) (Nat.le_of_ble_eq_true rfl) (Nat.le_of_ble_eq_true rfl) ?_
  obtain ⟨hP1, hD1⟩ := hB
  rw [ht] at hP1
  obtain ⟨hP, hD⟩ := va_join (wr := (wB A_x A_d A_mh A_jh A_ha A_da A_ma A_ja K_ha K_da K_ma K_ja u_ha b_da b_ma b_ja b_up b_fu)) (w1 := (wM N_x N_da N_ma N_ha N_ho N_ti N_be N_te N_ch J_da J_ma J_ha J_ho J_ti J_be J_te J_ch n_da n_ma v_ha n_ho n_ti n_be n_te n_ch n_up n_fu n_tm n_tc)) hP hD [8, 9, 10, 11, 12, 13, 14, 15, 16] [0, 1, 2, 3, 4, 5, 6, 7] rfl rfl (by decide) (by decide) hk1 hFc hP1 hD1
  have hP : va_P (dC, dI) vwCl ((wB A_x A_d A_mh A_jh A_ha A_da A_ma A_ja K_ha K_da K_ma K_ja u_ha b_da b_ma b_ja b_up b_fu) ++ (wM N_x N_da N_ma N_ha N_ho N_ti N_be N_te N_ch J_da J_ma J_ha J_ho J_ti J_be J_te J_ch n_da n_ma v_ha n_ho n_ti n_be n_te n_ch n_up n_fu n_tm n_tc)) H_X5 := hP
  have hD : va_D (fun q : Nat => s.heap.size ≤ q) ((wB A_x A_d A_mh A_jh A_ha A_da A_ma A_ja K_ha K_da K_ma K_ja u_ha b_da b_ma b_ja b_up b_fu) ++ (wM N_x N_da N_ma N_ha N_ho N_ti N_be N_te N_ch J_da J_ma J_ha J_ho J_ti J_be J_te J_ch n_da n_ma v_ha n_ho n_ti n_be n_te n_ch n_up n_fu n_tm n_tc)) := hD
  refine lv_icmp_eq (tgt := 636) hx hb dL_law_213 (by decide) (fun _ => ?_) (fun cx => absurd rfl cx)
  exact K u_ha b_da b_ma b_ja b_up b_fu n_da n_ma v_ha n_ho n_ti n_be n_te n_ch n_up n_fu n_tm n_tc R2 _ _ hP hD hS _ hl
set_option maxHeartbeats 4000000 in
set_option maxRecDepth 100000 in
theorem law_c4 {p : Program} {l : Launch} {e : Env} {s : State} {m : MethodId} {below : List Frame} {meth : Method} {c : Code} {dC : Nat → ClassId} {dI : Nat → Nat → Nat} {b L : Nat} {xs : Nat → Int32} (hL : L ≤ 256) (C0 : lw_At p s m meth c b L xs) {A_x A_d A_mh A_jh A_ha A_da A_ma A_ja N_x N_da N_ma N_ha N_ho N_ti N_be N_te N_ch : Nat} {K_ha K_da K_ma K_ja J_da J_ma J_ha J_ho J_ti J_be J_te J_ch : ClassId} {b_ha : Nat → Int32} {b_da : Nat → Int32} {b_ma : Nat → Int32} {b_ja : Nat → Int32} {b_up : Int32} {b_fu : Int32} {n_da : Nat → Int32} {n_ma : Nat → Int32} {n_ha : Nat → Int32} {n_ho : Nat → Int32} {n_ti : Nat → Int32} {n_be : Nat → Int32} {n_te : Nat → Int32} {n_ch : Nat → Int32} {n_up : Int32} {n_fu : Int32} {n_tm : Int32} {n_tc : Int32} {i : Nat} (hi : i + 4 ≤ L) (R : Rel b_ha b_da b_ma b_up b_fu n_da n_ma n_ha n_up n_fu) (H : Heap) (locs : List Loc) (hK : va_K (dC, dI) vwCl ((tB K_ha K_da K_ma K_ja) ++ (tM J_da J_ma J_ha J_ho J_ti J_be J_te J_ch)) s) (hP : va_P (dC, dI) vwCl ((wB A_x A_d A_mh A_jh A_ha A_da A_ma A_ja K_ha K_da K_ma K_ja b_ha b_da b_ma b_ja b_up b_fu) ++ (wM N_x N_da N_ma N_ha N_ho N_ti N_be N_te N_ch J_da J_ma J_ha J_ho J_ti J_be J_te J_ch n_da n_ma n_ha n_ho n_ti n_be n_te n_ch n_up n_fu n_tm n_tc)) H) (hD : va_D (fun q : Nat => s.heap.size ≤ q) ((wB A_x A_d A_mh A_jh A_ha A_da A_ma A_ja K_ha K_da K_ma K_ja b_ha b_da b_ma b_ja b_up b_fu) ++ (wM N_x N_da N_ma N_ha N_ho N_ti N_be N_te N_ch J_da J_ma J_ha J_ho J_ti J_be J_te J_ch n_da n_ma n_ha n_ho n_ti n_be n_te n_ch n_up n_fu n_tm n_tc))) (hS : va_S (fun q : Nat => s.heap.size ≤ q) s.heap H locs) (ls : Array Slot) (hl : lv_has ls 4 [(0, .ref b), (1, .ref A_x), (2, .ref N_x), (3, .int (nI i))])
    (K : ∀ (u_ha : Nat → Int32) (u_da : Nat → Int32) (u_ma : Nat → Int32) (u_ja : Nat → Int32) (u_up : Int32) (u_fu : Int32) (v_da : Nat → Int32) (v_ma : Nat → Int32) (v_ha : Nat → Int32) (v_ho : Nat → Int32) (v_ti : Nat → Int32) (v_be : Nat → Int32) (v_te : Nat → Int32) (v_ch : Nat → Int32) (v_up : Int32) (v_fu : Int32) (v_tm : Int32) (v_tc : Int32), Rel u_ha u_da u_ma u_up u_fu v_da v_ma v_ha v_up v_fu → ∀ (H : Heap) (locs : List Loc), va_P (dC, dI) vwCl ((wB A_x A_d A_mh A_jh A_ha A_da A_ma A_ja K_ha K_da K_ma K_ja u_ha u_da u_ma u_ja u_up u_fu) ++ (wM N_x N_da N_ma N_ha N_ho N_ti N_be N_te N_ch J_da J_ma J_ha J_ho J_ti J_be J_te J_ch v_da v_ma v_ha v_ho v_ti v_be v_te v_ch v_up v_fu v_tm v_tc)) H → va_D (fun q : Nat => s.heap.size ≤ q) ((wB A_x A_d A_mh A_jh A_ha A_da A_ma A_ja K_ha K_da K_ma K_ja u_ha u_da u_ma u_ja u_up u_fu) ++ (wM N_x N_da N_ma N_ha N_ho N_ti N_be N_te N_ch J_da J_ma J_ha J_ho J_ti J_be J_te J_ch v_da v_ma v_ha v_ho v_ti v_be v_te v_ch v_up v_fu v_tm v_tc)) → va_S (fun q : Nat => s.heap.size ≤ q) s.heap H locs → ∀ (ls : Array Slot), lv_has ls 4 [(0, .ref b), (1, .ref A_x), (2, .ref N_x), (3, .int (nI i))] → W p l e room_1 s m #[Value.ref b] below meth c H locs 17 1343 (lw_Z below #[Value.ref b] s) (F0 m 636 ls [])) : W p l e room_1 s m #[Value.ref b] below meth c H locs 17 1343 (lw_Z below #[Value.ref b] s) (F0 m 218 ls []) := by
  obtain ⟨hx, hb, hr, hml, hown, hts0, hX, hbl, hlocks, hgv⟩ := C0
  have hts : ∀ w ∈ wsL_law, w.before #[Value.ref b] s = true := fun w h => hts0 w (wsL_law_in w h)
  have hA : ∀ q : Nat, s.heap.size ≤ q → (fun q : Nat => s.heap.size ≤ q) q := fun _ h => h
  have hbA : ¬ (fun q : Nat => s.heap.size ≤ q) b := Nat.not_le.mpr hbl
  have hown : s.vm.findClass RL = some m.cls := hown
  have hin1 : vp_in (nI i + (1 : Int32)) L := vp_in_at (nI_add i 1) (by omega) (by omega)
  obtain ⟨r, u_ha, v_ha, e4, e5, R2⟩ := st_close  R (xs (nI i + (1 : Int32)).toNatClampNeg)
  refine lv_aload_n hx hb dL_law_218 rfl (lv_at hl 1 rfl) ?_
  refine lv_aload_n hx hb dL_law_219 rfl (lv_at hl 0 rfl) ?_
  refine lv_iload_n hx hb dL_law_220 rfl (lv_at hl 3 rfl) ?_
  refine lv_iconst (v := 1) hx hb dL_law_221 (by decide) ?_
  refine lv_iadd hx hb dL_law_222 ?_
  refine va_sld hx hb hX hbl hbA hS hin1 dL_law_223 ?_
  have hPc := hP.sub (ws' := (wB A_x A_d A_mh A_jh A_ha A_da A_ma A_ja K_ha K_da K_ma K_ja b_ha b_da b_ma b_ja b_up b_fu)) [0, 1, 2, 3, 4, 5, 6, 7] rfl
  have hDc := hD.sub (ws' := (wB A_x A_d A_mh A_jh A_ha A_da A_ma A_ja K_ha K_da K_ma K_ja b_ha b_da b_ma b_ja b_up b_fu)) [0, 1, 2, 3, 4, 5, 6, 7] (by decide) rfl
  have hKc := hK.sub (tys' := (tB K_ha K_da K_ma K_ja)) [0, 1, 2, 3] rfl
  have hFc := va_free (wc := (wB A_x A_d A_mh A_jh A_ha A_da A_ma A_ja K_ha K_da K_ma K_ja b_ha b_da b_ma b_ja b_up b_fu)) hD hS hA [0, 1, 2, 3, 4, 5, 6, 7] rfl
  refine va_calli (va_runV (As := [.int (xs (nI i + (1 : Int32)).toNatClampNeg)]) (rest := []) ⟨hx, hb, hml, hown, hts⟩ (k_X4_close l dC dI A_x A_d A_mh A_jh A_ha A_da A_ma A_ja K_ha K_da K_ma K_ja b_ha b_da b_ma b_ja b_up b_fu H.size (xs (nI i + (1 : Int32)).toNatClampNeg) _ _  e4) (cwV 1 hts gL_law_X4_close rfl rfl rfl (by decide +kernel) ⟨Nat.le_of_ble_eq_true rfl, Nat.le_of_ble_eq_true rfl⟩) ⟨w_blW, va_recv hKc hPc (ci := 2) (q0 := 0) rfl rfl, fun U hU hW => ⟨rfl, by rw [hU], by rw [hU]; exact hPc, va_K.moved hW.alike hKc, hDc.weaken (fun _ _ _ _ => trivial)⟩⟩ rfl rfl hl.1 rfl (lv_room (Nat.le_of_ble_eq_true rfl)) dL_law_224 ⟨Nat.le_of_ble_eq_true rfl, Nat.le_of_ble_eq_true rfl⟩) hS (fun q _ h => hFc q h) hFc (fun _ _ t H_X4 locs_X4 ht hvm hw hB hz1 hk1 hS => ?_)
  subst hw
  refine W.widen (k := 17) (n := 1343) (Nat.le_of_ble_eq_true rfl) (Nat.le_of_ble_eq_true rfl) ?_
  obtain ⟨hP1, hD1⟩ := hB
  rw [ht] at hP1
  obtain ⟨hP, hD⟩ := va_join (wr := (wM N_x N_da N_ma N_ha N_ho N_ti N_be N_te N_ch J_da J_ma J_ha J_ho J_ti J_be J_te J_ch n_da n_ma n_ha n_ho n_ti n_be n_te n_ch n_up n_fu n_tm n_tc)) (w1 := (wB A_x A_d A_mh A_jh A_ha A_da A_ma A_ja K_ha K_da K_ma K_ja u_ha b_da b_ma b_ja b_up b_fu)) hP hD [0, 1, 2, 3, 4, 5, 6, 7] [8, 9, 10, 11, 12, 13, 14, 15, 16] rfl rfl (by decide) (by decide) hk1 hFc hP1 hD1
  have hP : va_P (dC, dI) vwCl ((wB A_x A_d A_mh A_jh A_ha A_da A_ma A_ja K_ha K_da K_ma K_ja u_ha b_da b_ma b_ja b_up b_fu) ++ (wM N_x N_da N_ma N_ha N_ho N_ti N_be N_te N_ch J_da J_ma J_ha J_ho J_ti J_be J_te J_ch n_da n_ma n_ha n_ho n_ti n_be n_te n_ch n_up n_fu n_tm n_tc)) H_X4 := hP.sub [9, 10, 11, 12, 13, 14, 15, 16, 0, 1, 2, 3, 4, 5, 6, 7, 8] rfl
  have hD : va_D (fun q : Nat => s.heap.size ≤ q) ((wB A_x A_d A_mh A_jh A_ha A_da A_ma A_ja K_ha K_da K_ma K_ja u_ha b_da b_ma b_ja b_up b_fu) ++ (wM N_x N_da N_ma N_ha N_ho N_ti N_be N_te N_ch J_da J_ma J_ha J_ho J_ti J_be J_te J_ch n_da n_ma n_ha n_ho n_ti n_be n_te n_ch n_up n_fu n_tm n_tc)) := hD.sub [9, 10, 11, 12, 13, 14, 15, 16, 0, 1, 2, 3, 4, 5, 6, 7, 8] (by decide) rfl
  refine lv_aload_n hx hb dL_law_227 rfl (lv_at hl 2 rfl) ?_
  refine lv_aload_n hx hb dL_law_228 rfl (lv_at hl 0 rfl) ?_
  refine lv_iload_n hx hb dL_law_229 rfl (lv_at hl 3 rfl) ?_
  refine lv_iconst (v := 1) hx hb dL_law_230 (by decide) ?_
  refine lv_iadd hx hb dL_law_231 ?_
  refine va_sld hx hb hX hbl hbA hS hin1 dL_law_232 ?_
  have hPc := hP.sub (ws' := (wM N_x N_da N_ma N_ha N_ho N_ti N_be N_te N_ch J_da J_ma J_ha J_ho J_ti J_be J_te J_ch n_da n_ma n_ha n_ho n_ti n_be n_te n_ch n_up n_fu n_tm n_tc)) [8, 9, 10, 11, 12, 13, 14, 15, 16] rfl
  have hDc := hD.sub (ws' := (wM N_x N_da N_ma N_ha N_ho N_ti N_be N_te N_ch J_da J_ma J_ha J_ho J_ti J_be J_te J_ch n_da n_ma n_ha n_ho n_ti n_be n_te n_ch n_up n_fu n_tm n_tc)) [8, 9, 10, 11, 12, 13, 14, 15, 16] (by decide) rfl
  have hKc := hK.sub (tys' := (tM J_da J_ma J_ha J_ho J_ti J_be J_te J_ch)) [4, 5, 6, 7, 8, 9, 10, 11] rfl
  have hFc := va_free (wc := (wM N_x N_da N_ma N_ha N_ho N_ti N_be N_te N_ch J_da J_ma J_ha J_ho J_ti J_be J_te J_ch n_da n_ma n_ha n_ho n_ti n_be n_te n_ch n_up n_fu n_tm n_tc)) hD hS hA [8, 9, 10, 11, 12, 13, 14, 15, 16] rfl
  refine va_calli (va_runV (As := [.int (xs (nI i + (1 : Int32)).toNatClampNeg)]) (rest := [.int r]) ⟨hx, hb, hml, hown, hts⟩ (k_X5_close l dC dI N_x N_da N_ma N_ha N_ho N_ti N_be N_te N_ch J_da J_ma J_ha J_ho J_ti J_be J_te J_ch n_da n_ma n_ha n_ho n_ti n_be n_te n_ch n_up n_fu n_tm n_tc H_X4.size (xs (nI i + (1 : Int32)).toNatClampNeg) _ _  e5) (cwV 1 hts gL_law_X5_close rfl rfl rfl (by decide +kernel) ⟨Nat.le_of_ble_eq_true rfl, Nat.le_of_ble_eq_true rfl⟩) ⟨w_blW, va_recv hKc hPc (ci := 3) (q0 := 0) rfl rfl, fun U hU hW => ⟨rfl, by rw [hU], by rw [hU]; exact hPc, va_K.moved hW.alike hKc, hDc.weaken (fun _ _ _ _ => trivial)⟩⟩ rfl rfl hl.1 rfl (lv_room (Nat.le_of_ble_eq_true rfl)) dL_law_233 ⟨Nat.le_of_ble_eq_true rfl, Nat.le_of_ble_eq_true rfl⟩) hS (fun q _ h => hFc q h) hFc (fun _ _ t H_X5 locs_X5 ht hvm hw hB hz1 hk1 hS => ?_)
  subst hw
  refine W.widen (k := 17) (n := 1343) (Nat.le_of_ble_eq_true rfl) (Nat.le_of_ble_eq_true rfl) ?_
  obtain ⟨hP1, hD1⟩ := hB
  rw [ht] at hP1
  obtain ⟨hP, hD⟩ := va_join (wr := (wB A_x A_d A_mh A_jh A_ha A_da A_ma A_ja K_ha K_da K_ma K_ja u_ha b_da b_ma b_ja b_up b_fu)) (w1 := (wM N_x N_da N_ma N_ha N_ho N_ti N_be N_te N_ch J_da J_ma J_ha J_ho J_ti J_be J_te J_ch n_da n_ma v_ha n_ho n_ti n_be n_te n_ch n_up n_fu n_tm n_tc)) hP hD [8, 9, 10, 11, 12, 13, 14, 15, 16] [0, 1, 2, 3, 4, 5, 6, 7] rfl rfl (by decide) (by decide) hk1 hFc hP1 hD1
  have hP : va_P (dC, dI) vwCl ((wB A_x A_d A_mh A_jh A_ha A_da A_ma A_ja K_ha K_da K_ma K_ja u_ha b_da b_ma b_ja b_up b_fu) ++ (wM N_x N_da N_ma N_ha N_ho N_ti N_be N_te N_ch J_da J_ma J_ha J_ho J_ti J_be J_te J_ch n_da n_ma v_ha n_ho n_ti n_be n_te n_ch n_up n_fu n_tm n_tc)) H_X5 := hP
  have hD : va_D (fun q : Nat => s.heap.size ≤ q) ((wB A_x A_d A_mh A_jh A_ha A_da A_ma A_ja K_ha K_da K_ma K_ja u_ha b_da b_ma b_ja b_up b_fu) ++ (wM N_x N_da N_ma N_ha N_ho N_ti N_be N_te N_ch J_da J_ma J_ha J_ho J_ti J_be J_te J_ch n_da n_ma v_ha n_ho n_ti n_be n_te n_ch n_up n_fu n_tm n_tc)) := hD
  refine lv_icmp_eq (tgt := 636) hx hb dL_law_236 (by decide) (fun _ => ?_) (fun cx => absurd rfl cx)
  exact K u_ha b_da b_ma b_ja b_up b_fu n_da n_ma v_ha n_ho n_ti n_be n_te n_ch n_up n_fu n_tm n_tc R2 _ _ hP hD hS _ hl
set_option maxHeartbeats 4000000 in
set_option maxRecDepth 100000 in
theorem law_c5 {p : Program} {l : Launch} {e : Env} {s : State} {m : MethodId} {below : List Frame} {meth : Method} {c : Code} {dC : Nat → ClassId} {dI : Nat → Nat → Nat} {b L : Nat} {xs : Nat → Int32} (hL : L ≤ 256) (C0 : lw_At p s m meth c b L xs) {A_x A_d A_mh A_jh A_ha A_da A_ma A_ja N_x N_da N_ma N_ha N_ho N_ti N_be N_te N_ch : Nat} {K_ha K_da K_ma K_ja J_da J_ma J_ha J_ho J_ti J_be J_te J_ch : ClassId} {b_ha : Nat → Int32} {b_da : Nat → Int32} {b_ma : Nat → Int32} {b_ja : Nat → Int32} {b_up : Int32} {b_fu : Int32} {n_da : Nat → Int32} {n_ma : Nat → Int32} {n_ha : Nat → Int32} {n_ho : Nat → Int32} {n_ti : Nat → Int32} {n_be : Nat → Int32} {n_te : Nat → Int32} {n_ch : Nat → Int32} {n_up : Int32} {n_fu : Int32} {n_tm : Int32} {n_tc : Int32} {i : Nat} (hi : i + 4 ≤ L) (R : Rel b_ha b_da b_ma b_up b_fu n_da n_ma n_ha n_up n_fu) (H : Heap) (locs : List Loc) (hK : va_K (dC, dI) vwCl ((tB K_ha K_da K_ma K_ja) ++ (tM J_da J_ma J_ha J_ho J_ti J_be J_te J_ch)) s) (hP : va_P (dC, dI) vwCl ((wB A_x A_d A_mh A_jh A_ha A_da A_ma A_ja K_ha K_da K_ma K_ja b_ha b_da b_ma b_ja b_up b_fu) ++ (wM N_x N_da N_ma N_ha N_ho N_ti N_be N_te N_ch J_da J_ma J_ha J_ho J_ti J_be J_te J_ch n_da n_ma n_ha n_ho n_ti n_be n_te n_ch n_up n_fu n_tm n_tc)) H) (hD : va_D (fun q : Nat => s.heap.size ≤ q) ((wB A_x A_d A_mh A_jh A_ha A_da A_ma A_ja K_ha K_da K_ma K_ja b_ha b_da b_ma b_ja b_up b_fu) ++ (wM N_x N_da N_ma N_ha N_ho N_ti N_be N_te N_ch J_da J_ma J_ha J_ho J_ti J_be J_te J_ch n_da n_ma n_ha n_ho n_ti n_be n_te n_ch n_up n_fu n_tm n_tc))) (hS : va_S (fun q : Nat => s.heap.size ≤ q) s.heap H locs) (ls : Array Slot) (hl : lv_has ls 4 [(0, .ref b), (1, .ref A_x), (2, .ref N_x), (3, .int (nI i))])
    (K : ∀ (u_ha : Nat → Int32) (u_da : Nat → Int32) (u_ma : Nat → Int32) (u_ja : Nat → Int32) (u_up : Int32) (u_fu : Int32) (v_da : Nat → Int32) (v_ma : Nat → Int32) (v_ha : Nat → Int32) (v_ho : Nat → Int32) (v_ti : Nat → Int32) (v_be : Nat → Int32) (v_te : Nat → Int32) (v_ch : Nat → Int32) (v_up : Int32) (v_fu : Int32) (v_tm : Int32) (v_tc : Int32), Rel u_ha u_da u_ma u_up u_fu v_da v_ma v_ha v_up v_fu → ∀ (H : Heap) (locs : List Loc), va_P (dC, dI) vwCl ((wB A_x A_d A_mh A_jh A_ha A_da A_ma A_ja K_ha K_da K_ma K_ja u_ha u_da u_ma u_ja u_up u_fu) ++ (wM N_x N_da N_ma N_ha N_ho N_ti N_be N_te N_ch J_da J_ma J_ha J_ho J_ti J_be J_te J_ch v_da v_ma v_ha v_ho v_ti v_be v_te v_ch v_up v_fu v_tm v_tc)) H → va_D (fun q : Nat => s.heap.size ≤ q) ((wB A_x A_d A_mh A_jh A_ha A_da A_ma A_ja K_ha K_da K_ma K_ja u_ha u_da u_ma u_ja u_up u_fu) ++ (wM N_x N_da N_ma N_ha N_ho N_ti N_be N_te N_ch J_da J_ma J_ha J_ho J_ti J_be J_te J_ch v_da v_ma v_ha v_ho v_ti v_be v_te v_ch v_up v_fu v_tm v_tc)) → va_S (fun q : Nat => s.heap.size ≤ q) s.heap H locs → ∀ (ls : Array Slot), lv_has ls 4 [(0, .ref b), (1, .ref A_x), (2, .ref N_x), (3, .int (nI i))] → W p l e room_1 s m #[Value.ref b] below meth c H locs 17 1343 (lw_Z below #[Value.ref b] s) (F0 m 636 ls [])) : W p l e room_1 s m #[Value.ref b] below meth c H locs 17 1343 (lw_Z below #[Value.ref b] s) (F0 m 241 ls []) := by
  obtain ⟨hx, hb, hr, hml, hown, hts0, hX, hbl, hlocks, hgv⟩ := C0
  have hts : ∀ w ∈ wsL_law, w.before #[Value.ref b] s = true := fun w h => hts0 w (wsL_law_in w h)
  have hA : ∀ q : Nat, s.heap.size ≤ q → (fun q : Nat => s.heap.size ≤ q) q := fun _ h => h
  have hbA : ¬ (fun q : Nat => s.heap.size ≤ q) b := Nat.not_le.mpr hbl
  have hown : s.vm.findClass RL = some m.cls := hown
  have hin1 : vp_in (nI i + (1 : Int32)) L := vp_in_at (nI_add i 1) (by omega) (by omega)
  have hin2 : vp_in (nI i + (2 : Int32)) L := vp_in_at (nI_add i 2) (by omega) (by omega)
  have hin3 : vp_in (nI i + (3 : Int32)) L := vp_in_at (nI_add i 3) (by omega) (by omega)
  obtain ⟨r, u_ma, v_ma, v_te, v_tm, v_tc, e4, e5, R2⟩ := st_write (n_te := n_te) (n_tm := n_tm) (n_tc := n_tc) R (xs (nI i + (1 : Int32)).toNatClampNeg) (xs (nI i + (2 : Int32)).toNatClampNeg) (xs (nI i + (3 : Int32)).toNatClampNeg)
  refine lv_aload_n hx hb dL_law_241 rfl (lv_at hl 1 rfl) ?_
  refine lv_aload_n hx hb dL_law_242 rfl (lv_at hl 0 rfl) ?_
  refine lv_iload_n hx hb dL_law_243 rfl (lv_at hl 3 rfl) ?_
  refine lv_iconst (v := 1) hx hb dL_law_244 (by decide) ?_
  refine lv_iadd hx hb dL_law_245 ?_
  refine va_sld hx hb hX hbl hbA hS hin1 dL_law_246 ?_
  refine lv_aload_n hx hb dL_law_247 rfl (lv_at hl 0 rfl) ?_
  refine lv_iload_n hx hb dL_law_248 rfl (lv_at hl 3 rfl) ?_
  refine lv_iconst (v := 2) hx hb dL_law_249 (by decide) ?_
  refine lv_iadd hx hb dL_law_250 ?_
  refine va_sld hx hb hX hbl hbA hS hin2 dL_law_251 ?_
  refine lv_aload_n hx hb dL_law_252 rfl (lv_at hl 0 rfl) ?_
  refine lv_iload_n hx hb dL_law_253 rfl (lv_at hl 3 rfl) ?_
  refine lv_iconst (v := 3) hx hb dL_law_254 (by decide) ?_
  refine lv_iadd hx hb dL_law_255 ?_
  refine va_sld hx hb hX hbl hbA hS hin3 dL_law_256 ?_
  have hPc := hP.sub (ws' := (wB A_x A_d A_mh A_jh A_ha A_da A_ma A_ja K_ha K_da K_ma K_ja b_ha b_da b_ma b_ja b_up b_fu)) [0, 1, 2, 3, 4, 5, 6, 7] rfl
  have hDc := hD.sub (ws' := (wB A_x A_d A_mh A_jh A_ha A_da A_ma A_ja K_ha K_da K_ma K_ja b_ha b_da b_ma b_ja b_up b_fu)) [0, 1, 2, 3, 4, 5, 6, 7] (by decide) rfl
  have hKc := hK.sub (tys' := (tB K_ha K_da K_ma K_ja)) [0, 1, 2, 3] rfl
  have hFc := va_free (wc := (wB A_x A_d A_mh A_jh A_ha A_da A_ma A_ja K_ha K_da K_ma K_ja b_ha b_da b_ma b_ja b_up b_fu)) hD hS hA [0, 1, 2, 3, 4, 5, 6, 7] rfl
  refine va_calli (va_runV (As := [.int (xs (nI i + (1 : Int32)).toNatClampNeg), .int (xs (nI i + (2 : Int32)).toNatClampNeg), .int (xs (nI i + (3 : Int32)).toNatClampNeg)]) (rest := []) ⟨hx, hb, hml, hown, hts⟩ (k_X4_write l dC dI A_x A_d A_mh A_jh A_ha A_da A_ma A_ja K_ha K_da K_ma K_ja b_ha b_da b_ma b_ja b_up b_fu H.size (xs (nI i + (1 : Int32)).toNatClampNeg) (xs (nI i + (2 : Int32)).toNatClampNeg) (xs (nI i + (3 : Int32)).toNatClampNeg) _ _  e4) (cwV 3 hts gL_law_X4_write rfl rfl rfl (by decide +kernel) ⟨Nat.le_of_ble_eq_true rfl, Nat.le_of_ble_eq_true rfl⟩) ⟨w_blW, va_recv hKc hPc (ci := 2) (q0 := 0) rfl rfl, fun U hU hW => ⟨rfl, by rw [hU], by rw [hU]; exact hPc, va_K.moved hW.alike hKc, hDc.weaken (fun _ _ _ _ => trivial)⟩⟩ rfl rfl hl.1 rfl (lv_room (Nat.le_of_ble_eq_true rfl)) dL_law_257 ⟨Nat.le_of_ble_eq_true rfl, Nat.le_of_ble_eq_true rfl⟩) hS (fun q _ h => hFc q h) hFc (fun _ _ t H_X4 locs_X4 ht hvm hw hB hz1 hk1 hS => ?_)
  subst hw
  refine W.widen (k := 17) (n := 1343) (Nat.le_of_ble_eq_true rfl) (Nat.le_of_ble_eq_true rfl) ?_
  obtain ⟨hP1, hD1⟩ := hB
  rw [ht] at hP1
  obtain ⟨hP, hD⟩ := va_join (wr := (wM N_x N_da N_ma N_ha N_ho N_ti N_be N_te N_ch J_da J_ma J_ha J_ho J_ti J_be J_te J_ch n_da n_ma n_ha n_ho n_ti n_be n_te n_ch n_up n_fu n_tm n_tc)) (w1 := (wB A_x A_d A_mh A_jh A_ha A_da A_ma A_ja K_ha K_da K_ma K_ja b_ha b_da u_ma b_ja b_up b_fu)) hP hD [0, 1, 2, 3, 4, 5, 6, 7] [8, 9, 10, 11, 12, 13, 14, 15, 16] rfl rfl (by decide) (by decide) hk1 hFc hP1 hD1
  have hP : va_P (dC, dI) vwCl ((wB A_x A_d A_mh A_jh A_ha A_da A_ma A_ja K_ha K_da K_ma K_ja b_ha b_da u_ma b_ja b_up b_fu) ++ (wM N_x N_da N_ma N_ha N_ho N_ti N_be N_te N_ch J_da J_ma J_ha J_ho J_ti J_be J_te J_ch n_da n_ma n_ha n_ho n_ti n_be n_te n_ch n_up n_fu n_tm n_tc)) H_X4 := hP.sub [9, 10, 11, 12, 13, 14, 15, 16, 0, 1, 2, 3, 4, 5, 6, 7, 8] rfl
  have hD : va_D (fun q : Nat => s.heap.size ≤ q) ((wB A_x A_d A_mh A_jh A_ha A_da A_ma A_ja K_ha K_da K_ma K_ja b_ha b_da u_ma b_ja b_up b_fu) ++ (wM N_x N_da N_ma N_ha N_ho N_ti N_be N_te N_ch J_da J_ma J_ha J_ho J_ti J_be J_te J_ch n_da n_ma n_ha n_ho n_ti n_be n_te n_ch n_up n_fu n_tm n_tc)) := hD.sub [9, 10, 11, 12, 13, 14, 15, 16, 0, 1, 2, 3, 4, 5, 6, 7, 8] (by decide) rfl
  refine lv_aload_n hx hb dL_law_260 rfl (lv_at hl 2 rfl) ?_
  refine lv_aload_n hx hb dL_law_261 rfl (lv_at hl 0 rfl) ?_
  refine lv_iload_n hx hb dL_law_262 rfl (lv_at hl 3 rfl) ?_
  refine lv_iconst (v := 1) hx hb dL_law_263 (by decide) ?_
  refine lv_iadd hx hb dL_law_264 ?_
  refine va_sld hx hb hX hbl hbA hS hin1 dL_law_265 ?_
  refine lv_aload_n hx hb dL_law_266 rfl (lv_at hl 0 rfl) ?_
  refine lv_iload_n hx hb dL_law_267 rfl (lv_at hl 3 rfl) ?_
  refine lv_iconst (v := 2) hx hb dL_law_268 (by decide) ?_
  refine lv_iadd hx hb dL_law_269 ?_
  refine va_sld hx hb hX hbl hbA hS hin2 dL_law_270 ?_
  refine lv_aload_n hx hb dL_law_271 rfl (lv_at hl 0 rfl) ?_
  refine lv_iload_n hx hb dL_law_272 rfl (lv_at hl 3 rfl) ?_
  refine lv_iconst (v := 3) hx hb dL_law_273 (by decide) ?_
  refine lv_iadd hx hb dL_law_274 ?_
  refine va_sld hx hb hX hbl hbA hS hin3 dL_law_275 ?_
  have hPc := hP.sub (ws' := (wM N_x N_da N_ma N_ha N_ho N_ti N_be N_te N_ch J_da J_ma J_ha J_ho J_ti J_be J_te J_ch n_da n_ma n_ha n_ho n_ti n_be n_te n_ch n_up n_fu n_tm n_tc)) [8, 9, 10, 11, 12, 13, 14, 15, 16] rfl
  have hDc := hD.sub (ws' := (wM N_x N_da N_ma N_ha N_ho N_ti N_be N_te N_ch J_da J_ma J_ha J_ho J_ti J_be J_te J_ch n_da n_ma n_ha n_ho n_ti n_be n_te n_ch n_up n_fu n_tm n_tc)) [8, 9, 10, 11, 12, 13, 14, 15, 16] (by decide) rfl
  have hKc := hK.sub (tys' := (tM J_da J_ma J_ha J_ho J_ti J_be J_te J_ch)) [4, 5, 6, 7, 8, 9, 10, 11] rfl
  have hFc := va_free (wc := (wM N_x N_da N_ma N_ha N_ho N_ti N_be N_te N_ch J_da J_ma J_ha J_ho J_ti J_be J_te J_ch n_da n_ma n_ha n_ho n_ti n_be n_te n_ch n_up n_fu n_tm n_tc)) hD hS hA [8, 9, 10, 11, 12, 13, 14, 15, 16] rfl
  refine va_calli (va_runV (As := [.int (xs (nI i + (1 : Int32)).toNatClampNeg), .int (xs (nI i + (2 : Int32)).toNatClampNeg), .int (xs (nI i + (3 : Int32)).toNatClampNeg)]) (rest := [.int r]) ⟨hx, hb, hml, hown, hts⟩ (k_X5_write l dC dI N_x N_da N_ma N_ha N_ho N_ti N_be N_te N_ch J_da J_ma J_ha J_ho J_ti J_be J_te J_ch n_da n_ma n_ha n_ho n_ti n_be n_te n_ch n_up n_fu n_tm n_tc H_X4.size (xs (nI i + (1 : Int32)).toNatClampNeg) (xs (nI i + (2 : Int32)).toNatClampNeg) (xs (nI i + (3 : Int32)).toNatClampNeg) _ _ _ _ _  e5) (cwV 3 hts gL_law_X5_write rfl rfl rfl (by decide +kernel) ⟨Nat.le_of_ble_eq_true rfl, Nat.le_of_ble_eq_true rfl⟩) ⟨w_blW, va_recv hKc hPc (ci := 3) (q0 := 0) rfl rfl, fun U hU hW => ⟨rfl, by rw [hU], by rw [hU]; exact hPc, va_K.moved hW.alike hKc, hDc.weaken (fun _ _ _ _ => trivial)⟩⟩ rfl rfl hl.1 rfl (lv_room (Nat.le_of_ble_eq_true rfl)) dL_law_276 ⟨Nat.le_of_ble_eq_true rfl, Nat.le_of_ble_eq_true rfl⟩) hS (fun q _ h => hFc q h) hFc (fun _ _ t H_X5 locs_X5 ht hvm hw hB hz1 hk1 hS => ?_)
  subst hw
  refine W.widen (k := 17) (n := 1343) (Nat.le_of_ble_eq_true rfl) (Nat.le_of_ble_eq_true rfl) ?_
  obtain ⟨hP1, hD1⟩ := hB
  rw [ht] at hP1
  obtain ⟨hP, hD⟩ := va_join (wr := (wB A_x A_d A_mh A_jh A_ha A_da A_ma A_ja K_ha K_da K_ma K_ja b_ha b_da u_ma b_ja b_up b_fu)) (w1 := (wM N_x N_da N_ma N_ha N_ho N_ti N_be N_te N_ch J_da J_ma J_ha J_ho J_ti J_be J_te J_ch n_da v_ma n_ha n_ho n_ti n_be v_te n_ch n_up n_fu v_tm v_tc)) hP hD [8, 9, 10, 11, 12, 13, 14, 15, 16] [0, 1, 2, 3, 4, 5, 6, 7] rfl rfl (by decide) (by decide) hk1 hFc hP1 hD1
  have hP : va_P (dC, dI) vwCl ((wB A_x A_d A_mh A_jh A_ha A_da A_ma A_ja K_ha K_da K_ma K_ja b_ha b_da u_ma b_ja b_up b_fu) ++ (wM N_x N_da N_ma N_ha N_ho N_ti N_be N_te N_ch J_da J_ma J_ha J_ho J_ti J_be J_te J_ch n_da v_ma n_ha n_ho n_ti n_be v_te n_ch n_up n_fu v_tm v_tc)) H_X5 := hP
  have hD : va_D (fun q : Nat => s.heap.size ≤ q) ((wB A_x A_d A_mh A_jh A_ha A_da A_ma A_ja K_ha K_da K_ma K_ja b_ha b_da u_ma b_ja b_up b_fu) ++ (wM N_x N_da N_ma N_ha N_ho N_ti N_be N_te N_ch J_da J_ma J_ha J_ho J_ti J_be J_te J_ch n_da v_ma n_ha n_ho n_ti n_be v_te n_ch n_up n_fu v_tm v_tc)) := hD
  refine lv_icmp_eq (tgt := 636) hx hb dL_law_279 (by decide) (fun _ => ?_) (fun cx => absurd rfl cx)
  exact K b_ha b_da u_ma b_ja b_up b_fu n_da v_ma n_ha n_ho n_ti n_be v_te n_ch n_up n_fu v_tm v_tc R2 _ _ hP hD hS _ hl
set_option maxHeartbeats 4000000 in
set_option maxRecDepth 100000 in
theorem law_c6 {p : Program} {l : Launch} {e : Env} {s : State} {m : MethodId} {below : List Frame} {meth : Method} {c : Code} {dC : Nat → ClassId} {dI : Nat → Nat → Nat} {b L : Nat} {xs : Nat → Int32} (hL : L ≤ 256) (C0 : lw_At p s m meth c b L xs) {A_x A_d A_mh A_jh A_ha A_da A_ma A_ja N_x N_da N_ma N_ha N_ho N_ti N_be N_te N_ch : Nat} {K_ha K_da K_ma K_ja J_da J_ma J_ha J_ho J_ti J_be J_te J_ch : ClassId} {b_ha : Nat → Int32} {b_da : Nat → Int32} {b_ma : Nat → Int32} {b_ja : Nat → Int32} {b_up : Int32} {b_fu : Int32} {n_da : Nat → Int32} {n_ma : Nat → Int32} {n_ha : Nat → Int32} {n_ho : Nat → Int32} {n_ti : Nat → Int32} {n_be : Nat → Int32} {n_te : Nat → Int32} {n_ch : Nat → Int32} {n_up : Int32} {n_fu : Int32} {n_tm : Int32} {n_tc : Int32} {i : Nat} (hi : i + 4 ≤ L) (R : Rel b_ha b_da b_ma b_up b_fu n_da n_ma n_ha n_up n_fu) (H : Heap) (locs : List Loc) (hK : va_K (dC, dI) vwCl ((tB K_ha K_da K_ma K_ja) ++ (tM J_da J_ma J_ha J_ho J_ti J_be J_te J_ch)) s) (hP : va_P (dC, dI) vwCl ((wB A_x A_d A_mh A_jh A_ha A_da A_ma A_ja K_ha K_da K_ma K_ja b_ha b_da b_ma b_ja b_up b_fu) ++ (wM N_x N_da N_ma N_ha N_ho N_ti N_be N_te N_ch J_da J_ma J_ha J_ho J_ti J_be J_te J_ch n_da n_ma n_ha n_ho n_ti n_be n_te n_ch n_up n_fu n_tm n_tc)) H) (hD : va_D (fun q : Nat => s.heap.size ≤ q) ((wB A_x A_d A_mh A_jh A_ha A_da A_ma A_ja K_ha K_da K_ma K_ja b_ha b_da b_ma b_ja b_up b_fu) ++ (wM N_x N_da N_ma N_ha N_ho N_ti N_be N_te N_ch J_da J_ma J_ha J_ho J_ti J_be J_te J_ch n_da n_ma n_ha n_ho n_ti n_be n_te n_ch n_up n_fu n_tm n_tc))) (hS : va_S (fun q : Nat => s.heap.size ≤ q) s.heap H locs) (ls : Array Slot) (hl : lv_has ls 4 [(0, .ref b), (1, .ref A_x), (2, .ref N_x), (3, .int (nI i))])
    (K : ∀ (u_ha : Nat → Int32) (u_da : Nat → Int32) (u_ma : Nat → Int32) (u_ja : Nat → Int32) (u_up : Int32) (u_fu : Int32) (v_da : Nat → Int32) (v_ma : Nat → Int32) (v_ha : Nat → Int32) (v_ho : Nat → Int32) (v_ti : Nat → Int32) (v_be : Nat → Int32) (v_te : Nat → Int32) (v_ch : Nat → Int32) (v_up : Int32) (v_fu : Int32) (v_tm : Int32) (v_tc : Int32), Rel u_ha u_da u_ma u_up u_fu v_da v_ma v_ha v_up v_fu → ∀ (H : Heap) (locs : List Loc), va_P (dC, dI) vwCl ((wB A_x A_d A_mh A_jh A_ha A_da A_ma A_ja K_ha K_da K_ma K_ja u_ha u_da u_ma u_ja u_up u_fu) ++ (wM N_x N_da N_ma N_ha N_ho N_ti N_be N_te N_ch J_da J_ma J_ha J_ho J_ti J_be J_te J_ch v_da v_ma v_ha v_ho v_ti v_be v_te v_ch v_up v_fu v_tm v_tc)) H → va_D (fun q : Nat => s.heap.size ≤ q) ((wB A_x A_d A_mh A_jh A_ha A_da A_ma A_ja K_ha K_da K_ma K_ja u_ha u_da u_ma u_ja u_up u_fu) ++ (wM N_x N_da N_ma N_ha N_ho N_ti N_be N_te N_ch J_da J_ma J_ha J_ho J_ti J_be J_te J_ch v_da v_ma v_ha v_ho v_ti v_be v_te v_ch v_up v_fu v_tm v_tc)) → va_S (fun q : Nat => s.heap.size ≤ q) s.heap H locs → ∀ (ls : Array Slot), lv_has ls 4 [(0, .ref b), (1, .ref A_x), (2, .ref N_x), (3, .int (nI i))] → W p l e room_1 s m #[Value.ref b] below meth c H locs 17 1343 (lw_Z below #[Value.ref b] s) (F0 m 636 ls [])) : W p l e room_1 s m #[Value.ref b] below meth c H locs 17 1343 (lw_Z below #[Value.ref b] s) (F0 m 284 ls []) := by
  obtain ⟨hx, hb, hr, hml, hown, hts0, hX, hbl, hlocks, hgv⟩ := C0
  have hts : ∀ w ∈ wsL_law, w.before #[Value.ref b] s = true := fun w h => hts0 w (wsL_law_in w h)
  have hA : ∀ q : Nat, s.heap.size ≤ q → (fun q : Nat => s.heap.size ≤ q) q := fun _ h => h
  have hbA : ¬ (fun q : Nat => s.heap.size ≤ q) b := Nat.not_le.mpr hbl
  have hown : s.vm.findClass RL = some m.cls := hown
  have hin1 : vp_in (nI i + (1 : Int32)) L := vp_in_at (nI_add i 1) (by omega) (by omega)
  have hin2 : vp_in (nI i + (2 : Int32)) L := vp_in_at (nI_add i 2) (by omega) (by omega)
  obtain ⟨r, e4, e5, R2⟩ := st_read  R (xs (nI i + (1 : Int32)).toNatClampNeg) (xs (nI i + (2 : Int32)).toNatClampNeg)
  refine lv_aload_n hx hb dL_law_284 rfl (lv_at hl 1 rfl) ?_
  refine lv_aload_n hx hb dL_law_285 rfl (lv_at hl 0 rfl) ?_
  refine lv_iload_n hx hb dL_law_286 rfl (lv_at hl 3 rfl) ?_
  refine lv_iconst (v := 1) hx hb dL_law_287 (by decide) ?_
  refine lv_iadd hx hb dL_law_288 ?_
  refine va_sld hx hb hX hbl hbA hS hin1 dL_law_289 ?_
  refine lv_aload_n hx hb dL_law_290 rfl (lv_at hl 0 rfl) ?_
  refine lv_iload_n hx hb dL_law_291 rfl (lv_at hl 3 rfl) ?_
  refine lv_iconst (v := 2) hx hb dL_law_292 (by decide) ?_
  refine lv_iadd hx hb dL_law_293 ?_
  refine va_sld hx hb hX hbl hbA hS hin2 dL_law_294 ?_
  refine vp_callSi (W.runV (As := [.int (xs (nI i + (1 : Int32)).toNatClampNeg), .int (xs (nI i + (2 : Int32)).toNatClampNeg)]) (rest := []) ⟨hx, hb, hml, hown, hts⟩ (k_X4_read l dC dI A_x A_d A_mh A_jh A_ha A_da A_ma A_ja K_ha K_da K_ma K_ja b_ha b_da b_ma b_ja b_up b_fu (xs (nI i + (1 : Int32)).toNatClampNeg) (xs (nI i + (2 : Int32)).toNatClampNeg) _ e4) (cwV 2 hts gL_law_X4_read rfl rfl rfl (by decide +kernel) ⟨Nat.le_of_ble_eq_true rfl, Nat.le_of_ble_eq_true rfl⟩) ⟨w_blR, va_recv hK hP (ci := 2) (q0 := 0) rfl rfl, fun U hU hW => ⟨rfl, by rw [hU]; exact hP.sub [0, 1, 2, 3, 4, 5, 6, 7] rfl, va_K.moved hW.alike (hK.sub [0, 1, 2, 3] rfl)⟩⟩ rfl rfl hl.1 rfl (lv_room (Nat.le_of_ble_eq_true rfl)) dL_law_295 ⟨Nat.le_of_ble_eq_true rfl, Nat.le_of_ble_eq_true rfl⟩) (fun _ ey => ?_)
  subst ey
  refine lv_aload_n hx hb dL_law_298 rfl (lv_at hl 2 rfl) ?_
  refine lv_aload_n hx hb dL_law_299 rfl (lv_at hl 0 rfl) ?_
  refine lv_iload_n hx hb dL_law_300 rfl (lv_at hl 3 rfl) ?_
  refine lv_iconst (v := 1) hx hb dL_law_301 (by decide) ?_
  refine lv_iadd hx hb dL_law_302 ?_
  refine va_sld hx hb hX hbl hbA hS hin1 dL_law_303 ?_
  refine lv_aload_n hx hb dL_law_304 rfl (lv_at hl 0 rfl) ?_
  refine lv_iload_n hx hb dL_law_305 rfl (lv_at hl 3 rfl) ?_
  refine lv_iconst (v := 2) hx hb dL_law_306 (by decide) ?_
  refine lv_iadd hx hb dL_law_307 ?_
  refine va_sld hx hb hX hbl hbA hS hin2 dL_law_308 ?_
  refine vp_callSi (W.runV (As := [.int (xs (nI i + (1 : Int32)).toNatClampNeg), .int (xs (nI i + (2 : Int32)).toNatClampNeg)]) (rest := [.int r]) ⟨hx, hb, hml, hown, hts⟩ (k_X5_read l dC dI N_x N_da N_ma N_ha N_ho N_ti N_be N_te N_ch J_da J_ma J_ha J_ho J_ti J_be J_te J_ch n_da n_ma n_ha n_ho n_ti n_be n_te n_ch n_up n_fu n_tm n_tc (xs (nI i + (1 : Int32)).toNatClampNeg) (xs (nI i + (2 : Int32)).toNatClampNeg) _ e5) (cwV 2 hts gL_law_X5_read rfl rfl rfl (by decide +kernel) ⟨Nat.le_of_ble_eq_true rfl, Nat.le_of_ble_eq_true rfl⟩) ⟨w_blR, va_recv hK hP (ci := 3) (q0 := 8) rfl rfl, fun U hU hW => ⟨rfl, by rw [hU]; exact hP.sub [8, 9, 10, 11, 12, 13, 14, 15, 16] rfl, va_K.moved hW.alike (hK.sub [4, 5, 6, 7, 8, 9, 10, 11] rfl)⟩⟩ rfl rfl hl.1 rfl (lv_room (Nat.le_of_ble_eq_true rfl)) dL_law_309 ⟨Nat.le_of_ble_eq_true rfl, Nat.le_of_ble_eq_true rfl⟩) (fun _ ey => ?_)
  subst ey
  refine lv_icmp_eq (tgt := 636) hx hb dL_law_312 (by decide) (fun _ => ?_) (fun cx => absurd rfl cx)
  exact K b_ha b_da b_ma b_ja b_up b_fu n_da n_ma n_ha n_ho n_ti n_be n_te n_ch n_up n_fu n_tm n_tc R2 _ _ hP hD hS _ hl
set_option maxHeartbeats 4000000 in
set_option maxRecDepth 100000 in
theorem law_c7 {p : Program} {l : Launch} {e : Env} {s : State} {m : MethodId} {below : List Frame} {meth : Method} {c : Code} {dC : Nat → ClassId} {dI : Nat → Nat → Nat} {b L : Nat} {xs : Nat → Int32} (hL : L ≤ 256) (C0 : lw_At p s m meth c b L xs) {A_x A_d A_mh A_jh A_ha A_da A_ma A_ja N_x N_da N_ma N_ha N_ho N_ti N_be N_te N_ch : Nat} {K_ha K_da K_ma K_ja J_da J_ma J_ha J_ho J_ti J_be J_te J_ch : ClassId} {b_ha : Nat → Int32} {b_da : Nat → Int32} {b_ma : Nat → Int32} {b_ja : Nat → Int32} {b_up : Int32} {b_fu : Int32} {n_da : Nat → Int32} {n_ma : Nat → Int32} {n_ha : Nat → Int32} {n_ho : Nat → Int32} {n_ti : Nat → Int32} {n_be : Nat → Int32} {n_te : Nat → Int32} {n_ch : Nat → Int32} {n_up : Int32} {n_fu : Int32} {n_tm : Int32} {n_tc : Int32} {i : Nat} (hi : i + 4 ≤ L) (R : Rel b_ha b_da b_ma b_up b_fu n_da n_ma n_ha n_up n_fu) (H : Heap) (locs : List Loc) (hK : va_K (dC, dI) vwCl ((tB K_ha K_da K_ma K_ja) ++ (tM J_da J_ma J_ha J_ho J_ti J_be J_te J_ch)) s) (hP : va_P (dC, dI) vwCl ((wB A_x A_d A_mh A_jh A_ha A_da A_ma A_ja K_ha K_da K_ma K_ja b_ha b_da b_ma b_ja b_up b_fu) ++ (wM N_x N_da N_ma N_ha N_ho N_ti N_be N_te N_ch J_da J_ma J_ha J_ho J_ti J_be J_te J_ch n_da n_ma n_ha n_ho n_ti n_be n_te n_ch n_up n_fu n_tm n_tc)) H) (hD : va_D (fun q : Nat => s.heap.size ≤ q) ((wB A_x A_d A_mh A_jh A_ha A_da A_ma A_ja K_ha K_da K_ma K_ja b_ha b_da b_ma b_ja b_up b_fu) ++ (wM N_x N_da N_ma N_ha N_ho N_ti N_be N_te N_ch J_da J_ma J_ha J_ho J_ti J_be J_te J_ch n_da n_ma n_ha n_ho n_ti n_be n_te n_ch n_up n_fu n_tm n_tc))) (hS : va_S (fun q : Nat => s.heap.size ≤ q) s.heap H locs) (ls : Array Slot) (hl : lv_has ls 4 [(0, .ref b), (1, .ref A_x), (2, .ref N_x), (3, .int (nI i))])
    (K : ∀ (u_ha : Nat → Int32) (u_da : Nat → Int32) (u_ma : Nat → Int32) (u_ja : Nat → Int32) (u_up : Int32) (u_fu : Int32) (v_da : Nat → Int32) (v_ma : Nat → Int32) (v_ha : Nat → Int32) (v_ho : Nat → Int32) (v_ti : Nat → Int32) (v_be : Nat → Int32) (v_te : Nat → Int32) (v_ch : Nat → Int32) (v_up : Int32) (v_fu : Int32) (v_tm : Int32) (v_tc : Int32), Rel u_ha u_da u_ma u_up u_fu v_da v_ma v_ha v_up v_fu → ∀ (H : Heap) (locs : List Loc), va_P (dC, dI) vwCl ((wB A_x A_d A_mh A_jh A_ha A_da A_ma A_ja K_ha K_da K_ma K_ja u_ha u_da u_ma u_ja u_up u_fu) ++ (wM N_x N_da N_ma N_ha N_ho N_ti N_be N_te N_ch J_da J_ma J_ha J_ho J_ti J_be J_te J_ch v_da v_ma v_ha v_ho v_ti v_be v_te v_ch v_up v_fu v_tm v_tc)) H → va_D (fun q : Nat => s.heap.size ≤ q) ((wB A_x A_d A_mh A_jh A_ha A_da A_ma A_ja K_ha K_da K_ma K_ja u_ha u_da u_ma u_ja u_up u_fu) ++ (wM N_x N_da N_ma N_ha N_ho N_ti N_be N_te N_ch J_da J_ma J_ha J_ho J_ti J_be J_te J_ch v_da v_ma v_ha v_ho v_ti v_be v_te v_ch v_up v_fu v_tm v_tc)) → va_S (fun q : Nat => s.heap.size ≤ q) s.heap H locs → ∀ (ls : Array Slot), lv_has ls 4 [(0, .ref b), (1, .ref A_x), (2, .ref N_x), (3, .int (nI i))] → W p l e room_1 s m #[Value.ref b] below meth c H locs 17 1343 (lw_Z below #[Value.ref b] s) (F0 m 636 ls [])) : W p l e room_1 s m #[Value.ref b] below meth c H locs 17 1343 (lw_Z below #[Value.ref b] s) (F0 m 317 ls []) := by
  obtain ⟨hx, hb, hr, hml, hown, hts0, hX, hbl, hlocks, hgv⟩ := C0
  have hts : ∀ w ∈ wsL_law, w.before #[Value.ref b] s = true := fun w h => hts0 w (wsL_law_in w h)
  have hA : ∀ q : Nat, s.heap.size ≤ q → (fun q : Nat => s.heap.size ≤ q) q := fun _ h => h
  have hbA : ¬ (fun q : Nat => s.heap.size ≤ q) b := Nat.not_le.mpr hbl
  have hown : s.vm.findClass RL = some m.cls := hown
  have hin1 : vp_in (nI i + (1 : Int32)) L := vp_in_at (nI_add i 1) (by omega) (by omega)
  have hin2 : vp_in (nI i + (2 : Int32)) L := vp_in_at (nI_add i 2) (by omega) (by omega)
  obtain ⟨r, u_ma, v_ma, v_te, v_tm, v_tc, e4, e5, R2⟩ := st_truncate (n_te := n_te) (n_tm := n_tm) (n_tc := n_tc) R (xs (nI i + (1 : Int32)).toNatClampNeg) (xs (nI i + (2 : Int32)).toNatClampNeg)
  refine lv_aload_n hx hb dL_law_317 rfl (lv_at hl 1 rfl) ?_
  refine lv_aload_n hx hb dL_law_318 rfl (lv_at hl 0 rfl) ?_
  refine lv_iload_n hx hb dL_law_319 rfl (lv_at hl 3 rfl) ?_
  refine lv_iconst (v := 1) hx hb dL_law_320 (by decide) ?_
  refine lv_iadd hx hb dL_law_321 ?_
  refine va_sld hx hb hX hbl hbA hS hin1 dL_law_322 ?_
  refine lv_aload_n hx hb dL_law_323 rfl (lv_at hl 0 rfl) ?_
  refine lv_iload_n hx hb dL_law_324 rfl (lv_at hl 3 rfl) ?_
  refine lv_iconst (v := 2) hx hb dL_law_325 (by decide) ?_
  refine lv_iadd hx hb dL_law_326 ?_
  refine va_sld hx hb hX hbl hbA hS hin2 dL_law_327 ?_
  have hPc := hP.sub (ws' := (wB A_x A_d A_mh A_jh A_ha A_da A_ma A_ja K_ha K_da K_ma K_ja b_ha b_da b_ma b_ja b_up b_fu)) [0, 1, 2, 3, 4, 5, 6, 7] rfl
  have hDc := hD.sub (ws' := (wB A_x A_d A_mh A_jh A_ha A_da A_ma A_ja K_ha K_da K_ma K_ja b_ha b_da b_ma b_ja b_up b_fu)) [0, 1, 2, 3, 4, 5, 6, 7] (by decide) rfl
  have hKc := hK.sub (tys' := (tB K_ha K_da K_ma K_ja)) [0, 1, 2, 3] rfl
  have hFc := va_free (wc := (wB A_x A_d A_mh A_jh A_ha A_da A_ma A_ja K_ha K_da K_ma K_ja b_ha b_da b_ma b_ja b_up b_fu)) hD hS hA [0, 1, 2, 3, 4, 5, 6, 7] rfl
  refine va_calli (va_runV (As := [.int (xs (nI i + (1 : Int32)).toNatClampNeg), .int (xs (nI i + (2 : Int32)).toNatClampNeg)]) (rest := []) ⟨hx, hb, hml, hown, hts⟩ (k_X4_truncate l dC dI A_x A_d A_mh A_jh A_ha A_da A_ma A_ja K_ha K_da K_ma K_ja b_ha b_da b_ma b_ja b_up b_fu H.size (xs (nI i + (1 : Int32)).toNatClampNeg) (xs (nI i + (2 : Int32)).toNatClampNeg) _ _  e4) (cwV 2 hts gL_law_X4_truncate rfl rfl rfl (by decide +kernel) ⟨Nat.le_of_ble_eq_true rfl, Nat.le_of_ble_eq_true rfl⟩) ⟨w_blW, va_recv hKc hPc (ci := 2) (q0 := 0) rfl rfl, fun U hU hW => ⟨rfl, by rw [hU], by rw [hU]; exact hPc, va_K.moved hW.alike hKc, hDc.weaken (fun _ _ _ _ => trivial)⟩⟩ rfl rfl hl.1 rfl (lv_room (Nat.le_of_ble_eq_true rfl)) dL_law_328 ⟨Nat.le_of_ble_eq_true rfl, Nat.le_of_ble_eq_true rfl⟩) hS (fun q _ h => hFc q h) hFc (fun _ _ t H_X4 locs_X4 ht hvm hw hB hz1 hk1 hS => ?_)
  subst hw
  refine W.widen (k := 17) (n := 1343) (Nat.le_of_ble_eq_true rfl) (Nat.le_of_ble_eq_true rfl) ?_
  obtain ⟨hP1, hD1⟩ := hB
  rw [ht] at hP1
  obtain ⟨hP, hD⟩ := va_join (wr := (wM N_x N_da N_ma N_ha N_ho N_ti N_be N_te N_ch J_da J_ma J_ha J_ho J_ti J_be J_te J_ch n_da n_ma n_ha n_ho n_ti n_be n_te n_ch n_up n_fu n_tm n_tc)) (w1 := (wB A_x A_d A_mh A_jh A_ha A_da A_ma A_ja K_ha K_da K_ma K_ja b_ha b_da u_ma b_ja b_up b_fu)) hP hD [0, 1, 2, 3, 4, 5, 6, 7] [8, 9, 10, 11, 12, 13, 14, 15, 16] rfl rfl (by decide) (by decide) hk1 hFc hP1 hD1
  have hP : va_P (dC, dI) vwCl ((wB A_x A_d A_mh A_jh A_ha A_da A_ma A_ja K_ha K_da K_ma K_ja b_ha b_da u_ma b_ja b_up b_fu) ++ (wM N_x N_da N_ma N_ha N_ho N_ti N_be N_te N_ch J_da J_ma J_ha J_ho J_ti J_be J_te J_ch n_da n_ma n_ha n_ho n_ti n_be n_te n_ch n_up n_fu n_tm n_tc)) H_X4 := hP.sub [9, 10, 11, 12, 13, 14, 15, 16, 0, 1, 2, 3, 4, 5, 6, 7, 8] rfl
  have hD : va_D (fun q : Nat => s.heap.size ≤ q) ((wB A_x A_d A_mh A_jh A_ha A_da A_ma A_ja K_ha K_da K_ma K_ja b_ha b_da u_ma b_ja b_up b_fu) ++ (wM N_x N_da N_ma N_ha N_ho N_ti N_be N_te N_ch J_da J_ma J_ha J_ho J_ti J_be J_te J_ch n_da n_ma n_ha n_ho n_ti n_be n_te n_ch n_up n_fu n_tm n_tc)) := hD.sub [9, 10, 11, 12, 13, 14, 15, 16, 0, 1, 2, 3, 4, 5, 6, 7, 8] (by decide) rfl
  refine lv_aload_n hx hb dL_law_331 rfl (lv_at hl 2 rfl) ?_
  refine lv_aload_n hx hb dL_law_332 rfl (lv_at hl 0 rfl) ?_
  refine lv_iload_n hx hb dL_law_333 rfl (lv_at hl 3 rfl) ?_
  refine lv_iconst (v := 1) hx hb dL_law_334 (by decide) ?_
  refine lv_iadd hx hb dL_law_335 ?_
  refine va_sld hx hb hX hbl hbA hS hin1 dL_law_336 ?_
  refine lv_aload_n hx hb dL_law_337 rfl (lv_at hl 0 rfl) ?_
  refine lv_iload_n hx hb dL_law_338 rfl (lv_at hl 3 rfl) ?_
  refine lv_iconst (v := 2) hx hb dL_law_339 (by decide) ?_
  refine lv_iadd hx hb dL_law_340 ?_
  refine va_sld hx hb hX hbl hbA hS hin2 dL_law_341 ?_
  have hPc := hP.sub (ws' := (wM N_x N_da N_ma N_ha N_ho N_ti N_be N_te N_ch J_da J_ma J_ha J_ho J_ti J_be J_te J_ch n_da n_ma n_ha n_ho n_ti n_be n_te n_ch n_up n_fu n_tm n_tc)) [8, 9, 10, 11, 12, 13, 14, 15, 16] rfl
  have hDc := hD.sub (ws' := (wM N_x N_da N_ma N_ha N_ho N_ti N_be N_te N_ch J_da J_ma J_ha J_ho J_ti J_be J_te J_ch n_da n_ma n_ha n_ho n_ti n_be n_te n_ch n_up n_fu n_tm n_tc)) [8, 9, 10, 11, 12, 13, 14, 15, 16] (by decide) rfl
  have hKc := hK.sub (tys' := (tM J_da J_ma J_ha J_ho J_ti J_be J_te J_ch)) [4, 5, 6, 7, 8, 9, 10, 11] rfl
  have hFc := va_free (wc := (wM N_x N_da N_ma N_ha N_ho N_ti N_be N_te N_ch J_da J_ma J_ha J_ho J_ti J_be J_te J_ch n_da n_ma n_ha n_ho n_ti n_be n_te n_ch n_up n_fu n_tm n_tc)) hD hS hA [8, 9, 10, 11, 12, 13, 14, 15, 16] rfl
  refine va_calli (va_runV (As := [.int (xs (nI i + (1 : Int32)).toNatClampNeg), .int (xs (nI i + (2 : Int32)).toNatClampNeg)]) (rest := [.int r]) ⟨hx, hb, hml, hown, hts⟩ (k_X5_truncate l dC dI N_x N_da N_ma N_ha N_ho N_ti N_be N_te N_ch J_da J_ma J_ha J_ho J_ti J_be J_te J_ch n_da n_ma n_ha n_ho n_ti n_be n_te n_ch n_up n_fu n_tm n_tc H_X4.size (xs (nI i + (1 : Int32)).toNatClampNeg) (xs (nI i + (2 : Int32)).toNatClampNeg) _ _ _ _ _  e5) (cwV 2 hts gL_law_X5_truncate rfl rfl rfl (by decide +kernel) ⟨Nat.le_of_ble_eq_true rfl, Nat.le_of_ble_eq_true rfl⟩) ⟨w_blW, va_recv hKc hPc (ci := 3) (q0 := 0) rfl rfl, fun U hU hW => ⟨rfl, by rw [hU], by rw [hU]; exact hPc, va_K.moved hW.alike hKc, hDc.weaken (fun _ _ _ _ => trivial)⟩⟩ rfl rfl hl.1 rfl (lv_room (Nat.le_of_ble_eq_true rfl)) dL_law_342 ⟨Nat.le_of_ble_eq_true rfl, Nat.le_of_ble_eq_true rfl⟩) hS (fun q _ h => hFc q h) hFc (fun _ _ t H_X5 locs_X5 ht hvm hw hB hz1 hk1 hS => ?_)
  subst hw
  refine W.widen (k := 17) (n := 1343) (Nat.le_of_ble_eq_true rfl) (Nat.le_of_ble_eq_true rfl) ?_
  obtain ⟨hP1, hD1⟩ := hB
  rw [ht] at hP1
  obtain ⟨hP, hD⟩ := va_join (wr := (wB A_x A_d A_mh A_jh A_ha A_da A_ma A_ja K_ha K_da K_ma K_ja b_ha b_da u_ma b_ja b_up b_fu)) (w1 := (wM N_x N_da N_ma N_ha N_ho N_ti N_be N_te N_ch J_da J_ma J_ha J_ho J_ti J_be J_te J_ch n_da v_ma n_ha n_ho n_ti n_be v_te n_ch n_up n_fu v_tm v_tc)) hP hD [8, 9, 10, 11, 12, 13, 14, 15, 16] [0, 1, 2, 3, 4, 5, 6, 7] rfl rfl (by decide) (by decide) hk1 hFc hP1 hD1
  have hP : va_P (dC, dI) vwCl ((wB A_x A_d A_mh A_jh A_ha A_da A_ma A_ja K_ha K_da K_ma K_ja b_ha b_da u_ma b_ja b_up b_fu) ++ (wM N_x N_da N_ma N_ha N_ho N_ti N_be N_te N_ch J_da J_ma J_ha J_ho J_ti J_be J_te J_ch n_da v_ma n_ha n_ho n_ti n_be v_te n_ch n_up n_fu v_tm v_tc)) H_X5 := hP
  have hD : va_D (fun q : Nat => s.heap.size ≤ q) ((wB A_x A_d A_mh A_jh A_ha A_da A_ma A_ja K_ha K_da K_ma K_ja b_ha b_da u_ma b_ja b_up b_fu) ++ (wM N_x N_da N_ma N_ha N_ho N_ti N_be N_te N_ch J_da J_ma J_ha J_ho J_ti J_be J_te J_ch n_da v_ma n_ha n_ho n_ti n_be v_te n_ch n_up n_fu v_tm v_tc)) := hD
  refine lv_icmp_eq (tgt := 636) hx hb dL_law_345 (by decide) (fun _ => ?_) (fun cx => absurd rfl cx)
  exact K b_ha b_da u_ma b_ja b_up b_fu n_da v_ma n_ha n_ho n_ti n_be v_te n_ch n_up n_fu v_tm v_tc R2 _ _ hP hD hS _ hl
set_option maxHeartbeats 4000000 in
set_option maxRecDepth 100000 in
theorem law_c8 {p : Program} {l : Launch} {e : Env} {s : State} {m : MethodId} {below : List Frame} {meth : Method} {c : Code} {dC : Nat → ClassId} {dI : Nat → Nat → Nat} {b L : Nat} {xs : Nat → Int32} (hL : L ≤ 256) (C0 : lw_At p s m meth c b L xs) {A_x A_d A_mh A_jh A_ha A_da A_ma A_ja N_x N_da N_ma N_ha N_ho N_ti N_be N_te N_ch : Nat} {K_ha K_da K_ma K_ja J_da J_ma J_ha J_ho J_ti J_be J_te J_ch : ClassId} {b_ha : Nat → Int32} {b_da : Nat → Int32} {b_ma : Nat → Int32} {b_ja : Nat → Int32} {b_up : Int32} {b_fu : Int32} {n_da : Nat → Int32} {n_ma : Nat → Int32} {n_ha : Nat → Int32} {n_ho : Nat → Int32} {n_ti : Nat → Int32} {n_be : Nat → Int32} {n_te : Nat → Int32} {n_ch : Nat → Int32} {n_up : Int32} {n_fu : Int32} {n_tm : Int32} {n_tc : Int32} {i : Nat} (hi : i + 4 ≤ L) (R : Rel b_ha b_da b_ma b_up b_fu n_da n_ma n_ha n_up n_fu) (H : Heap) (locs : List Loc) (hK : va_K (dC, dI) vwCl ((tB K_ha K_da K_ma K_ja) ++ (tM J_da J_ma J_ha J_ho J_ti J_be J_te J_ch)) s) (hP : va_P (dC, dI) vwCl ((wB A_x A_d A_mh A_jh A_ha A_da A_ma A_ja K_ha K_da K_ma K_ja b_ha b_da b_ma b_ja b_up b_fu) ++ (wM N_x N_da N_ma N_ha N_ho N_ti N_be N_te N_ch J_da J_ma J_ha J_ho J_ti J_be J_te J_ch n_da n_ma n_ha n_ho n_ti n_be n_te n_ch n_up n_fu n_tm n_tc)) H) (hD : va_D (fun q : Nat => s.heap.size ≤ q) ((wB A_x A_d A_mh A_jh A_ha A_da A_ma A_ja K_ha K_da K_ma K_ja b_ha b_da b_ma b_ja b_up b_fu) ++ (wM N_x N_da N_ma N_ha N_ho N_ti N_be N_te N_ch J_da J_ma J_ha J_ho J_ti J_be J_te J_ch n_da n_ma n_ha n_ho n_ti n_be n_te n_ch n_up n_fu n_tm n_tc))) (hS : va_S (fun q : Nat => s.heap.size ≤ q) s.heap H locs) (ls : Array Slot) (hl : lv_has ls 4 [(0, .ref b), (1, .ref A_x), (2, .ref N_x), (3, .int (nI i))])
    (K : ∀ (u_ha : Nat → Int32) (u_da : Nat → Int32) (u_ma : Nat → Int32) (u_ja : Nat → Int32) (u_up : Int32) (u_fu : Int32) (v_da : Nat → Int32) (v_ma : Nat → Int32) (v_ha : Nat → Int32) (v_ho : Nat → Int32) (v_ti : Nat → Int32) (v_be : Nat → Int32) (v_te : Nat → Int32) (v_ch : Nat → Int32) (v_up : Int32) (v_fu : Int32) (v_tm : Int32) (v_tc : Int32), Rel u_ha u_da u_ma u_up u_fu v_da v_ma v_ha v_up v_fu → ∀ (H : Heap) (locs : List Loc), va_P (dC, dI) vwCl ((wB A_x A_d A_mh A_jh A_ha A_da A_ma A_ja K_ha K_da K_ma K_ja u_ha u_da u_ma u_ja u_up u_fu) ++ (wM N_x N_da N_ma N_ha N_ho N_ti N_be N_te N_ch J_da J_ma J_ha J_ho J_ti J_be J_te J_ch v_da v_ma v_ha v_ho v_ti v_be v_te v_ch v_up v_fu v_tm v_tc)) H → va_D (fun q : Nat => s.heap.size ≤ q) ((wB A_x A_d A_mh A_jh A_ha A_da A_ma A_ja K_ha K_da K_ma K_ja u_ha u_da u_ma u_ja u_up u_fu) ++ (wM N_x N_da N_ma N_ha N_ho N_ti N_be N_te N_ch J_da J_ma J_ha J_ho J_ti J_be J_te J_ch v_da v_ma v_ha v_ho v_ti v_be v_te v_ch v_up v_fu v_tm v_tc)) → va_S (fun q : Nat => s.heap.size ≤ q) s.heap H locs → ∀ (ls : Array Slot), lv_has ls 4 [(0, .ref b), (1, .ref A_x), (2, .ref N_x), (3, .int (nI i))] → W p l e room_1 s m #[Value.ref b] below meth c H locs 17 1343 (lw_Z below #[Value.ref b] s) (F0 m 636 ls [])) : W p l e room_1 s m #[Value.ref b] below meth c H locs 17 1343 (lw_Z below #[Value.ref b] s) (F0 m 350 ls []) := by
  obtain ⟨hx, hb, hr, hml, hown, hts0, hX, hbl, hlocks, hgv⟩ := C0
  have hts : ∀ w ∈ wsL_law, w.before #[Value.ref b] s = true := fun w h => hts0 w (wsL_law_in w h)
  have hA : ∀ q : Nat, s.heap.size ≤ q → (fun q : Nat => s.heap.size ≤ q) q := fun _ h => h
  have hbA : ¬ (fun q : Nat => s.heap.size ≤ q) b := Nat.not_le.mpr hbl
  have hown : s.vm.findClass RL = some m.cls := hown
  have hin1 : vp_in (nI i + (1 : Int32)) L := vp_in_at (nI_add i 1) (by omega) (by omega)
  obtain ⟨r, e4, e5, R2⟩ := st_length  R (xs (nI i + (1 : Int32)).toNatClampNeg)
  refine lv_aload_n hx hb dL_law_350 rfl (lv_at hl 1 rfl) ?_
  refine lv_aload_n hx hb dL_law_351 rfl (lv_at hl 0 rfl) ?_
  refine lv_iload_n hx hb dL_law_352 rfl (lv_at hl 3 rfl) ?_
  refine lv_iconst (v := 1) hx hb dL_law_353 (by decide) ?_
  refine lv_iadd hx hb dL_law_354 ?_
  refine va_sld hx hb hX hbl hbA hS hin1 dL_law_355 ?_
  refine vp_callSi (W.runV (As := [.int (xs (nI i + (1 : Int32)).toNatClampNeg)]) (rest := []) ⟨hx, hb, hml, hown, hts⟩ (k_X4_length l dC dI A_x A_d A_mh A_jh A_ha A_da A_ma A_ja K_ha K_da K_ma K_ja b_ha b_da b_ma b_ja b_up b_fu (xs (nI i + (1 : Int32)).toNatClampNeg) _ e4) (cwV 1 hts gL_law_X4_length rfl rfl rfl (by decide +kernel) ⟨Nat.le_of_ble_eq_true rfl, Nat.le_of_ble_eq_true rfl⟩) ⟨w_blR, va_recv hK hP (ci := 2) (q0 := 0) rfl rfl, fun U hU hW => ⟨rfl, by rw [hU]; exact hP.sub [0, 1, 2, 3, 4, 5, 6, 7] rfl, va_K.moved hW.alike (hK.sub [0, 1, 2, 3] rfl)⟩⟩ rfl rfl hl.1 rfl (lv_room (Nat.le_of_ble_eq_true rfl)) dL_law_356 ⟨Nat.le_of_ble_eq_true rfl, Nat.le_of_ble_eq_true rfl⟩) (fun _ ey => ?_)
  subst ey
  refine lv_aload_n hx hb dL_law_359 rfl (lv_at hl 2 rfl) ?_
  refine lv_aload_n hx hb dL_law_360 rfl (lv_at hl 0 rfl) ?_
  refine lv_iload_n hx hb dL_law_361 rfl (lv_at hl 3 rfl) ?_
  refine lv_iconst (v := 1) hx hb dL_law_362 (by decide) ?_
  refine lv_iadd hx hb dL_law_363 ?_
  refine va_sld hx hb hX hbl hbA hS hin1 dL_law_364 ?_
  refine vp_callSi (W.runV (As := [.int (xs (nI i + (1 : Int32)).toNatClampNeg)]) (rest := [.int r]) ⟨hx, hb, hml, hown, hts⟩ (k_X5_length l dC dI N_x N_da N_ma N_ha N_ho N_ti N_be N_te N_ch J_da J_ma J_ha J_ho J_ti J_be J_te J_ch n_da n_ma n_ha n_ho n_ti n_be n_te n_ch n_up n_fu n_tm n_tc (xs (nI i + (1 : Int32)).toNatClampNeg) _ e5) (cwV 1 hts gL_law_X5_length rfl rfl rfl (by decide +kernel) ⟨Nat.le_of_ble_eq_true rfl, Nat.le_of_ble_eq_true rfl⟩) ⟨w_blR, va_recv hK hP (ci := 3) (q0 := 8) rfl rfl, fun U hU hW => ⟨rfl, by rw [hU]; exact hP.sub [8, 9, 10, 11, 12, 13, 14, 15, 16] rfl, va_K.moved hW.alike (hK.sub [4, 5, 6, 7, 8, 9, 10, 11] rfl)⟩⟩ rfl rfl hl.1 rfl (lv_room (Nat.le_of_ble_eq_true rfl)) dL_law_365 ⟨Nat.le_of_ble_eq_true rfl, Nat.le_of_ble_eq_true rfl⟩) (fun _ ey => ?_)
  subst ey
  refine lv_icmp_eq (tgt := 636) hx hb dL_law_368 (by decide) (fun _ => ?_) (fun cx => absurd rfl cx)
  exact K b_ha b_da b_ma b_ja b_up b_fu n_da n_ma n_ha n_ho n_ti n_be n_te n_ch n_up n_fu n_tm n_tc R2 _ _ hP hD hS _ hl
set_option maxHeartbeats 4000000 in
set_option maxRecDepth 100000 in
theorem law_c9 {p : Program} {l : Launch} {e : Env} {s : State} {m : MethodId} {below : List Frame} {meth : Method} {c : Code} {dC : Nat → ClassId} {dI : Nat → Nat → Nat} {b L : Nat} {xs : Nat → Int32} (hL : L ≤ 256) (C0 : lw_At p s m meth c b L xs) {A_x A_d A_mh A_jh A_ha A_da A_ma A_ja N_x N_da N_ma N_ha N_ho N_ti N_be N_te N_ch : Nat} {K_ha K_da K_ma K_ja J_da J_ma J_ha J_ho J_ti J_be J_te J_ch : ClassId} {b_ha : Nat → Int32} {b_da : Nat → Int32} {b_ma : Nat → Int32} {b_ja : Nat → Int32} {b_up : Int32} {b_fu : Int32} {n_da : Nat → Int32} {n_ma : Nat → Int32} {n_ha : Nat → Int32} {n_ho : Nat → Int32} {n_ti : Nat → Int32} {n_be : Nat → Int32} {n_te : Nat → Int32} {n_ch : Nat → Int32} {n_up : Int32} {n_fu : Int32} {n_tm : Int32} {n_tc : Int32} {i : Nat} (hi : i + 4 ≤ L) (R : Rel b_ha b_da b_ma b_up b_fu n_da n_ma n_ha n_up n_fu) (H : Heap) (locs : List Loc) (hK : va_K (dC, dI) vwCl ((tB K_ha K_da K_ma K_ja) ++ (tM J_da J_ma J_ha J_ho J_ti J_be J_te J_ch)) s) (hP : va_P (dC, dI) vwCl ((wB A_x A_d A_mh A_jh A_ha A_da A_ma A_ja K_ha K_da K_ma K_ja b_ha b_da b_ma b_ja b_up b_fu) ++ (wM N_x N_da N_ma N_ha N_ho N_ti N_be N_te N_ch J_da J_ma J_ha J_ho J_ti J_be J_te J_ch n_da n_ma n_ha n_ho n_ti n_be n_te n_ch n_up n_fu n_tm n_tc)) H) (hD : va_D (fun q : Nat => s.heap.size ≤ q) ((wB A_x A_d A_mh A_jh A_ha A_da A_ma A_ja K_ha K_da K_ma K_ja b_ha b_da b_ma b_ja b_up b_fu) ++ (wM N_x N_da N_ma N_ha N_ho N_ti N_be N_te N_ch J_da J_ma J_ha J_ho J_ti J_be J_te J_ch n_da n_ma n_ha n_ho n_ti n_be n_te n_ch n_up n_fu n_tm n_tc))) (hS : va_S (fun q : Nat => s.heap.size ≤ q) s.heap H locs) (ls : Array Slot) (hl : lv_has ls 4 [(0, .ref b), (1, .ref A_x), (2, .ref N_x), (3, .int (nI i))])
    (K : ∀ (u_ha : Nat → Int32) (u_da : Nat → Int32) (u_ma : Nat → Int32) (u_ja : Nat → Int32) (u_up : Int32) (u_fu : Int32) (v_da : Nat → Int32) (v_ma : Nat → Int32) (v_ha : Nat → Int32) (v_ho : Nat → Int32) (v_ti : Nat → Int32) (v_be : Nat → Int32) (v_te : Nat → Int32) (v_ch : Nat → Int32) (v_up : Int32) (v_fu : Int32) (v_tm : Int32) (v_tc : Int32), Rel u_ha u_da u_ma u_up u_fu v_da v_ma v_ha v_up v_fu → ∀ (H : Heap) (locs : List Loc), va_P (dC, dI) vwCl ((wB A_x A_d A_mh A_jh A_ha A_da A_ma A_ja K_ha K_da K_ma K_ja u_ha u_da u_ma u_ja u_up u_fu) ++ (wM N_x N_da N_ma N_ha N_ho N_ti N_be N_te N_ch J_da J_ma J_ha J_ho J_ti J_be J_te J_ch v_da v_ma v_ha v_ho v_ti v_be v_te v_ch v_up v_fu v_tm v_tc)) H → va_D (fun q : Nat => s.heap.size ≤ q) ((wB A_x A_d A_mh A_jh A_ha A_da A_ma A_ja K_ha K_da K_ma K_ja u_ha u_da u_ma u_ja u_up u_fu) ++ (wM N_x N_da N_ma N_ha N_ho N_ti N_be N_te N_ch J_da J_ma J_ha J_ho J_ti J_be J_te J_ch v_da v_ma v_ha v_ho v_ti v_be v_te v_ch v_up v_fu v_tm v_tc)) → va_S (fun q : Nat => s.heap.size ≤ q) s.heap H locs → ∀ (ls : Array Slot), lv_has ls 4 [(0, .ref b), (1, .ref A_x), (2, .ref N_x), (3, .int (nI i))] → W p l e room_1 s m #[Value.ref b] below meth c H locs 17 1343 (lw_Z below #[Value.ref b] s) (F0 m 636 ls [])) : W p l e room_1 s m #[Value.ref b] below meth c H locs 17 1343 (lw_Z below #[Value.ref b] s) (F0 m 373 ls []) := by
  obtain ⟨hx, hb, hr, hml, hown, hts0, hX, hbl, hlocks, hgv⟩ := C0
  have hts : ∀ w ∈ wsL_law, w.before #[Value.ref b] s = true := fun w h => hts0 w (wsL_law_in w h)
  have hA : ∀ q : Nat, s.heap.size ≤ q → (fun q : Nat => s.heap.size ≤ q) q := fun _ h => h
  have hbA : ¬ (fun q : Nat => s.heap.size ≤ q) b := Nat.not_le.mpr hbl
  have hown : s.vm.findClass RL = some m.cls := hown
  have hin1 : vp_in (nI i + (1 : Int32)) L := vp_in_at (nI_add i 1) (by omega) (by omega)
  have hin2 : vp_in (nI i + (2 : Int32)) L := vp_in_at (nI_add i 2) (by omega) (by omega)
  obtain ⟨r, e4, e5, R2⟩ := st_extent  R (xs (nI i + (1 : Int32)).toNatClampNeg) (xs (nI i + (2 : Int32)).toNatClampNeg)
  refine lv_aload_n hx hb dL_law_373 rfl (lv_at hl 1 rfl) ?_
  refine lv_aload_n hx hb dL_law_374 rfl (lv_at hl 0 rfl) ?_
  refine lv_iload_n hx hb dL_law_375 rfl (lv_at hl 3 rfl) ?_
  refine lv_iconst (v := 1) hx hb dL_law_376 (by decide) ?_
  refine lv_iadd hx hb dL_law_377 ?_
  refine va_sld hx hb hX hbl hbA hS hin1 dL_law_378 ?_
  refine lv_aload_n hx hb dL_law_379 rfl (lv_at hl 0 rfl) ?_
  refine lv_iload_n hx hb dL_law_380 rfl (lv_at hl 3 rfl) ?_
  refine lv_iconst (v := 2) hx hb dL_law_381 (by decide) ?_
  refine lv_iadd hx hb dL_law_382 ?_
  refine va_sld hx hb hX hbl hbA hS hin2 dL_law_383 ?_
  refine vp_callSi (W.runV (As := [.int (xs (nI i + (1 : Int32)).toNatClampNeg), .int (xs (nI i + (2 : Int32)).toNatClampNeg)]) (rest := []) ⟨hx, hb, hml, hown, hts⟩ (k_X4_extent l dC dI A_x A_d A_mh A_jh A_ha A_da A_ma A_ja K_ha K_da K_ma K_ja b_ha b_da b_ma b_ja b_up b_fu (xs (nI i + (1 : Int32)).toNatClampNeg) (xs (nI i + (2 : Int32)).toNatClampNeg) _ e4) (cwV 2 hts gL_law_X4_extent rfl rfl rfl (by decide +kernel) ⟨Nat.le_of_ble_eq_true rfl, Nat.le_of_ble_eq_true rfl⟩) ⟨w_blR, va_recv hK hP (ci := 2) (q0 := 0) rfl rfl, fun U hU hW => ⟨rfl, by rw [hU]; exact hP.sub [0, 1, 2, 3, 4, 5, 6, 7] rfl, va_K.moved hW.alike (hK.sub [0, 1, 2, 3] rfl)⟩⟩ rfl rfl hl.1 rfl (lv_room (Nat.le_of_ble_eq_true rfl)) dL_law_384 ⟨Nat.le_of_ble_eq_true rfl, Nat.le_of_ble_eq_true rfl⟩) (fun _ ey => ?_)
  subst ey
  refine lv_aload_n hx hb dL_law_387 rfl (lv_at hl 2 rfl) ?_
  refine lv_aload_n hx hb dL_law_388 rfl (lv_at hl 0 rfl) ?_
  refine lv_iload_n hx hb dL_law_389 rfl (lv_at hl 3 rfl) ?_
  refine lv_iconst (v := 1) hx hb dL_law_390 (by decide) ?_
  refine lv_iadd hx hb dL_law_391 ?_
  refine va_sld hx hb hX hbl hbA hS hin1 dL_law_392 ?_
  refine lv_aload_n hx hb dL_law_393 rfl (lv_at hl 0 rfl) ?_
  refine lv_iload_n hx hb dL_law_394 rfl (lv_at hl 3 rfl) ?_
  refine lv_iconst (v := 2) hx hb dL_law_395 (by decide) ?_
  refine lv_iadd hx hb dL_law_396 ?_
  refine va_sld hx hb hX hbl hbA hS hin2 dL_law_397 ?_
  refine vp_callSi (W.runV (As := [.int (xs (nI i + (1 : Int32)).toNatClampNeg), .int (xs (nI i + (2 : Int32)).toNatClampNeg)]) (rest := [.int r]) ⟨hx, hb, hml, hown, hts⟩ (k_X5_extent l dC dI N_x N_da N_ma N_ha N_ho N_ti N_be N_te N_ch J_da J_ma J_ha J_ho J_ti J_be J_te J_ch n_da n_ma n_ha n_ho n_ti n_be n_te n_ch n_up n_fu n_tm n_tc (xs (nI i + (1 : Int32)).toNatClampNeg) (xs (nI i + (2 : Int32)).toNatClampNeg) _ e5) (cwV 2 hts gL_law_X5_extent rfl rfl rfl (by decide +kernel) ⟨Nat.le_of_ble_eq_true rfl, Nat.le_of_ble_eq_true rfl⟩) ⟨w_blR, va_recv hK hP (ci := 3) (q0 := 8) rfl rfl, fun U hU hW => ⟨rfl, by rw [hU]; exact hP.sub [8, 9, 10, 11, 12, 13, 14, 15, 16] rfl, va_K.moved hW.alike (hK.sub [4, 5, 6, 7, 8, 9, 10, 11] rfl)⟩⟩ rfl rfl hl.1 rfl (lv_room (Nat.le_of_ble_eq_true rfl)) dL_law_398 ⟨Nat.le_of_ble_eq_true rfl, Nat.le_of_ble_eq_true rfl⟩) (fun _ ey => ?_)
  subst ey
  refine lv_icmp_eq (tgt := 636) hx hb dL_law_401 (by decide) (fun _ => ?_) (fun cx => absurd rfl cx)
  exact K b_ha b_da b_ma b_ja b_up b_fu n_da n_ma n_ha n_ho n_ti n_be n_te n_ch n_up n_fu n_tm n_tc R2 _ _ hP hD hS _ hl
set_option maxHeartbeats 4000000 in
set_option maxRecDepth 100000 in
theorem law_c10 {p : Program} {l : Launch} {e : Env} {s : State} {m : MethodId} {below : List Frame} {meth : Method} {c : Code} {dC : Nat → ClassId} {dI : Nat → Nat → Nat} {b L : Nat} {xs : Nat → Int32} (hL : L ≤ 256) (C0 : lw_At p s m meth c b L xs) {A_x A_d A_mh A_jh A_ha A_da A_ma A_ja N_x N_da N_ma N_ha N_ho N_ti N_be N_te N_ch : Nat} {K_ha K_da K_ma K_ja J_da J_ma J_ha J_ho J_ti J_be J_te J_ch : ClassId} {b_ha : Nat → Int32} {b_da : Nat → Int32} {b_ma : Nat → Int32} {b_ja : Nat → Int32} {b_up : Int32} {b_fu : Int32} {n_da : Nat → Int32} {n_ma : Nat → Int32} {n_ha : Nat → Int32} {n_ho : Nat → Int32} {n_ti : Nat → Int32} {n_be : Nat → Int32} {n_te : Nat → Int32} {n_ch : Nat → Int32} {n_up : Int32} {n_fu : Int32} {n_tm : Int32} {n_tc : Int32} {i : Nat} (hi : i + 4 ≤ L) (R : Rel b_ha b_da b_ma b_up b_fu n_da n_ma n_ha n_up n_fu) (H : Heap) (locs : List Loc) (hK : va_K (dC, dI) vwCl ((tB K_ha K_da K_ma K_ja) ++ (tM J_da J_ma J_ha J_ho J_ti J_be J_te J_ch)) s) (hP : va_P (dC, dI) vwCl ((wB A_x A_d A_mh A_jh A_ha A_da A_ma A_ja K_ha K_da K_ma K_ja b_ha b_da b_ma b_ja b_up b_fu) ++ (wM N_x N_da N_ma N_ha N_ho N_ti N_be N_te N_ch J_da J_ma J_ha J_ho J_ti J_be J_te J_ch n_da n_ma n_ha n_ho n_ti n_be n_te n_ch n_up n_fu n_tm n_tc)) H) (hD : va_D (fun q : Nat => s.heap.size ≤ q) ((wB A_x A_d A_mh A_jh A_ha A_da A_ma A_ja K_ha K_da K_ma K_ja b_ha b_da b_ma b_ja b_up b_fu) ++ (wM N_x N_da N_ma N_ha N_ho N_ti N_be N_te N_ch J_da J_ma J_ha J_ho J_ti J_be J_te J_ch n_da n_ma n_ha n_ho n_ti n_be n_te n_ch n_up n_fu n_tm n_tc))) (hS : va_S (fun q : Nat => s.heap.size ≤ q) s.heap H locs) (ls : Array Slot) (hl : lv_has ls 4 [(0, .ref b), (1, .ref A_x), (2, .ref N_x), (3, .int (nI i))])
    (K : ∀ (u_ha : Nat → Int32) (u_da : Nat → Int32) (u_ma : Nat → Int32) (u_ja : Nat → Int32) (u_up : Int32) (u_fu : Int32) (v_da : Nat → Int32) (v_ma : Nat → Int32) (v_ha : Nat → Int32) (v_ho : Nat → Int32) (v_ti : Nat → Int32) (v_be : Nat → Int32) (v_te : Nat → Int32) (v_ch : Nat → Int32) (v_up : Int32) (v_fu : Int32) (v_tm : Int32) (v_tc : Int32), Rel u_ha u_da u_ma u_up u_fu v_da v_ma v_ha v_up v_fu → ∀ (H : Heap) (locs : List Loc), va_P (dC, dI) vwCl ((wB A_x A_d A_mh A_jh A_ha A_da A_ma A_ja K_ha K_da K_ma K_ja u_ha u_da u_ma u_ja u_up u_fu) ++ (wM N_x N_da N_ma N_ha N_ho N_ti N_be N_te N_ch J_da J_ma J_ha J_ho J_ti J_be J_te J_ch v_da v_ma v_ha v_ho v_ti v_be v_te v_ch v_up v_fu v_tm v_tc)) H → va_D (fun q : Nat => s.heap.size ≤ q) ((wB A_x A_d A_mh A_jh A_ha A_da A_ma A_ja K_ha K_da K_ma K_ja u_ha u_da u_ma u_ja u_up u_fu) ++ (wM N_x N_da N_ma N_ha N_ho N_ti N_be N_te N_ch J_da J_ma J_ha J_ho J_ti J_be J_te J_ch v_da v_ma v_ha v_ho v_ti v_be v_te v_ch v_up v_fu v_tm v_tc)) → va_S (fun q : Nat => s.heap.size ≤ q) s.heap H locs → ∀ (ls : Array Slot), lv_has ls 4 [(0, .ref b), (1, .ref A_x), (2, .ref N_x), (3, .int (nI i))] → W p l e room_1 s m #[Value.ref b] below meth c H locs 17 1343 (lw_Z below #[Value.ref b] s) (F0 m 636 ls [])) : W p l e room_1 s m #[Value.ref b] below meth c H locs 17 1343 (lw_Z below #[Value.ref b] s) (F0 m 406 ls []) := by
  obtain ⟨hx, hb, hr, hml, hown, hts0, hX, hbl, hlocks, hgv⟩ := C0
  have hts : ∀ w ∈ wsL_law, w.before #[Value.ref b] s = true := fun w h => hts0 w (wsL_law_in w h)
  have hA : ∀ q : Nat, s.heap.size ≤ q → (fun q : Nat => s.heap.size ≤ q) q := fun _ h => h
  have hbA : ¬ (fun q : Nat => s.heap.size ≤ q) b := Nat.not_le.mpr hbl
  have hown : s.vm.findClass RL = some m.cls := hown
  have hin1 : vp_in (nI i + (1 : Int32)) L := vp_in_at (nI_add i 1) (by omega) (by omega)
  have hin2 : vp_in (nI i + (2 : Int32)) L := vp_in_at (nI_add i 2) (by omega) (by omega)
  obtain ⟨r, u_ma, v_ma, e4, e5, R2⟩ := st_rename  R (xs (nI i + (1 : Int32)).toNatClampNeg) (xs (nI i + (2 : Int32)).toNatClampNeg)
  refine lv_aload_n hx hb dL_law_406 rfl (lv_at hl 1 rfl) ?_
  refine lv_aload_n hx hb dL_law_407 rfl (lv_at hl 0 rfl) ?_
  refine lv_iload_n hx hb dL_law_408 rfl (lv_at hl 3 rfl) ?_
  refine lv_iconst (v := 1) hx hb dL_law_409 (by decide) ?_
  refine lv_iadd hx hb dL_law_410 ?_
  refine va_sld hx hb hX hbl hbA hS hin1 dL_law_411 ?_
  refine lv_aload_n hx hb dL_law_412 rfl (lv_at hl 0 rfl) ?_
  refine lv_iload_n hx hb dL_law_413 rfl (lv_at hl 3 rfl) ?_
  refine lv_iconst (v := 2) hx hb dL_law_414 (by decide) ?_
  refine lv_iadd hx hb dL_law_415 ?_
  refine va_sld hx hb hX hbl hbA hS hin2 dL_law_416 ?_
  have hPc := hP.sub (ws' := (wB A_x A_d A_mh A_jh A_ha A_da A_ma A_ja K_ha K_da K_ma K_ja b_ha b_da b_ma b_ja b_up b_fu)) [0, 1, 2, 3, 4, 5, 6, 7] rfl
  have hDc := hD.sub (ws' := (wB A_x A_d A_mh A_jh A_ha A_da A_ma A_ja K_ha K_da K_ma K_ja b_ha b_da b_ma b_ja b_up b_fu)) [0, 1, 2, 3, 4, 5, 6, 7] (by decide) rfl
  have hKc := hK.sub (tys' := (tB K_ha K_da K_ma K_ja)) [0, 1, 2, 3] rfl
  have hFc := va_free (wc := (wB A_x A_d A_mh A_jh A_ha A_da A_ma A_ja K_ha K_da K_ma K_ja b_ha b_da b_ma b_ja b_up b_fu)) hD hS hA [0, 1, 2, 3, 4, 5, 6, 7] rfl
  refine va_calli (va_runV (As := [.int (xs (nI i + (1 : Int32)).toNatClampNeg), .int (xs (nI i + (2 : Int32)).toNatClampNeg)]) (rest := []) ⟨hx, hb, hml, hown, hts⟩ (k_X4_rename l dC dI A_x A_d A_mh A_jh A_ha A_da A_ma A_ja K_ha K_da K_ma K_ja b_ha b_da b_ma b_ja b_up b_fu H.size (xs (nI i + (1 : Int32)).toNatClampNeg) (xs (nI i + (2 : Int32)).toNatClampNeg) _ _  e4) (cwV 2 hts gL_law_X4_rename rfl rfl rfl (by decide +kernel) ⟨Nat.le_of_ble_eq_true rfl, Nat.le_of_ble_eq_true rfl⟩) ⟨w_blW, va_recv hKc hPc (ci := 2) (q0 := 0) rfl rfl, fun U hU hW => ⟨rfl, by rw [hU], by rw [hU]; exact hPc, va_K.moved hW.alike hKc, hDc.weaken (fun _ _ _ _ => trivial)⟩⟩ rfl rfl hl.1 rfl (lv_room (Nat.le_of_ble_eq_true rfl)) dL_law_417 ⟨Nat.le_of_ble_eq_true rfl, Nat.le_of_ble_eq_true rfl⟩) hS (fun q _ h => hFc q h) hFc (fun _ _ t H_X4 locs_X4 ht hvm hw hB hz1 hk1 hS => ?_)
  subst hw
  refine W.widen (k := 17) (n := 1343) (Nat.le_of_ble_eq_true rfl) (Nat.le_of_ble_eq_true rfl) ?_
  obtain ⟨hP1, hD1⟩ := hB
  rw [ht] at hP1
  obtain ⟨hP, hD⟩ := va_join (wr := (wM N_x N_da N_ma N_ha N_ho N_ti N_be N_te N_ch J_da J_ma J_ha J_ho J_ti J_be J_te J_ch n_da n_ma n_ha n_ho n_ti n_be n_te n_ch n_up n_fu n_tm n_tc)) (w1 := (wB A_x A_d A_mh A_jh A_ha A_da A_ma A_ja K_ha K_da K_ma K_ja b_ha b_da u_ma b_ja b_up b_fu)) hP hD [0, 1, 2, 3, 4, 5, 6, 7] [8, 9, 10, 11, 12, 13, 14, 15, 16] rfl rfl (by decide) (by decide) hk1 hFc hP1 hD1
  have hP : va_P (dC, dI) vwCl ((wB A_x A_d A_mh A_jh A_ha A_da A_ma A_ja K_ha K_da K_ma K_ja b_ha b_da u_ma b_ja b_up b_fu) ++ (wM N_x N_da N_ma N_ha N_ho N_ti N_be N_te N_ch J_da J_ma J_ha J_ho J_ti J_be J_te J_ch n_da n_ma n_ha n_ho n_ti n_be n_te n_ch n_up n_fu n_tm n_tc)) H_X4 := hP.sub [9, 10, 11, 12, 13, 14, 15, 16, 0, 1, 2, 3, 4, 5, 6, 7, 8] rfl
  have hD : va_D (fun q : Nat => s.heap.size ≤ q) ((wB A_x A_d A_mh A_jh A_ha A_da A_ma A_ja K_ha K_da K_ma K_ja b_ha b_da u_ma b_ja b_up b_fu) ++ (wM N_x N_da N_ma N_ha N_ho N_ti N_be N_te N_ch J_da J_ma J_ha J_ho J_ti J_be J_te J_ch n_da n_ma n_ha n_ho n_ti n_be n_te n_ch n_up n_fu n_tm n_tc)) := hD.sub [9, 10, 11, 12, 13, 14, 15, 16, 0, 1, 2, 3, 4, 5, 6, 7, 8] (by decide) rfl
  refine lv_aload_n hx hb dL_law_420 rfl (lv_at hl 2 rfl) ?_
  refine lv_aload_n hx hb dL_law_421 rfl (lv_at hl 0 rfl) ?_
  refine lv_iload_n hx hb dL_law_422 rfl (lv_at hl 3 rfl) ?_
  refine lv_iconst (v := 1) hx hb dL_law_423 (by decide) ?_
  refine lv_iadd hx hb dL_law_424 ?_
  refine va_sld hx hb hX hbl hbA hS hin1 dL_law_425 ?_
  refine lv_aload_n hx hb dL_law_426 rfl (lv_at hl 0 rfl) ?_
  refine lv_iload_n hx hb dL_law_427 rfl (lv_at hl 3 rfl) ?_
  refine lv_iconst (v := 2) hx hb dL_law_428 (by decide) ?_
  refine lv_iadd hx hb dL_law_429 ?_
  refine va_sld hx hb hX hbl hbA hS hin2 dL_law_430 ?_
  have hPc := hP.sub (ws' := (wM N_x N_da N_ma N_ha N_ho N_ti N_be N_te N_ch J_da J_ma J_ha J_ho J_ti J_be J_te J_ch n_da n_ma n_ha n_ho n_ti n_be n_te n_ch n_up n_fu n_tm n_tc)) [8, 9, 10, 11, 12, 13, 14, 15, 16] rfl
  have hDc := hD.sub (ws' := (wM N_x N_da N_ma N_ha N_ho N_ti N_be N_te N_ch J_da J_ma J_ha J_ho J_ti J_be J_te J_ch n_da n_ma n_ha n_ho n_ti n_be n_te n_ch n_up n_fu n_tm n_tc)) [8, 9, 10, 11, 12, 13, 14, 15, 16] (by decide) rfl
  have hKc := hK.sub (tys' := (tM J_da J_ma J_ha J_ho J_ti J_be J_te J_ch)) [4, 5, 6, 7, 8, 9, 10, 11] rfl
  have hFc := va_free (wc := (wM N_x N_da N_ma N_ha N_ho N_ti N_be N_te N_ch J_da J_ma J_ha J_ho J_ti J_be J_te J_ch n_da n_ma n_ha n_ho n_ti n_be n_te n_ch n_up n_fu n_tm n_tc)) hD hS hA [8, 9, 10, 11, 12, 13, 14, 15, 16] rfl
  refine va_calli (va_runV (As := [.int (xs (nI i + (1 : Int32)).toNatClampNeg), .int (xs (nI i + (2 : Int32)).toNatClampNeg)]) (rest := [.int r]) ⟨hx, hb, hml, hown, hts⟩ (k_X5_rename l dC dI N_x N_da N_ma N_ha N_ho N_ti N_be N_te N_ch J_da J_ma J_ha J_ho J_ti J_be J_te J_ch n_da n_ma n_ha n_ho n_ti n_be n_te n_ch n_up n_fu n_tm n_tc H_X4.size (xs (nI i + (1 : Int32)).toNatClampNeg) (xs (nI i + (2 : Int32)).toNatClampNeg) _ _  e5) (cwV 2 hts gL_law_X5_rename rfl rfl rfl (by decide +kernel) ⟨Nat.le_of_ble_eq_true rfl, Nat.le_of_ble_eq_true rfl⟩) ⟨w_blW, va_recv hKc hPc (ci := 3) (q0 := 0) rfl rfl, fun U hU hW => ⟨rfl, by rw [hU], by rw [hU]; exact hPc, va_K.moved hW.alike hKc, hDc.weaken (fun _ _ _ _ => trivial)⟩⟩ rfl rfl hl.1 rfl (lv_room (Nat.le_of_ble_eq_true rfl)) dL_law_431 ⟨Nat.le_of_ble_eq_true rfl, Nat.le_of_ble_eq_true rfl⟩) hS (fun q _ h => hFc q h) hFc (fun _ _ t H_X5 locs_X5 ht hvm hw hB hz1 hk1 hS => ?_)
  subst hw
  refine W.widen (k := 17) (n := 1343) (Nat.le_of_ble_eq_true rfl) (Nat.le_of_ble_eq_true rfl) ?_
  obtain ⟨hP1, hD1⟩ := hB
  rw [ht] at hP1
  obtain ⟨hP, hD⟩ := va_join (wr := (wB A_x A_d A_mh A_jh A_ha A_da A_ma A_ja K_ha K_da K_ma K_ja b_ha b_da u_ma b_ja b_up b_fu)) (w1 := (wM N_x N_da N_ma N_ha N_ho N_ti N_be N_te N_ch J_da J_ma J_ha J_ho J_ti J_be J_te J_ch n_da v_ma n_ha n_ho n_ti n_be n_te n_ch n_up n_fu n_tm n_tc)) hP hD [8, 9, 10, 11, 12, 13, 14, 15, 16] [0, 1, 2, 3, 4, 5, 6, 7] rfl rfl (by decide) (by decide) hk1 hFc hP1 hD1
  have hP : va_P (dC, dI) vwCl ((wB A_x A_d A_mh A_jh A_ha A_da A_ma A_ja K_ha K_da K_ma K_ja b_ha b_da u_ma b_ja b_up b_fu) ++ (wM N_x N_da N_ma N_ha N_ho N_ti N_be N_te N_ch J_da J_ma J_ha J_ho J_ti J_be J_te J_ch n_da v_ma n_ha n_ho n_ti n_be n_te n_ch n_up n_fu n_tm n_tc)) H_X5 := hP
  have hD : va_D (fun q : Nat => s.heap.size ≤ q) ((wB A_x A_d A_mh A_jh A_ha A_da A_ma A_ja K_ha K_da K_ma K_ja b_ha b_da u_ma b_ja b_up b_fu) ++ (wM N_x N_da N_ma N_ha N_ho N_ti N_be N_te N_ch J_da J_ma J_ha J_ho J_ti J_be J_te J_ch n_da v_ma n_ha n_ho n_ti n_be n_te n_ch n_up n_fu n_tm n_tc)) := hD
  refine lv_icmp_eq (tgt := 636) hx hb dL_law_434 (by decide) (fun _ => ?_) (fun cx => absurd rfl cx)
  exact K b_ha b_da u_ma b_ja b_up b_fu n_da v_ma n_ha n_ho n_ti n_be n_te n_ch n_up n_fu n_tm n_tc R2 _ _ hP hD hS _ hl
set_option maxHeartbeats 4000000 in
set_option maxRecDepth 100000 in
theorem law_c11 {p : Program} {l : Launch} {e : Env} {s : State} {m : MethodId} {below : List Frame} {meth : Method} {c : Code} {dC : Nat → ClassId} {dI : Nat → Nat → Nat} {b L : Nat} {xs : Nat → Int32} (hL : L ≤ 256) (C0 : lw_At p s m meth c b L xs) {A_x A_d A_mh A_jh A_ha A_da A_ma A_ja N_x N_da N_ma N_ha N_ho N_ti N_be N_te N_ch : Nat} {K_ha K_da K_ma K_ja J_da J_ma J_ha J_ho J_ti J_be J_te J_ch : ClassId} {b_ha : Nat → Int32} {b_da : Nat → Int32} {b_ma : Nat → Int32} {b_ja : Nat → Int32} {b_up : Int32} {b_fu : Int32} {n_da : Nat → Int32} {n_ma : Nat → Int32} {n_ha : Nat → Int32} {n_ho : Nat → Int32} {n_ti : Nat → Int32} {n_be : Nat → Int32} {n_te : Nat → Int32} {n_ch : Nat → Int32} {n_up : Int32} {n_fu : Int32} {n_tm : Int32} {n_tc : Int32} {i : Nat} (hi : i + 4 ≤ L) (R : Rel b_ha b_da b_ma b_up b_fu n_da n_ma n_ha n_up n_fu) (H : Heap) (locs : List Loc) (hK : va_K (dC, dI) vwCl ((tB K_ha K_da K_ma K_ja) ++ (tM J_da J_ma J_ha J_ho J_ti J_be J_te J_ch)) s) (hP : va_P (dC, dI) vwCl ((wB A_x A_d A_mh A_jh A_ha A_da A_ma A_ja K_ha K_da K_ma K_ja b_ha b_da b_ma b_ja b_up b_fu) ++ (wM N_x N_da N_ma N_ha N_ho N_ti N_be N_te N_ch J_da J_ma J_ha J_ho J_ti J_be J_te J_ch n_da n_ma n_ha n_ho n_ti n_be n_te n_ch n_up n_fu n_tm n_tc)) H) (hD : va_D (fun q : Nat => s.heap.size ≤ q) ((wB A_x A_d A_mh A_jh A_ha A_da A_ma A_ja K_ha K_da K_ma K_ja b_ha b_da b_ma b_ja b_up b_fu) ++ (wM N_x N_da N_ma N_ha N_ho N_ti N_be N_te N_ch J_da J_ma J_ha J_ho J_ti J_be J_te J_ch n_da n_ma n_ha n_ho n_ti n_be n_te n_ch n_up n_fu n_tm n_tc))) (hS : va_S (fun q : Nat => s.heap.size ≤ q) s.heap H locs) (ls : Array Slot) (hl : lv_has ls 4 [(0, .ref b), (1, .ref A_x), (2, .ref N_x), (3, .int (nI i))])
    (K : ∀ (u_ha : Nat → Int32) (u_da : Nat → Int32) (u_ma : Nat → Int32) (u_ja : Nat → Int32) (u_up : Int32) (u_fu : Int32) (v_da : Nat → Int32) (v_ma : Nat → Int32) (v_ha : Nat → Int32) (v_ho : Nat → Int32) (v_ti : Nat → Int32) (v_be : Nat → Int32) (v_te : Nat → Int32) (v_ch : Nat → Int32) (v_up : Int32) (v_fu : Int32) (v_tm : Int32) (v_tc : Int32), Rel u_ha u_da u_ma u_up u_fu v_da v_ma v_ha v_up v_fu → ∀ (H : Heap) (locs : List Loc), va_P (dC, dI) vwCl ((wB A_x A_d A_mh A_jh A_ha A_da A_ma A_ja K_ha K_da K_ma K_ja u_ha u_da u_ma u_ja u_up u_fu) ++ (wM N_x N_da N_ma N_ha N_ho N_ti N_be N_te N_ch J_da J_ma J_ha J_ho J_ti J_be J_te J_ch v_da v_ma v_ha v_ho v_ti v_be v_te v_ch v_up v_fu v_tm v_tc)) H → va_D (fun q : Nat => s.heap.size ≤ q) ((wB A_x A_d A_mh A_jh A_ha A_da A_ma A_ja K_ha K_da K_ma K_ja u_ha u_da u_ma u_ja u_up u_fu) ++ (wM N_x N_da N_ma N_ha N_ho N_ti N_be N_te N_ch J_da J_ma J_ha J_ho J_ti J_be J_te J_ch v_da v_ma v_ha v_ho v_ti v_be v_te v_ch v_up v_fu v_tm v_tc)) → va_S (fun q : Nat => s.heap.size ≤ q) s.heap H locs → ∀ (ls : Array Slot), lv_has ls 4 [(0, .ref b), (1, .ref A_x), (2, .ref N_x), (3, .int (nI i))] → W p l e room_1 s m #[Value.ref b] below meth c H locs 17 1343 (lw_Z below #[Value.ref b] s) (F0 m 636 ls [])) : W p l e room_1 s m #[Value.ref b] below meth c H locs 17 1343 (lw_Z below #[Value.ref b] s) (F0 m 439 ls []) := by
  obtain ⟨hx, hb, hr, hml, hown, hts0, hX, hbl, hlocks, hgv⟩ := C0
  have hts : ∀ w ∈ wsL_law, w.before #[Value.ref b] s = true := fun w h => hts0 w (wsL_law_in w h)
  have hA : ∀ q : Nat, s.heap.size ≤ q → (fun q : Nat => s.heap.size ≤ q) q := fun _ h => h
  have hbA : ¬ (fun q : Nat => s.heap.size ≤ q) b := Nat.not_le.mpr hbl
  have hown : s.vm.findClass RL = some m.cls := hown
  have hin1 : vp_in (nI i + (1 : Int32)) L := vp_in_at (nI_add i 1) (by omega) (by omega)
  have hin2 : vp_in (nI i + (2 : Int32)) L := vp_in_at (nI_add i 2) (by omega) (by omega)
  obtain ⟨r, u_ma, v_ma, e4, e5, R2⟩ := st_setQuota  R (xs (nI i + (1 : Int32)).toNatClampNeg) (xs (nI i + (2 : Int32)).toNatClampNeg)
  refine lv_aload_n hx hb dL_law_439 rfl (lv_at hl 1 rfl) ?_
  refine lv_aload_n hx hb dL_law_440 rfl (lv_at hl 0 rfl) ?_
  refine lv_iload_n hx hb dL_law_441 rfl (lv_at hl 3 rfl) ?_
  refine lv_iconst (v := 1) hx hb dL_law_442 (by decide) ?_
  refine lv_iadd hx hb dL_law_443 ?_
  refine va_sld hx hb hX hbl hbA hS hin1 dL_law_444 ?_
  refine lv_aload_n hx hb dL_law_445 rfl (lv_at hl 0 rfl) ?_
  refine lv_iload_n hx hb dL_law_446 rfl (lv_at hl 3 rfl) ?_
  refine lv_iconst (v := 2) hx hb dL_law_447 (by decide) ?_
  refine lv_iadd hx hb dL_law_448 ?_
  refine va_sld hx hb hX hbl hbA hS hin2 dL_law_449 ?_
  have hPc := hP.sub (ws' := (wB A_x A_d A_mh A_jh A_ha A_da A_ma A_ja K_ha K_da K_ma K_ja b_ha b_da b_ma b_ja b_up b_fu)) [0, 1, 2, 3, 4, 5, 6, 7] rfl
  have hDc := hD.sub (ws' := (wB A_x A_d A_mh A_jh A_ha A_da A_ma A_ja K_ha K_da K_ma K_ja b_ha b_da b_ma b_ja b_up b_fu)) [0, 1, 2, 3, 4, 5, 6, 7] (by decide) rfl
  have hKc := hK.sub (tys' := (tB K_ha K_da K_ma K_ja)) [0, 1, 2, 3] rfl
  have hFc := va_free (wc := (wB A_x A_d A_mh A_jh A_ha A_da A_ma A_ja K_ha K_da K_ma K_ja b_ha b_da b_ma b_ja b_up b_fu)) hD hS hA [0, 1, 2, 3, 4, 5, 6, 7] rfl
  refine va_calli (va_runV (As := [.int (xs (nI i + (1 : Int32)).toNatClampNeg), .int (xs (nI i + (2 : Int32)).toNatClampNeg)]) (rest := []) ⟨hx, hb, hml, hown, hts⟩ (k_X4_setQuota l dC dI A_x A_d A_mh A_jh A_ha A_da A_ma A_ja K_ha K_da K_ma K_ja b_ha b_da b_ma b_ja b_up b_fu H.size (xs (nI i + (1 : Int32)).toNatClampNeg) (xs (nI i + (2 : Int32)).toNatClampNeg) _ _  e4) (cwV 2 hts gL_law_X4_setQuota rfl rfl rfl (by decide +kernel) ⟨Nat.le_of_ble_eq_true rfl, Nat.le_of_ble_eq_true rfl⟩) ⟨w_blW, va_recv hKc hPc (ci := 2) (q0 := 0) rfl rfl, fun U hU hW => ⟨rfl, by rw [hU], by rw [hU]; exact hPc, va_K.moved hW.alike hKc, hDc.weaken (fun _ _ _ _ => trivial)⟩⟩ rfl rfl hl.1 rfl (lv_room (Nat.le_of_ble_eq_true rfl)) dL_law_450 ⟨Nat.le_of_ble_eq_true rfl, Nat.le_of_ble_eq_true rfl⟩) hS (fun q _ h => hFc q h) hFc (fun _ _ t H_X4 locs_X4 ht hvm hw hB hz1 hk1 hS => ?_)
  subst hw
  refine W.widen (k := 17) (n := 1343) (Nat.le_of_ble_eq_true rfl) (Nat.le_of_ble_eq_true rfl) ?_
  obtain ⟨hP1, hD1⟩ := hB
  rw [ht] at hP1
  obtain ⟨hP, hD⟩ := va_join (wr := (wM N_x N_da N_ma N_ha N_ho N_ti N_be N_te N_ch J_da J_ma J_ha J_ho J_ti J_be J_te J_ch n_da n_ma n_ha n_ho n_ti n_be n_te n_ch n_up n_fu n_tm n_tc)) (w1 := (wB A_x A_d A_mh A_jh A_ha A_da A_ma A_ja K_ha K_da K_ma K_ja b_ha b_da u_ma b_ja b_up b_fu)) hP hD [0, 1, 2, 3, 4, 5, 6, 7] [8, 9, 10, 11, 12, 13, 14, 15, 16] rfl rfl (by decide) (by decide) hk1 hFc hP1 hD1
  have hP : va_P (dC, dI) vwCl ((wB A_x A_d A_mh A_jh A_ha A_da A_ma A_ja K_ha K_da K_ma K_ja b_ha b_da u_ma b_ja b_up b_fu) ++ (wM N_x N_da N_ma N_ha N_ho N_ti N_be N_te N_ch J_da J_ma J_ha J_ho J_ti J_be J_te J_ch n_da n_ma n_ha n_ho n_ti n_be n_te n_ch n_up n_fu n_tm n_tc)) H_X4 := hP.sub [9, 10, 11, 12, 13, 14, 15, 16, 0, 1, 2, 3, 4, 5, 6, 7, 8] rfl
  have hD : va_D (fun q : Nat => s.heap.size ≤ q) ((wB A_x A_d A_mh A_jh A_ha A_da A_ma A_ja K_ha K_da K_ma K_ja b_ha b_da u_ma b_ja b_up b_fu) ++ (wM N_x N_da N_ma N_ha N_ho N_ti N_be N_te N_ch J_da J_ma J_ha J_ho J_ti J_be J_te J_ch n_da n_ma n_ha n_ho n_ti n_be n_te n_ch n_up n_fu n_tm n_tc)) := hD.sub [9, 10, 11, 12, 13, 14, 15, 16, 0, 1, 2, 3, 4, 5, 6, 7, 8] (by decide) rfl
  refine lv_aload_n hx hb dL_law_453 rfl (lv_at hl 2 rfl) ?_
  refine lv_aload_n hx hb dL_law_454 rfl (lv_at hl 0 rfl) ?_
  refine lv_iload_n hx hb dL_law_455 rfl (lv_at hl 3 rfl) ?_
  refine lv_iconst (v := 1) hx hb dL_law_456 (by decide) ?_
  refine lv_iadd hx hb dL_law_457 ?_
  refine va_sld hx hb hX hbl hbA hS hin1 dL_law_458 ?_
  refine lv_aload_n hx hb dL_law_459 rfl (lv_at hl 0 rfl) ?_
  refine lv_iload_n hx hb dL_law_460 rfl (lv_at hl 3 rfl) ?_
  refine lv_iconst (v := 2) hx hb dL_law_461 (by decide) ?_
  refine lv_iadd hx hb dL_law_462 ?_
  refine va_sld hx hb hX hbl hbA hS hin2 dL_law_463 ?_
  have hPc := hP.sub (ws' := (wM N_x N_da N_ma N_ha N_ho N_ti N_be N_te N_ch J_da J_ma J_ha J_ho J_ti J_be J_te J_ch n_da n_ma n_ha n_ho n_ti n_be n_te n_ch n_up n_fu n_tm n_tc)) [8, 9, 10, 11, 12, 13, 14, 15, 16] rfl
  have hDc := hD.sub (ws' := (wM N_x N_da N_ma N_ha N_ho N_ti N_be N_te N_ch J_da J_ma J_ha J_ho J_ti J_be J_te J_ch n_da n_ma n_ha n_ho n_ti n_be n_te n_ch n_up n_fu n_tm n_tc)) [8, 9, 10, 11, 12, 13, 14, 15, 16] (by decide) rfl
  have hKc := hK.sub (tys' := (tM J_da J_ma J_ha J_ho J_ti J_be J_te J_ch)) [4, 5, 6, 7, 8, 9, 10, 11] rfl
  have hFc := va_free (wc := (wM N_x N_da N_ma N_ha N_ho N_ti N_be N_te N_ch J_da J_ma J_ha J_ho J_ti J_be J_te J_ch n_da n_ma n_ha n_ho n_ti n_be n_te n_ch n_up n_fu n_tm n_tc)) hD hS hA [8, 9, 10, 11, 12, 13, 14, 15, 16] rfl
  refine va_calli (va_runV (As := [.int (xs (nI i + (1 : Int32)).toNatClampNeg), .int (xs (nI i + (2 : Int32)).toNatClampNeg)]) (rest := [.int r]) ⟨hx, hb, hml, hown, hts⟩ (k_X5_setQuota l dC dI N_x N_da N_ma N_ha N_ho N_ti N_be N_te N_ch J_da J_ma J_ha J_ho J_ti J_be J_te J_ch n_da n_ma n_ha n_ho n_ti n_be n_te n_ch n_up n_fu n_tm n_tc H_X4.size (xs (nI i + (1 : Int32)).toNatClampNeg) (xs (nI i + (2 : Int32)).toNatClampNeg) _ _  e5) (cwV 2 hts gL_law_X5_setQuota rfl rfl rfl (by decide +kernel) ⟨Nat.le_of_ble_eq_true rfl, Nat.le_of_ble_eq_true rfl⟩) ⟨w_blW, va_recv hKc hPc (ci := 3) (q0 := 0) rfl rfl, fun U hU hW => ⟨rfl, by rw [hU], by rw [hU]; exact hPc, va_K.moved hW.alike hKc, hDc.weaken (fun _ _ _ _ => trivial)⟩⟩ rfl rfl hl.1 rfl (lv_room (Nat.le_of_ble_eq_true rfl)) dL_law_464 ⟨Nat.le_of_ble_eq_true rfl, Nat.le_of_ble_eq_true rfl⟩) hS (fun q _ h => hFc q h) hFc (fun _ _ t H_X5 locs_X5 ht hvm hw hB hz1 hk1 hS => ?_)
  subst hw
  refine W.widen (k := 17) (n := 1343) (Nat.le_of_ble_eq_true rfl) (Nat.le_of_ble_eq_true rfl) ?_
  obtain ⟨hP1, hD1⟩ := hB
  rw [ht] at hP1
  obtain ⟨hP, hD⟩ := va_join (wr := (wB A_x A_d A_mh A_jh A_ha A_da A_ma A_ja K_ha K_da K_ma K_ja b_ha b_da u_ma b_ja b_up b_fu)) (w1 := (wM N_x N_da N_ma N_ha N_ho N_ti N_be N_te N_ch J_da J_ma J_ha J_ho J_ti J_be J_te J_ch n_da v_ma n_ha n_ho n_ti n_be n_te n_ch n_up n_fu n_tm n_tc)) hP hD [8, 9, 10, 11, 12, 13, 14, 15, 16] [0, 1, 2, 3, 4, 5, 6, 7] rfl rfl (by decide) (by decide) hk1 hFc hP1 hD1
  have hP : va_P (dC, dI) vwCl ((wB A_x A_d A_mh A_jh A_ha A_da A_ma A_ja K_ha K_da K_ma K_ja b_ha b_da u_ma b_ja b_up b_fu) ++ (wM N_x N_da N_ma N_ha N_ho N_ti N_be N_te N_ch J_da J_ma J_ha J_ho J_ti J_be J_te J_ch n_da v_ma n_ha n_ho n_ti n_be n_te n_ch n_up n_fu n_tm n_tc)) H_X5 := hP
  have hD : va_D (fun q : Nat => s.heap.size ≤ q) ((wB A_x A_d A_mh A_jh A_ha A_da A_ma A_ja K_ha K_da K_ma K_ja b_ha b_da u_ma b_ja b_up b_fu) ++ (wM N_x N_da N_ma N_ha N_ho N_ti N_be N_te N_ch J_da J_ma J_ha J_ho J_ti J_be J_te J_ch n_da v_ma n_ha n_ho n_ti n_be n_te n_ch n_up n_fu n_tm n_tc)) := hD
  refine lv_icmp_eq (tgt := 636) hx hb dL_law_467 (by decide) (fun _ => ?_) (fun cx => absurd rfl cx)
  exact K b_ha b_da u_ma b_ja b_up b_fu n_da v_ma n_ha n_ho n_ti n_be n_te n_ch n_up n_fu n_tm n_tc R2 _ _ hP hD hS _ hl
set_option maxHeartbeats 4000000 in
set_option maxRecDepth 100000 in
theorem law_c12 {p : Program} {l : Launch} {e : Env} {s : State} {m : MethodId} {below : List Frame} {meth : Method} {c : Code} {dC : Nat → ClassId} {dI : Nat → Nat → Nat} {b L : Nat} {xs : Nat → Int32} (hL : L ≤ 256) (C0 : lw_At p s m meth c b L xs) {A_x A_d A_mh A_jh A_ha A_da A_ma A_ja N_x N_da N_ma N_ha N_ho N_ti N_be N_te N_ch : Nat} {K_ha K_da K_ma K_ja J_da J_ma J_ha J_ho J_ti J_be J_te J_ch : ClassId} {b_ha : Nat → Int32} {b_da : Nat → Int32} {b_ma : Nat → Int32} {b_ja : Nat → Int32} {b_up : Int32} {b_fu : Int32} {n_da : Nat → Int32} {n_ma : Nat → Int32} {n_ha : Nat → Int32} {n_ho : Nat → Int32} {n_ti : Nat → Int32} {n_be : Nat → Int32} {n_te : Nat → Int32} {n_ch : Nat → Int32} {n_up : Int32} {n_fu : Int32} {n_tm : Int32} {n_tc : Int32} {i : Nat} (hi : i + 4 ≤ L) (R : Rel b_ha b_da b_ma b_up b_fu n_da n_ma n_ha n_up n_fu) (H : Heap) (locs : List Loc) (hK : va_K (dC, dI) vwCl ((tB K_ha K_da K_ma K_ja) ++ (tM J_da J_ma J_ha J_ho J_ti J_be J_te J_ch)) s) (hP : va_P (dC, dI) vwCl ((wB A_x A_d A_mh A_jh A_ha A_da A_ma A_ja K_ha K_da K_ma K_ja b_ha b_da b_ma b_ja b_up b_fu) ++ (wM N_x N_da N_ma N_ha N_ho N_ti N_be N_te N_ch J_da J_ma J_ha J_ho J_ti J_be J_te J_ch n_da n_ma n_ha n_ho n_ti n_be n_te n_ch n_up n_fu n_tm n_tc)) H) (hD : va_D (fun q : Nat => s.heap.size ≤ q) ((wB A_x A_d A_mh A_jh A_ha A_da A_ma A_ja K_ha K_da K_ma K_ja b_ha b_da b_ma b_ja b_up b_fu) ++ (wM N_x N_da N_ma N_ha N_ho N_ti N_be N_te N_ch J_da J_ma J_ha J_ho J_ti J_be J_te J_ch n_da n_ma n_ha n_ho n_ti n_be n_te n_ch n_up n_fu n_tm n_tc))) (hS : va_S (fun q : Nat => s.heap.size ≤ q) s.heap H locs) (ls : Array Slot) (hl : lv_has ls 4 [(0, .ref b), (1, .ref A_x), (2, .ref N_x), (3, .int (nI i))])
    (K : ∀ (u_ha : Nat → Int32) (u_da : Nat → Int32) (u_ma : Nat → Int32) (u_ja : Nat → Int32) (u_up : Int32) (u_fu : Int32) (v_da : Nat → Int32) (v_ma : Nat → Int32) (v_ha : Nat → Int32) (v_ho : Nat → Int32) (v_ti : Nat → Int32) (v_be : Nat → Int32) (v_te : Nat → Int32) (v_ch : Nat → Int32) (v_up : Int32) (v_fu : Int32) (v_tm : Int32) (v_tc : Int32), Rel u_ha u_da u_ma u_up u_fu v_da v_ma v_ha v_up v_fu → ∀ (H : Heap) (locs : List Loc), va_P (dC, dI) vwCl ((wB A_x A_d A_mh A_jh A_ha A_da A_ma A_ja K_ha K_da K_ma K_ja u_ha u_da u_ma u_ja u_up u_fu) ++ (wM N_x N_da N_ma N_ha N_ho N_ti N_be N_te N_ch J_da J_ma J_ha J_ho J_ti J_be J_te J_ch v_da v_ma v_ha v_ho v_ti v_be v_te v_ch v_up v_fu v_tm v_tc)) H → va_D (fun q : Nat => s.heap.size ≤ q) ((wB A_x A_d A_mh A_jh A_ha A_da A_ma A_ja K_ha K_da K_ma K_ja u_ha u_da u_ma u_ja u_up u_fu) ++ (wM N_x N_da N_ma N_ha N_ho N_ti N_be N_te N_ch J_da J_ma J_ha J_ho J_ti J_be J_te J_ch v_da v_ma v_ha v_ho v_ti v_be v_te v_ch v_up v_fu v_tm v_tc)) → va_S (fun q : Nat => s.heap.size ≤ q) s.heap H locs → ∀ (ls : Array Slot), lv_has ls 4 [(0, .ref b), (1, .ref A_x), (2, .ref N_x), (3, .int (nI i))] → W p l e room_1 s m #[Value.ref b] below meth c H locs 17 1343 (lw_Z below #[Value.ref b] s) (F0 m 636 ls [])) : W p l e room_1 s m #[Value.ref b] below meth c H locs 17 1343 (lw_Z below #[Value.ref b] s) (F0 m 472 ls []) := by
  obtain ⟨hx, hb, hr, hml, hown, hts0, hX, hbl, hlocks, hgv⟩ := C0
  have hts : ∀ w ∈ wsL_law, w.before #[Value.ref b] s = true := fun w h => hts0 w (wsL_law_in w h)
  have hA : ∀ q : Nat, s.heap.size ≤ q → (fun q : Nat => s.heap.size ≤ q) q := fun _ h => h
  have hbA : ¬ (fun q : Nat => s.heap.size ≤ q) b := Nat.not_le.mpr hbl
  have hown : s.vm.findClass RL = some m.cls := hown
  have hin1 : vp_in (nI i + (1 : Int32)) L := vp_in_at (nI_add i 1) (by omega) (by omega)
  obtain ⟨r, e4, e5, R2⟩ := st_usage  R (xs (nI i + (1 : Int32)).toNatClampNeg)
  refine lv_aload_n hx hb dL_law_472 rfl (lv_at hl 1 rfl) ?_
  refine lv_aload_n hx hb dL_law_473 rfl (lv_at hl 0 rfl) ?_
  refine lv_iload_n hx hb dL_law_474 rfl (lv_at hl 3 rfl) ?_
  refine lv_iconst (v := 1) hx hb dL_law_475 (by decide) ?_
  refine lv_iadd hx hb dL_law_476 ?_
  refine va_sld hx hb hX hbl hbA hS hin1 dL_law_477 ?_
  refine vp_callSi (W.runV (As := [.int (xs (nI i + (1 : Int32)).toNatClampNeg)]) (rest := []) ⟨hx, hb, hml, hown, hts⟩ (k_X4_usage l dC dI A_x A_d A_mh A_jh A_ha A_da A_ma A_ja K_ha K_da K_ma K_ja b_ha b_da b_ma b_ja b_up b_fu (xs (nI i + (1 : Int32)).toNatClampNeg) _ e4) (cwV 1 hts gL_law_X4_usage rfl rfl rfl (by decide +kernel) ⟨Nat.le_of_ble_eq_true rfl, Nat.le_of_ble_eq_true rfl⟩) ⟨w_blR, va_recv hK hP (ci := 2) (q0 := 0) rfl rfl, fun U hU hW => ⟨rfl, by rw [hU]; exact hP.sub [0, 1, 2, 3, 4, 5, 6, 7] rfl, va_K.moved hW.alike (hK.sub [0, 1, 2, 3] rfl)⟩⟩ rfl rfl hl.1 rfl (lv_room (Nat.le_of_ble_eq_true rfl)) dL_law_478 ⟨Nat.le_of_ble_eq_true rfl, Nat.le_of_ble_eq_true rfl⟩) (fun _ ey => ?_)
  subst ey
  refine lv_aload_n hx hb dL_law_481 rfl (lv_at hl 2 rfl) ?_
  refine lv_aload_n hx hb dL_law_482 rfl (lv_at hl 0 rfl) ?_
  refine lv_iload_n hx hb dL_law_483 rfl (lv_at hl 3 rfl) ?_
  refine lv_iconst (v := 1) hx hb dL_law_484 (by decide) ?_
  refine lv_iadd hx hb dL_law_485 ?_
  refine va_sld hx hb hX hbl hbA hS hin1 dL_law_486 ?_
  refine vp_callSi (W.runV (As := [.int (xs (nI i + (1 : Int32)).toNatClampNeg)]) (rest := [.int r]) ⟨hx, hb, hml, hown, hts⟩ (k_X5_usage l dC dI N_x N_da N_ma N_ha N_ho N_ti N_be N_te N_ch J_da J_ma J_ha J_ho J_ti J_be J_te J_ch n_da n_ma n_ha n_ho n_ti n_be n_te n_ch n_up n_fu n_tm n_tc (xs (nI i + (1 : Int32)).toNatClampNeg) _ e5) (cwV 1 hts gL_law_X5_usage rfl rfl rfl (by decide +kernel) ⟨Nat.le_of_ble_eq_true rfl, Nat.le_of_ble_eq_true rfl⟩) ⟨w_blR, va_recv hK hP (ci := 3) (q0 := 8) rfl rfl, fun U hU hW => ⟨rfl, by rw [hU]; exact hP.sub [8, 9, 10, 11, 12, 13, 14, 15, 16] rfl, va_K.moved hW.alike (hK.sub [4, 5, 6, 7, 8, 9, 10, 11] rfl)⟩⟩ rfl rfl hl.1 rfl (lv_room (Nat.le_of_ble_eq_true rfl)) dL_law_487 ⟨Nat.le_of_ble_eq_true rfl, Nat.le_of_ble_eq_true rfl⟩) (fun _ ey => ?_)
  subst ey
  refine lv_icmp_eq (tgt := 636) hx hb dL_law_490 (by decide) (fun _ => ?_) (fun cx => absurd rfl cx)
  exact K b_ha b_da b_ma b_ja b_up b_fu n_da n_ma n_ha n_ho n_ti n_be n_te n_ch n_up n_fu n_tm n_tc R2 _ _ hP hD hS _ hl
set_option maxHeartbeats 4000000 in
set_option maxRecDepth 100000 in
theorem law_c13 {p : Program} {l : Launch} {e : Env} {s : State} {m : MethodId} {below : List Frame} {meth : Method} {c : Code} {dC : Nat → ClassId} {dI : Nat → Nat → Nat} {b L : Nat} {xs : Nat → Int32} (hL : L ≤ 256) (C0 : lw_At p s m meth c b L xs) {A_x A_d A_mh A_jh A_ha A_da A_ma A_ja N_x N_da N_ma N_ha N_ho N_ti N_be N_te N_ch : Nat} {K_ha K_da K_ma K_ja J_da J_ma J_ha J_ho J_ti J_be J_te J_ch : ClassId} {b_ha : Nat → Int32} {b_da : Nat → Int32} {b_ma : Nat → Int32} {b_ja : Nat → Int32} {b_up : Int32} {b_fu : Int32} {n_da : Nat → Int32} {n_ma : Nat → Int32} {n_ha : Nat → Int32} {n_ho : Nat → Int32} {n_ti : Nat → Int32} {n_be : Nat → Int32} {n_te : Nat → Int32} {n_ch : Nat → Int32} {n_up : Int32} {n_fu : Int32} {n_tm : Int32} {n_tc : Int32} {i : Nat} (hi : i + 4 ≤ L) (R : Rel b_ha b_da b_ma b_up b_fu n_da n_ma n_ha n_up n_fu) (H : Heap) (locs : List Loc) (hK : va_K (dC, dI) vwCl ((tB K_ha K_da K_ma K_ja) ++ (tM J_da J_ma J_ha J_ho J_ti J_be J_te J_ch)) s) (hP : va_P (dC, dI) vwCl ((wB A_x A_d A_mh A_jh A_ha A_da A_ma A_ja K_ha K_da K_ma K_ja b_ha b_da b_ma b_ja b_up b_fu) ++ (wM N_x N_da N_ma N_ha N_ho N_ti N_be N_te N_ch J_da J_ma J_ha J_ho J_ti J_be J_te J_ch n_da n_ma n_ha n_ho n_ti n_be n_te n_ch n_up n_fu n_tm n_tc)) H) (hD : va_D (fun q : Nat => s.heap.size ≤ q) ((wB A_x A_d A_mh A_jh A_ha A_da A_ma A_ja K_ha K_da K_ma K_ja b_ha b_da b_ma b_ja b_up b_fu) ++ (wM N_x N_da N_ma N_ha N_ho N_ti N_be N_te N_ch J_da J_ma J_ha J_ho J_ti J_be J_te J_ch n_da n_ma n_ha n_ho n_ti n_be n_te n_ch n_up n_fu n_tm n_tc))) (hS : va_S (fun q : Nat => s.heap.size ≤ q) s.heap H locs) (ls : Array Slot) (hl : lv_has ls 4 [(0, .ref b), (1, .ref A_x), (2, .ref N_x), (3, .int (nI i))])
    (K : ∀ (u_ha : Nat → Int32) (u_da : Nat → Int32) (u_ma : Nat → Int32) (u_ja : Nat → Int32) (u_up : Int32) (u_fu : Int32) (v_da : Nat → Int32) (v_ma : Nat → Int32) (v_ha : Nat → Int32) (v_ho : Nat → Int32) (v_ti : Nat → Int32) (v_be : Nat → Int32) (v_te : Nat → Int32) (v_ch : Nat → Int32) (v_up : Int32) (v_fu : Int32) (v_tm : Int32) (v_tc : Int32), Rel u_ha u_da u_ma u_up u_fu v_da v_ma v_ha v_up v_fu → ∀ (H : Heap) (locs : List Loc), va_P (dC, dI) vwCl ((wB A_x A_d A_mh A_jh A_ha A_da A_ma A_ja K_ha K_da K_ma K_ja u_ha u_da u_ma u_ja u_up u_fu) ++ (wM N_x N_da N_ma N_ha N_ho N_ti N_be N_te N_ch J_da J_ma J_ha J_ho J_ti J_be J_te J_ch v_da v_ma v_ha v_ho v_ti v_be v_te v_ch v_up v_fu v_tm v_tc)) H → va_D (fun q : Nat => s.heap.size ≤ q) ((wB A_x A_d A_mh A_jh A_ha A_da A_ma A_ja K_ha K_da K_ma K_ja u_ha u_da u_ma u_ja u_up u_fu) ++ (wM N_x N_da N_ma N_ha N_ho N_ti N_be N_te N_ch J_da J_ma J_ha J_ho J_ti J_be J_te J_ch v_da v_ma v_ha v_ho v_ti v_be v_te v_ch v_up v_fu v_tm v_tc)) → va_S (fun q : Nat => s.heap.size ≤ q) s.heap H locs → ∀ (ls : Array Slot), lv_has ls 4 [(0, .ref b), (1, .ref A_x), (2, .ref N_x), (3, .int (nI i))] → W p l e room_1 s m #[Value.ref b] below meth c H locs 17 1343 (lw_Z below #[Value.ref b] s) (F0 m 636 ls [])) : W p l e room_1 s m #[Value.ref b] below meth c H locs 17 1343 (lw_Z below #[Value.ref b] s) (F0 m 495 ls []) := by
  obtain ⟨hx, hb, hr, hml, hown, hts0, hX, hbl, hlocks, hgv⟩ := C0
  have hts : ∀ w ∈ wsL_law, w.before #[Value.ref b] s = true := fun w h => hts0 w (wsL_law_in w h)
  have hA : ∀ q : Nat, s.heap.size ≤ q → (fun q : Nat => s.heap.size ≤ q) q := fun _ h => h
  have hbA : ¬ (fun q : Nat => s.heap.size ≤ q) b := Nat.not_le.mpr hbl
  have hown : s.vm.findClass RL = some m.cls := hown
  have hin1 : vp_in (nI i + (1 : Int32)) L := vp_in_at (nI_add i 1) (by omega) (by omega)
  obtain ⟨r, e4, e5, R2⟩ := st_free  R (xs (nI i + (1 : Int32)).toNatClampNeg)
  refine lv_aload_n hx hb dL_law_495 rfl (lv_at hl 1 rfl) ?_
  refine lv_aload_n hx hb dL_law_496 rfl (lv_at hl 0 rfl) ?_
  refine lv_iload_n hx hb dL_law_497 rfl (lv_at hl 3 rfl) ?_
  refine lv_iconst (v := 1) hx hb dL_law_498 (by decide) ?_
  refine lv_iadd hx hb dL_law_499 ?_
  refine va_sld hx hb hX hbl hbA hS hin1 dL_law_500 ?_
  refine vp_callSi (W.runV (As := [.int (xs (nI i + (1 : Int32)).toNatClampNeg)]) (rest := []) ⟨hx, hb, hml, hown, hts⟩ (k_X4_free l dC dI A_x A_d A_mh A_jh A_ha A_da A_ma A_ja K_ha K_da K_ma K_ja b_ha b_da b_ma b_ja b_up b_fu (xs (nI i + (1 : Int32)).toNatClampNeg) _ e4) (cwV 1 hts gL_law_X4_free rfl rfl rfl (by decide +kernel) ⟨Nat.le_of_ble_eq_true rfl, Nat.le_of_ble_eq_true rfl⟩) ⟨w_blR, va_recv hK hP (ci := 2) (q0 := 0) rfl rfl, fun U hU hW => ⟨rfl, by rw [hU]; exact hP.sub [0, 1, 2, 3, 4, 5, 6, 7] rfl, va_K.moved hW.alike (hK.sub [0, 1, 2, 3] rfl)⟩⟩ rfl rfl hl.1 rfl (lv_room (Nat.le_of_ble_eq_true rfl)) dL_law_501 ⟨Nat.le_of_ble_eq_true rfl, Nat.le_of_ble_eq_true rfl⟩) (fun _ ey => ?_)
  subst ey
  refine lv_aload_n hx hb dL_law_504 rfl (lv_at hl 2 rfl) ?_
  refine lv_aload_n hx hb dL_law_505 rfl (lv_at hl 0 rfl) ?_
  refine lv_iload_n hx hb dL_law_506 rfl (lv_at hl 3 rfl) ?_
  refine lv_iconst (v := 1) hx hb dL_law_507 (by decide) ?_
  refine lv_iadd hx hb dL_law_508 ?_
  refine va_sld hx hb hX hbl hbA hS hin1 dL_law_509 ?_
  refine vp_callSi (W.runV (As := [.int (xs (nI i + (1 : Int32)).toNatClampNeg)]) (rest := [.int r]) ⟨hx, hb, hml, hown, hts⟩ (k_X5_free l dC dI N_x N_da N_ma N_ha N_ho N_ti N_be N_te N_ch J_da J_ma J_ha J_ho J_ti J_be J_te J_ch n_da n_ma n_ha n_ho n_ti n_be n_te n_ch n_up n_fu n_tm n_tc (xs (nI i + (1 : Int32)).toNatClampNeg) _ e5) (cwV 1 hts gL_law_X5_free rfl rfl rfl (by decide +kernel) ⟨Nat.le_of_ble_eq_true rfl, Nat.le_of_ble_eq_true rfl⟩) ⟨w_blR, va_recv hK hP (ci := 3) (q0 := 8) rfl rfl, fun U hU hW => ⟨rfl, by rw [hU]; exact hP.sub [8, 9, 10, 11, 12, 13, 14, 15, 16] rfl, va_K.moved hW.alike (hK.sub [4, 5, 6, 7, 8, 9, 10, 11] rfl)⟩⟩ rfl rfl hl.1 rfl (lv_room (Nat.le_of_ble_eq_true rfl)) dL_law_510 ⟨Nat.le_of_ble_eq_true rfl, Nat.le_of_ble_eq_true rfl⟩) (fun _ ey => ?_)
  subst ey
  refine lv_icmp_eq (tgt := 636) hx hb dL_law_513 (by decide) (fun _ => ?_) (fun cx => absurd rfl cx)
  exact K b_ha b_da b_ma b_ja b_up b_fu n_da n_ma n_ha n_ho n_ti n_be n_te n_ch n_up n_fu n_tm n_tc R2 _ _ hP hD hS _ hl
set_option maxHeartbeats 4000000 in
set_option maxRecDepth 100000 in
theorem law_c14 {p : Program} {l : Launch} {e : Env} {s : State} {m : MethodId} {below : List Frame} {meth : Method} {c : Code} {dC : Nat → ClassId} {dI : Nat → Nat → Nat} {b L : Nat} {xs : Nat → Int32} (hL : L ≤ 256) (C0 : lw_At p s m meth c b L xs) {A_x A_d A_mh A_jh A_ha A_da A_ma A_ja N_x N_da N_ma N_ha N_ho N_ti N_be N_te N_ch : Nat} {K_ha K_da K_ma K_ja J_da J_ma J_ha J_ho J_ti J_be J_te J_ch : ClassId} {b_ha : Nat → Int32} {b_da : Nat → Int32} {b_ma : Nat → Int32} {b_ja : Nat → Int32} {b_up : Int32} {b_fu : Int32} {n_da : Nat → Int32} {n_ma : Nat → Int32} {n_ha : Nat → Int32} {n_ho : Nat → Int32} {n_ti : Nat → Int32} {n_be : Nat → Int32} {n_te : Nat → Int32} {n_ch : Nat → Int32} {n_up : Int32} {n_fu : Int32} {n_tm : Int32} {n_tc : Int32} {i : Nat} (hi : i + 4 ≤ L) (R : Rel b_ha b_da b_ma b_up b_fu n_da n_ma n_ha n_up n_fu) (H : Heap) (locs : List Loc) (hK : va_K (dC, dI) vwCl ((tB K_ha K_da K_ma K_ja) ++ (tM J_da J_ma J_ha J_ho J_ti J_be J_te J_ch)) s) (hP : va_P (dC, dI) vwCl ((wB A_x A_d A_mh A_jh A_ha A_da A_ma A_ja K_ha K_da K_ma K_ja b_ha b_da b_ma b_ja b_up b_fu) ++ (wM N_x N_da N_ma N_ha N_ho N_ti N_be N_te N_ch J_da J_ma J_ha J_ho J_ti J_be J_te J_ch n_da n_ma n_ha n_ho n_ti n_be n_te n_ch n_up n_fu n_tm n_tc)) H) (hD : va_D (fun q : Nat => s.heap.size ≤ q) ((wB A_x A_d A_mh A_jh A_ha A_da A_ma A_ja K_ha K_da K_ma K_ja b_ha b_da b_ma b_ja b_up b_fu) ++ (wM N_x N_da N_ma N_ha N_ho N_ti N_be N_te N_ch J_da J_ma J_ha J_ho J_ti J_be J_te J_ch n_da n_ma n_ha n_ho n_ti n_be n_te n_ch n_up n_fu n_tm n_tc))) (hS : va_S (fun q : Nat => s.heap.size ≤ q) s.heap H locs) (ls : Array Slot) (hl : lv_has ls 4 [(0, .ref b), (1, .ref A_x), (2, .ref N_x), (3, .int (nI i))])
    (K : ∀ (u_ha : Nat → Int32) (u_da : Nat → Int32) (u_ma : Nat → Int32) (u_ja : Nat → Int32) (u_up : Int32) (u_fu : Int32) (v_da : Nat → Int32) (v_ma : Nat → Int32) (v_ha : Nat → Int32) (v_ho : Nat → Int32) (v_ti : Nat → Int32) (v_be : Nat → Int32) (v_te : Nat → Int32) (v_ch : Nat → Int32) (v_up : Int32) (v_fu : Int32) (v_tm : Int32) (v_tc : Int32), Rel u_ha u_da u_ma u_up u_fu v_da v_ma v_ha v_up v_fu → ∀ (H : Heap) (locs : List Loc), va_P (dC, dI) vwCl ((wB A_x A_d A_mh A_jh A_ha A_da A_ma A_ja K_ha K_da K_ma K_ja u_ha u_da u_ma u_ja u_up u_fu) ++ (wM N_x N_da N_ma N_ha N_ho N_ti N_be N_te N_ch J_da J_ma J_ha J_ho J_ti J_be J_te J_ch v_da v_ma v_ha v_ho v_ti v_be v_te v_ch v_up v_fu v_tm v_tc)) H → va_D (fun q : Nat => s.heap.size ≤ q) ((wB A_x A_d A_mh A_jh A_ha A_da A_ma A_ja K_ha K_da K_ma K_ja u_ha u_da u_ma u_ja u_up u_fu) ++ (wM N_x N_da N_ma N_ha N_ho N_ti N_be N_te N_ch J_da J_ma J_ha J_ho J_ti J_be J_te J_ch v_da v_ma v_ha v_ho v_ti v_be v_te v_ch v_up v_fu v_tm v_tc)) → va_S (fun q : Nat => s.heap.size ≤ q) s.heap H locs → ∀ (ls : Array Slot), lv_has ls 4 [(0, .ref b), (1, .ref A_x), (2, .ref N_x), (3, .int (nI i))] → W p l e room_1 s m #[Value.ref b] below meth c H locs 17 1343 (lw_Z below #[Value.ref b] s) (F0 m 636 ls [])) : W p l e room_1 s m #[Value.ref b] below meth c H locs 17 1343 (lw_Z below #[Value.ref b] s) (F0 m 518 ls []) := by
  obtain ⟨hx, hb, hr, hml, hown, hts0, hX, hbl, hlocks, hgv⟩ := C0
  have hts : ∀ w ∈ wsL_law, w.before #[Value.ref b] s = true := fun w h => hts0 w (wsL_law_in w h)
  have hA : ∀ q : Nat, s.heap.size ≤ q → (fun q : Nat => s.heap.size ≤ q) q := fun _ h => h
  have hbA : ¬ (fun q : Nat => s.heap.size ≤ q) b := Nat.not_le.mpr hbl
  have hown : s.vm.findClass RL = some m.cls := hown
  obtain ⟨r, u_da, u_up, u_fu, v_da, v_ha, v_ch, v_up, v_fu, e4, e5, R2⟩ := st_sync (n_ch := n_ch) R 
  refine lv_aload_n hx hb dL_law_518 rfl (lv_at hl 1 rfl) ?_
  have hPc := hP.sub (ws' := (wB A_x A_d A_mh A_jh A_ha A_da A_ma A_ja K_ha K_da K_ma K_ja b_ha b_da b_ma b_ja b_up b_fu)) [0, 1, 2, 3, 4, 5, 6, 7] rfl
  have hDc := hD.sub (ws' := (wB A_x A_d A_mh A_jh A_ha A_da A_ma A_ja K_ha K_da K_ma K_ja b_ha b_da b_ma b_ja b_up b_fu)) [0, 1, 2, 3, 4, 5, 6, 7] (by decide) rfl
  have hKc := hK.sub (tys' := (tB K_ha K_da K_ma K_ja)) [0, 1, 2, 3] rfl
  have hFc := va_free (wc := (wB A_x A_d A_mh A_jh A_ha A_da A_ma A_ja K_ha K_da K_ma K_ja b_ha b_da b_ma b_ja b_up b_fu)) hD hS hA [0, 1, 2, 3, 4, 5, 6, 7] rfl
  refine va_calli (va_runV (As := []) (rest := []) ⟨hx, hb, hml, hown, hts⟩ (k_X4_sync l dC dI A_x A_d A_mh A_jh A_ha A_da A_ma A_ja K_ha K_da K_ma K_ja b_ha b_da b_ma b_ja b_up b_fu H.size  _ _ _ _  e4) (cwV 0 hts gL_law_X4_sync rfl rfl rfl (by decide +kernel) ⟨Nat.le_of_ble_eq_true rfl, Nat.le_of_ble_eq_true rfl⟩) ⟨w_blW, va_recv hKc hPc (ci := 2) (q0 := 0) rfl rfl, fun U hU hW => ⟨rfl, by rw [hU], by rw [hU]; exact hPc, va_K.moved hW.alike hKc, hDc.weaken (fun _ _ _ _ => trivial)⟩⟩ rfl rfl hl.1 rfl (lv_room (Nat.le_of_ble_eq_true rfl)) dL_law_519 ⟨Nat.le_of_ble_eq_true rfl, Nat.le_of_ble_eq_true rfl⟩) hS (fun q _ h => hFc q h) hFc (fun _ _ t H_X4 locs_X4 ht hvm hw hB hz1 hk1 hS => ?_)
  subst hw
  refine W.widen (k := 17) (n := 1343) (Nat.le_of_ble_eq_true rfl) (Nat.le_of_ble_eq_true rfl) ?_
  obtain ⟨hP1, hD1⟩ := hB
  rw [ht] at hP1
  obtain ⟨hP, hD⟩ := va_join (wr := (wM N_x N_da N_ma N_ha N_ho N_ti N_be N_te N_ch J_da J_ma J_ha J_ho J_ti J_be J_te J_ch n_da n_ma n_ha n_ho n_ti n_be n_te n_ch n_up n_fu n_tm n_tc)) (w1 := (wB A_x A_d A_mh A_jh A_ha A_da A_ma A_ja K_ha K_da K_ma K_ja b_ha u_da b_ma b_ja u_up u_fu)) hP hD [0, 1, 2, 3, 4, 5, 6, 7] [8, 9, 10, 11, 12, 13, 14, 15, 16] rfl rfl (by decide) (by decide) hk1 hFc hP1 hD1
  have hP : va_P (dC, dI) vwCl ((wB A_x A_d A_mh A_jh A_ha A_da A_ma A_ja K_ha K_da K_ma K_ja b_ha u_da b_ma b_ja u_up u_fu) ++ (wM N_x N_da N_ma N_ha N_ho N_ti N_be N_te N_ch J_da J_ma J_ha J_ho J_ti J_be J_te J_ch n_da n_ma n_ha n_ho n_ti n_be n_te n_ch n_up n_fu n_tm n_tc)) H_X4 := hP.sub [9, 10, 11, 12, 13, 14, 15, 16, 0, 1, 2, 3, 4, 5, 6, 7, 8] rfl
  have hD : va_D (fun q : Nat => s.heap.size ≤ q) ((wB A_x A_d A_mh A_jh A_ha A_da A_ma A_ja K_ha K_da K_ma K_ja b_ha u_da b_ma b_ja u_up u_fu) ++ (wM N_x N_da N_ma N_ha N_ho N_ti N_be N_te N_ch J_da J_ma J_ha J_ho J_ti J_be J_te J_ch n_da n_ma n_ha n_ho n_ti n_be n_te n_ch n_up n_fu n_tm n_tc)) := hD.sub [9, 10, 11, 12, 13, 14, 15, 16, 0, 1, 2, 3, 4, 5, 6, 7, 8] (by decide) rfl
  refine lv_aload_n hx hb dL_law_522 rfl (lv_at hl 2 rfl) ?_
  have hPc := hP.sub (ws' := (wM N_x N_da N_ma N_ha N_ho N_ti N_be N_te N_ch J_da J_ma J_ha J_ho J_ti J_be J_te J_ch n_da n_ma n_ha n_ho n_ti n_be n_te n_ch n_up n_fu n_tm n_tc)) [8, 9, 10, 11, 12, 13, 14, 15, 16] rfl
  have hDc := hD.sub (ws' := (wM N_x N_da N_ma N_ha N_ho N_ti N_be N_te N_ch J_da J_ma J_ha J_ho J_ti J_be J_te J_ch n_da n_ma n_ha n_ho n_ti n_be n_te n_ch n_up n_fu n_tm n_tc)) [8, 9, 10, 11, 12, 13, 14, 15, 16] (by decide) rfl
  have hKc := hK.sub (tys' := (tM J_da J_ma J_ha J_ho J_ti J_be J_te J_ch)) [4, 5, 6, 7, 8, 9, 10, 11] rfl
  have hFc := va_free (wc := (wM N_x N_da N_ma N_ha N_ho N_ti N_be N_te N_ch J_da J_ma J_ha J_ho J_ti J_be J_te J_ch n_da n_ma n_ha n_ho n_ti n_be n_te n_ch n_up n_fu n_tm n_tc)) hD hS hA [8, 9, 10, 11, 12, 13, 14, 15, 16] rfl
  refine va_calli (va_runV (As := []) (rest := [.int r]) ⟨hx, hb, hml, hown, hts⟩ (k_X5_sync l dC dI N_x N_da N_ma N_ha N_ho N_ti N_be N_te N_ch J_da J_ma J_ha J_ho J_ti J_be J_te J_ch n_da n_ma n_ha n_ho n_ti n_be n_te n_ch n_up n_fu n_tm n_tc H_X4.size  _ _ _ _ _ _  e5) (cwV 0 hts gL_law_X5_sync rfl rfl rfl (by decide +kernel) ⟨Nat.le_of_ble_eq_true rfl, Nat.le_of_ble_eq_true rfl⟩) ⟨w_blW, va_recv hKc hPc (ci := 3) (q0 := 0) rfl rfl, fun U hU hW => ⟨rfl, by rw [hU], by rw [hU]; exact hPc, va_K.moved hW.alike hKc, hDc.weaken (fun _ _ _ _ => trivial)⟩⟩ rfl rfl hl.1 rfl (lv_room (Nat.le_of_ble_eq_true rfl)) dL_law_523 ⟨Nat.le_of_ble_eq_true rfl, Nat.le_of_ble_eq_true rfl⟩) hS (fun q _ h => hFc q h) hFc (fun _ _ t H_X5 locs_X5 ht hvm hw hB hz1 hk1 hS => ?_)
  subst hw
  refine W.widen (k := 17) (n := 1343) (Nat.le_of_ble_eq_true rfl) (Nat.le_of_ble_eq_true rfl) ?_
  obtain ⟨hP1, hD1⟩ := hB
  rw [ht] at hP1
  obtain ⟨hP, hD⟩ := va_join (wr := (wB A_x A_d A_mh A_jh A_ha A_da A_ma A_ja K_ha K_da K_ma K_ja b_ha u_da b_ma b_ja u_up u_fu)) (w1 := (wM N_x N_da N_ma N_ha N_ho N_ti N_be N_te N_ch J_da J_ma J_ha J_ho J_ti J_be J_te J_ch v_da n_ma v_ha n_ho n_ti n_be n_te v_ch v_up v_fu n_tm n_tc)) hP hD [8, 9, 10, 11, 12, 13, 14, 15, 16] [0, 1, 2, 3, 4, 5, 6, 7] rfl rfl (by decide) (by decide) hk1 hFc hP1 hD1
  have hP : va_P (dC, dI) vwCl ((wB A_x A_d A_mh A_jh A_ha A_da A_ma A_ja K_ha K_da K_ma K_ja b_ha u_da b_ma b_ja u_up u_fu) ++ (wM N_x N_da N_ma N_ha N_ho N_ti N_be N_te N_ch J_da J_ma J_ha J_ho J_ti J_be J_te J_ch v_da n_ma v_ha n_ho n_ti n_be n_te v_ch v_up v_fu n_tm n_tc)) H_X5 := hP
  have hD : va_D (fun q : Nat => s.heap.size ≤ q) ((wB A_x A_d A_mh A_jh A_ha A_da A_ma A_ja K_ha K_da K_ma K_ja b_ha u_da b_ma b_ja u_up u_fu) ++ (wM N_x N_da N_ma N_ha N_ho N_ti N_be N_te N_ch J_da J_ma J_ha J_ho J_ti J_be J_te J_ch v_da n_ma v_ha n_ho n_ti n_be n_te v_ch v_up v_fu n_tm n_tc)) := hD
  refine lv_icmp_eq (tgt := 636) hx hb dL_law_526 (by decide) (fun _ => ?_) (fun cx => absurd rfl cx)
  exact K b_ha u_da b_ma b_ja u_up u_fu v_da n_ma v_ha n_ho n_ti n_be n_te v_ch v_up v_fu n_tm n_tc R2 _ _ hP hD hS _ hl
set_option maxHeartbeats 4000000 in
set_option maxRecDepth 100000 in
theorem law_c15 {p : Program} {l : Launch} {e : Env} {s : State} {m : MethodId} {below : List Frame} {meth : Method} {c : Code} {dC : Nat → ClassId} {dI : Nat → Nat → Nat} {b L : Nat} {xs : Nat → Int32} (hL : L ≤ 256) (C0 : lw_At p s m meth c b L xs) {A_x A_d A_mh A_jh A_ha A_da A_ma A_ja N_x N_da N_ma N_ha N_ho N_ti N_be N_te N_ch : Nat} {K_ha K_da K_ma K_ja J_da J_ma J_ha J_ho J_ti J_be J_te J_ch : ClassId} {b_ha : Nat → Int32} {b_da : Nat → Int32} {b_ma : Nat → Int32} {b_ja : Nat → Int32} {b_up : Int32} {b_fu : Int32} {n_da : Nat → Int32} {n_ma : Nat → Int32} {n_ha : Nat → Int32} {n_ho : Nat → Int32} {n_ti : Nat → Int32} {n_be : Nat → Int32} {n_te : Nat → Int32} {n_ch : Nat → Int32} {n_up : Int32} {n_fu : Int32} {n_tm : Int32} {n_tc : Int32} {i : Nat} (hi : i + 4 ≤ L) (R : Rel b_ha b_da b_ma b_up b_fu n_da n_ma n_ha n_up n_fu) (H : Heap) (locs : List Loc) (hK : va_K (dC, dI) vwCl ((tB K_ha K_da K_ma K_ja) ++ (tM J_da J_ma J_ha J_ho J_ti J_be J_te J_ch)) s) (hP : va_P (dC, dI) vwCl ((wB A_x A_d A_mh A_jh A_ha A_da A_ma A_ja K_ha K_da K_ma K_ja b_ha b_da b_ma b_ja b_up b_fu) ++ (wM N_x N_da N_ma N_ha N_ho N_ti N_be N_te N_ch J_da J_ma J_ha J_ho J_ti J_be J_te J_ch n_da n_ma n_ha n_ho n_ti n_be n_te n_ch n_up n_fu n_tm n_tc)) H) (hD : va_D (fun q : Nat => s.heap.size ≤ q) ((wB A_x A_d A_mh A_jh A_ha A_da A_ma A_ja K_ha K_da K_ma K_ja b_ha b_da b_ma b_ja b_up b_fu) ++ (wM N_x N_da N_ma N_ha N_ho N_ti N_be N_te N_ch J_da J_ma J_ha J_ho J_ti J_be J_te J_ch n_da n_ma n_ha n_ho n_ti n_be n_te n_ch n_up n_fu n_tm n_tc))) (hS : va_S (fun q : Nat => s.heap.size ≤ q) s.heap H locs) (ls : Array Slot) (hl : lv_has ls 4 [(0, .ref b), (1, .ref A_x), (2, .ref N_x), (3, .int (nI i))])
    (K : ∀ (u_ha : Nat → Int32) (u_da : Nat → Int32) (u_ma : Nat → Int32) (u_ja : Nat → Int32) (u_up : Int32) (u_fu : Int32) (v_da : Nat → Int32) (v_ma : Nat → Int32) (v_ha : Nat → Int32) (v_ho : Nat → Int32) (v_ti : Nat → Int32) (v_be : Nat → Int32) (v_te : Nat → Int32) (v_ch : Nat → Int32) (v_up : Int32) (v_fu : Int32) (v_tm : Int32) (v_tc : Int32), Rel u_ha u_da u_ma u_up u_fu v_da v_ma v_ha v_up v_fu → ∀ (H : Heap) (locs : List Loc), va_P (dC, dI) vwCl ((wB A_x A_d A_mh A_jh A_ha A_da A_ma A_ja K_ha K_da K_ma K_ja u_ha u_da u_ma u_ja u_up u_fu) ++ (wM N_x N_da N_ma N_ha N_ho N_ti N_be N_te N_ch J_da J_ma J_ha J_ho J_ti J_be J_te J_ch v_da v_ma v_ha v_ho v_ti v_be v_te v_ch v_up v_fu v_tm v_tc)) H → va_D (fun q : Nat => s.heap.size ≤ q) ((wB A_x A_d A_mh A_jh A_ha A_da A_ma A_ja K_ha K_da K_ma K_ja u_ha u_da u_ma u_ja u_up u_fu) ++ (wM N_x N_da N_ma N_ha N_ho N_ti N_be N_te N_ch J_da J_ma J_ha J_ho J_ti J_be J_te J_ch v_da v_ma v_ha v_ho v_ti v_be v_te v_ch v_up v_fu v_tm v_tc)) → va_S (fun q : Nat => s.heap.size ≤ q) s.heap H locs → ∀ (ls : Array Slot), lv_has ls 4 [(0, .ref b), (1, .ref A_x), (2, .ref N_x), (3, .int (nI i))] → W p l e room_1 s m #[Value.ref b] below meth c H locs 17 1343 (lw_Z below #[Value.ref b] s) (F0 m 636 ls [])) : W p l e room_1 s m #[Value.ref b] below meth c H locs 17 1343 (lw_Z below #[Value.ref b] s) (F0 m 531 ls []) := by
  obtain ⟨hx, hb, hr, hml, hown, hts0, hX, hbl, hlocks, hgv⟩ := C0
  have hts : ∀ w ∈ wsL_law, w.before #[Value.ref b] s = true := fun w h => hts0 w (wsL_law_in w h)
  have hA : ∀ q : Nat, s.heap.size ≤ q → (fun q : Nat => s.heap.size ≤ q) q := fun _ h => h
  have hbA : ¬ (fun q : Nat => s.heap.size ≤ q) b := Nat.not_le.mpr hbl
  have hown : s.vm.findClass RL = some m.cls := hown
  have hin1 : vp_in (nI i + (1 : Int32)) L := vp_in_at (nI_add i 1) (by omega) (by omega)
  obtain ⟨r, u_fu, v_fu, e4, e5, R2⟩ := st_crashAfter  R (xs (nI i + (1 : Int32)).toNatClampNeg)
  refine lv_aload_n hx hb dL_law_531 rfl (lv_at hl 1 rfl) ?_
  refine lv_aload_n hx hb dL_law_532 rfl (lv_at hl 0 rfl) ?_
  refine lv_iload_n hx hb dL_law_533 rfl (lv_at hl 3 rfl) ?_
  refine lv_iconst (v := 1) hx hb dL_law_534 (by decide) ?_
  refine lv_iadd hx hb dL_law_535 ?_
  refine va_sld hx hb hX hbl hbA hS hin1 dL_law_536 ?_
  have hPc := hP.sub (ws' := (wB A_x A_d A_mh A_jh A_ha A_da A_ma A_ja K_ha K_da K_ma K_ja b_ha b_da b_ma b_ja b_up b_fu)) [0, 1, 2, 3, 4, 5, 6, 7] rfl
  have hDc := hD.sub (ws' := (wB A_x A_d A_mh A_jh A_ha A_da A_ma A_ja K_ha K_da K_ma K_ja b_ha b_da b_ma b_ja b_up b_fu)) [0, 1, 2, 3, 4, 5, 6, 7] (by decide) rfl
  have hKc := hK.sub (tys' := (tB K_ha K_da K_ma K_ja)) [0, 1, 2, 3] rfl
  have hFc := va_free (wc := (wB A_x A_d A_mh A_jh A_ha A_da A_ma A_ja K_ha K_da K_ma K_ja b_ha b_da b_ma b_ja b_up b_fu)) hD hS hA [0, 1, 2, 3, 4, 5, 6, 7] rfl
  refine va_calli (va_runV (As := [.int (xs (nI i + (1 : Int32)).toNatClampNeg)]) (rest := []) ⟨hx, hb, hml, hown, hts⟩ (k_X4_crashAfter l dC dI A_x A_d A_mh A_jh A_ha A_da A_ma A_ja K_ha K_da K_ma K_ja b_ha b_da b_ma b_ja b_up b_fu H.size (xs (nI i + (1 : Int32)).toNatClampNeg) _ _  e4) (cwV 1 hts gL_law_X4_crashAfter rfl rfl rfl (by decide +kernel) ⟨Nat.le_of_ble_eq_true rfl, Nat.le_of_ble_eq_true rfl⟩) ⟨w_blW, va_recv hKc hPc (ci := 2) (q0 := 0) rfl rfl, fun U hU hW => ⟨rfl, by rw [hU], by rw [hU]; exact hPc, va_K.moved hW.alike hKc, hDc.weaken (fun _ _ _ _ => trivial)⟩⟩ rfl rfl hl.1 rfl (lv_room (Nat.le_of_ble_eq_true rfl)) dL_law_537 ⟨Nat.le_of_ble_eq_true rfl, Nat.le_of_ble_eq_true rfl⟩) hS (fun q _ h => hFc q h) hFc (fun _ _ t H_X4 locs_X4 ht hvm hw hB hz1 hk1 hS => ?_)
  subst hw
  refine W.widen (k := 17) (n := 1343) (Nat.le_of_ble_eq_true rfl) (Nat.le_of_ble_eq_true rfl) ?_
  obtain ⟨hP1, hD1⟩ := hB
  rw [ht] at hP1
  obtain ⟨hP, hD⟩ := va_join (wr := (wM N_x N_da N_ma N_ha N_ho N_ti N_be N_te N_ch J_da J_ma J_ha J_ho J_ti J_be J_te J_ch n_da n_ma n_ha n_ho n_ti n_be n_te n_ch n_up n_fu n_tm n_tc)) (w1 := (wB A_x A_d A_mh A_jh A_ha A_da A_ma A_ja K_ha K_da K_ma K_ja b_ha b_da b_ma b_ja b_up u_fu)) hP hD [0, 1, 2, 3, 4, 5, 6, 7] [8, 9, 10, 11, 12, 13, 14, 15, 16] rfl rfl (by decide) (by decide) hk1 hFc hP1 hD1
  have hP : va_P (dC, dI) vwCl ((wB A_x A_d A_mh A_jh A_ha A_da A_ma A_ja K_ha K_da K_ma K_ja b_ha b_da b_ma b_ja b_up u_fu) ++ (wM N_x N_da N_ma N_ha N_ho N_ti N_be N_te N_ch J_da J_ma J_ha J_ho J_ti J_be J_te J_ch n_da n_ma n_ha n_ho n_ti n_be n_te n_ch n_up n_fu n_tm n_tc)) H_X4 := hP.sub [9, 10, 11, 12, 13, 14, 15, 16, 0, 1, 2, 3, 4, 5, 6, 7, 8] rfl
  have hD : va_D (fun q : Nat => s.heap.size ≤ q) ((wB A_x A_d A_mh A_jh A_ha A_da A_ma A_ja K_ha K_da K_ma K_ja b_ha b_da b_ma b_ja b_up u_fu) ++ (wM N_x N_da N_ma N_ha N_ho N_ti N_be N_te N_ch J_da J_ma J_ha J_ho J_ti J_be J_te J_ch n_da n_ma n_ha n_ho n_ti n_be n_te n_ch n_up n_fu n_tm n_tc)) := hD.sub [9, 10, 11, 12, 13, 14, 15, 16, 0, 1, 2, 3, 4, 5, 6, 7, 8] (by decide) rfl
  refine lv_aload_n hx hb dL_law_540 rfl (lv_at hl 2 rfl) ?_
  refine lv_aload_n hx hb dL_law_541 rfl (lv_at hl 0 rfl) ?_
  refine lv_iload_n hx hb dL_law_542 rfl (lv_at hl 3 rfl) ?_
  refine lv_iconst (v := 1) hx hb dL_law_543 (by decide) ?_
  refine lv_iadd hx hb dL_law_544 ?_
  refine va_sld hx hb hX hbl hbA hS hin1 dL_law_545 ?_
  have hPc := hP.sub (ws' := (wM N_x N_da N_ma N_ha N_ho N_ti N_be N_te N_ch J_da J_ma J_ha J_ho J_ti J_be J_te J_ch n_da n_ma n_ha n_ho n_ti n_be n_te n_ch n_up n_fu n_tm n_tc)) [8, 9, 10, 11, 12, 13, 14, 15, 16] rfl
  have hDc := hD.sub (ws' := (wM N_x N_da N_ma N_ha N_ho N_ti N_be N_te N_ch J_da J_ma J_ha J_ho J_ti J_be J_te J_ch n_da n_ma n_ha n_ho n_ti n_be n_te n_ch n_up n_fu n_tm n_tc)) [8, 9, 10, 11, 12, 13, 14, 15, 16] (by decide) rfl
  have hKc := hK.sub (tys' := (tM J_da J_ma J_ha J_ho J_ti J_be J_te J_ch)) [4, 5, 6, 7, 8, 9, 10, 11] rfl
  have hFc := va_free (wc := (wM N_x N_da N_ma N_ha N_ho N_ti N_be N_te N_ch J_da J_ma J_ha J_ho J_ti J_be J_te J_ch n_da n_ma n_ha n_ho n_ti n_be n_te n_ch n_up n_fu n_tm n_tc)) hD hS hA [8, 9, 10, 11, 12, 13, 14, 15, 16] rfl
  refine va_calli (va_runV (As := [.int (xs (nI i + (1 : Int32)).toNatClampNeg)]) (rest := [.int r]) ⟨hx, hb, hml, hown, hts⟩ (k_X5_crashAfter l dC dI N_x N_da N_ma N_ha N_ho N_ti N_be N_te N_ch J_da J_ma J_ha J_ho J_ti J_be J_te J_ch n_da n_ma n_ha n_ho n_ti n_be n_te n_ch n_up n_fu n_tm n_tc H_X4.size (xs (nI i + (1 : Int32)).toNatClampNeg) _ _  e5) (cwV 1 hts gL_law_X5_crashAfter rfl rfl rfl (by decide +kernel) ⟨Nat.le_of_ble_eq_true rfl, Nat.le_of_ble_eq_true rfl⟩) ⟨w_blW, va_recv hKc hPc (ci := 3) (q0 := 0) rfl rfl, fun U hU hW => ⟨rfl, by rw [hU], by rw [hU]; exact hPc, va_K.moved hW.alike hKc, hDc.weaken (fun _ _ _ _ => trivial)⟩⟩ rfl rfl hl.1 rfl (lv_room (Nat.le_of_ble_eq_true rfl)) dL_law_546 ⟨Nat.le_of_ble_eq_true rfl, Nat.le_of_ble_eq_true rfl⟩) hS (fun q _ h => hFc q h) hFc (fun _ _ t H_X5 locs_X5 ht hvm hw hB hz1 hk1 hS => ?_)
  subst hw
  refine W.widen (k := 17) (n := 1343) (Nat.le_of_ble_eq_true rfl) (Nat.le_of_ble_eq_true rfl) ?_
  obtain ⟨hP1, hD1⟩ := hB
  rw [ht] at hP1
  obtain ⟨hP, hD⟩ := va_join (wr := (wB A_x A_d A_mh A_jh A_ha A_da A_ma A_ja K_ha K_da K_ma K_ja b_ha b_da b_ma b_ja b_up u_fu)) (w1 := (wM N_x N_da N_ma N_ha N_ho N_ti N_be N_te N_ch J_da J_ma J_ha J_ho J_ti J_be J_te J_ch n_da n_ma n_ha n_ho n_ti n_be n_te n_ch n_up v_fu n_tm n_tc)) hP hD [8, 9, 10, 11, 12, 13, 14, 15, 16] [0, 1, 2, 3, 4, 5, 6, 7] rfl rfl (by decide) (by decide) hk1 hFc hP1 hD1
  have hP : va_P (dC, dI) vwCl ((wB A_x A_d A_mh A_jh A_ha A_da A_ma A_ja K_ha K_da K_ma K_ja b_ha b_da b_ma b_ja b_up u_fu) ++ (wM N_x N_da N_ma N_ha N_ho N_ti N_be N_te N_ch J_da J_ma J_ha J_ho J_ti J_be J_te J_ch n_da n_ma n_ha n_ho n_ti n_be n_te n_ch n_up v_fu n_tm n_tc)) H_X5 := hP
  have hD : va_D (fun q : Nat => s.heap.size ≤ q) ((wB A_x A_d A_mh A_jh A_ha A_da A_ma A_ja K_ha K_da K_ma K_ja b_ha b_da b_ma b_ja b_up u_fu) ++ (wM N_x N_da N_ma N_ha N_ho N_ti N_be N_te N_ch J_da J_ma J_ha J_ho J_ti J_be J_te J_ch n_da n_ma n_ha n_ho n_ti n_be n_te n_ch n_up v_fu n_tm n_tc)) := hD
  refine lv_icmp_eq (tgt := 636) hx hb dL_law_549 (by decide) (fun _ => ?_) (fun cx => absurd rfl cx)
  exact K b_ha b_da b_ma b_ja b_up u_fu n_da n_ma n_ha n_ho n_ti n_be n_te n_ch n_up v_fu n_tm n_tc R2 _ _ hP hD hS _ hl
set_option maxHeartbeats 4000000 in
set_option maxRecDepth 100000 in
theorem law_c16 {p : Program} {l : Launch} {e : Env} {s : State} {m : MethodId} {below : List Frame} {meth : Method} {c : Code} {dC : Nat → ClassId} {dI : Nat → Nat → Nat} {b L : Nat} {xs : Nat → Int32} (hL : L ≤ 256) (C0 : lw_At p s m meth c b L xs) {A_x A_d A_mh A_jh A_ha A_da A_ma A_ja N_x N_da N_ma N_ha N_ho N_ti N_be N_te N_ch : Nat} {K_ha K_da K_ma K_ja J_da J_ma J_ha J_ho J_ti J_be J_te J_ch : ClassId} {b_ha : Nat → Int32} {b_da : Nat → Int32} {b_ma : Nat → Int32} {b_ja : Nat → Int32} {b_up : Int32} {b_fu : Int32} {n_da : Nat → Int32} {n_ma : Nat → Int32} {n_ha : Nat → Int32} {n_ho : Nat → Int32} {n_ti : Nat → Int32} {n_be : Nat → Int32} {n_te : Nat → Int32} {n_ch : Nat → Int32} {n_up : Int32} {n_fu : Int32} {n_tm : Int32} {n_tc : Int32} {i : Nat} (hi : i + 4 ≤ L) (R : Rel b_ha b_da b_ma b_up b_fu n_da n_ma n_ha n_up n_fu) (H : Heap) (locs : List Loc) (hK : va_K (dC, dI) vwCl ((tB K_ha K_da K_ma K_ja) ++ (tM J_da J_ma J_ha J_ho J_ti J_be J_te J_ch)) s) (hP : va_P (dC, dI) vwCl ((wB A_x A_d A_mh A_jh A_ha A_da A_ma A_ja K_ha K_da K_ma K_ja b_ha b_da b_ma b_ja b_up b_fu) ++ (wM N_x N_da N_ma N_ha N_ho N_ti N_be N_te N_ch J_da J_ma J_ha J_ho J_ti J_be J_te J_ch n_da n_ma n_ha n_ho n_ti n_be n_te n_ch n_up n_fu n_tm n_tc)) H) (hD : va_D (fun q : Nat => s.heap.size ≤ q) ((wB A_x A_d A_mh A_jh A_ha A_da A_ma A_ja K_ha K_da K_ma K_ja b_ha b_da b_ma b_ja b_up b_fu) ++ (wM N_x N_da N_ma N_ha N_ho N_ti N_be N_te N_ch J_da J_ma J_ha J_ho J_ti J_be J_te J_ch n_da n_ma n_ha n_ho n_ti n_be n_te n_ch n_up n_fu n_tm n_tc))) (hS : va_S (fun q : Nat => s.heap.size ≤ q) s.heap H locs) (ls : Array Slot) (hl : lv_has ls 4 [(0, .ref b), (1, .ref A_x), (2, .ref N_x), (3, .int (nI i))])
    (K : ∀ (u_ha : Nat → Int32) (u_da : Nat → Int32) (u_ma : Nat → Int32) (u_ja : Nat → Int32) (u_up : Int32) (u_fu : Int32) (v_da : Nat → Int32) (v_ma : Nat → Int32) (v_ha : Nat → Int32) (v_ho : Nat → Int32) (v_ti : Nat → Int32) (v_be : Nat → Int32) (v_te : Nat → Int32) (v_ch : Nat → Int32) (v_up : Int32) (v_fu : Int32) (v_tm : Int32) (v_tc : Int32), Rel u_ha u_da u_ma u_up u_fu v_da v_ma v_ha v_up v_fu → ∀ (H : Heap) (locs : List Loc), va_P (dC, dI) vwCl ((wB A_x A_d A_mh A_jh A_ha A_da A_ma A_ja K_ha K_da K_ma K_ja u_ha u_da u_ma u_ja u_up u_fu) ++ (wM N_x N_da N_ma N_ha N_ho N_ti N_be N_te N_ch J_da J_ma J_ha J_ho J_ti J_be J_te J_ch v_da v_ma v_ha v_ho v_ti v_be v_te v_ch v_up v_fu v_tm v_tc)) H → va_D (fun q : Nat => s.heap.size ≤ q) ((wB A_x A_d A_mh A_jh A_ha A_da A_ma A_ja K_ha K_da K_ma K_ja u_ha u_da u_ma u_ja u_up u_fu) ++ (wM N_x N_da N_ma N_ha N_ho N_ti N_be N_te N_ch J_da J_ma J_ha J_ho J_ti J_be J_te J_ch v_da v_ma v_ha v_ho v_ti v_be v_te v_ch v_up v_fu v_tm v_tc)) → va_S (fun q : Nat => s.heap.size ≤ q) s.heap H locs → ∀ (ls : Array Slot), lv_has ls 4 [(0, .ref b), (1, .ref A_x), (2, .ref N_x), (3, .int (nI i))] → W p l e room_1 s m #[Value.ref b] below meth c H locs 17 1343 (lw_Z below #[Value.ref b] s) (F0 m 636 ls [])) : W p l e room_1 s m #[Value.ref b] below meth c H locs 17 1343 (lw_Z below #[Value.ref b] s) (F0 m 554 ls []) := by
  obtain ⟨hx, hb, hr, hml, hown, hts0, hX, hbl, hlocks, hgv⟩ := C0
  have hts : ∀ w ∈ wsL_law, w.before #[Value.ref b] s = true := fun w h => hts0 w (wsL_law_in w h)
  have hA : ∀ q : Nat, s.heap.size ≤ q → (fun q : Nat => s.heap.size ≤ q) q := fun _ h => h
  have hbA : ¬ (fun q : Nat => s.heap.size ≤ q) b := Nat.not_le.mpr hbl
  have hown : s.vm.findClass RL = some m.cls := hown
  obtain ⟨r, u_ha, u_da, u_ma, u_ja, u_up, u_fu, v_da, v_ma, v_ho, v_ti, v_be, v_up, e4, e5, R2⟩ := st_mount (b_ja := b_ja) (n_ho := n_ho) (n_ti := n_ti) (n_be := n_be) R 
  refine lv_aload_n hx hb dL_law_554 rfl (lv_at hl 1 rfl) ?_
  have hPc := hP.sub (ws' := (wB A_x A_d A_mh A_jh A_ha A_da A_ma A_ja K_ha K_da K_ma K_ja b_ha b_da b_ma b_ja b_up b_fu)) [0, 1, 2, 3, 4, 5, 6, 7] rfl
  have hDc := hD.sub (ws' := (wB A_x A_d A_mh A_jh A_ha A_da A_ma A_ja K_ha K_da K_ma K_ja b_ha b_da b_ma b_ja b_up b_fu)) [0, 1, 2, 3, 4, 5, 6, 7] (by decide) rfl
  have hKc := hK.sub (tys' := (tB K_ha K_da K_ma K_ja)) [0, 1, 2, 3] rfl
  have hFc := va_free (wc := (wB A_x A_d A_mh A_jh A_ha A_da A_ma A_ja K_ha K_da K_ma K_ja b_ha b_da b_ma b_ja b_up b_fu)) hD hS hA [0, 1, 2, 3, 4, 5, 6, 7] rfl
  refine va_calli (va_runV (As := []) (rest := []) ⟨hx, hb, hml, hown, hts⟩ (k_X4_mount l dC dI A_x A_d A_mh A_jh A_ha A_da A_ma A_ja K_ha K_da K_ma K_ja b_ha b_da b_ma b_ja b_up b_fu H.size  _ _ _ _ _ _ _  e4) (cwV 0 hts gL_law_X4_mount rfl rfl rfl (by decide +kernel) ⟨Nat.le_of_ble_eq_true rfl, Nat.le_of_ble_eq_true rfl⟩) ⟨w_blW, va_recv hKc hPc (ci := 2) (q0 := 0) rfl rfl, fun U hU hW => ⟨rfl, by rw [hU], by rw [hU]; exact hPc, va_K.moved hW.alike hKc, hDc.weaken (fun _ _ _ _ => trivial)⟩⟩ rfl rfl hl.1 rfl (lv_room (Nat.le_of_ble_eq_true rfl)) dL_law_555 ⟨Nat.le_of_ble_eq_true rfl, Nat.le_of_ble_eq_true rfl⟩) hS (fun q _ h => hFc q h) hFc (fun _ _ t H_X4 locs_X4 ht hvm hw hB hz1 hk1 hS => ?_)
  subst hw
  refine W.widen (k := 17) (n := 1343) (Nat.le_of_ble_eq_true rfl) (Nat.le_of_ble_eq_true rfl) ?_
  obtain ⟨hP1, hD1⟩ := hB
  rw [ht] at hP1
  obtain ⟨hP, hD⟩ := va_join (wr := (wM N_x N_da N_ma N_ha N_ho N_ti N_be N_te N_ch J_da J_ma J_ha J_ho J_ti J_be J_te J_ch n_da n_ma n_ha n_ho n_ti n_be n_te n_ch n_up n_fu n_tm n_tc)) (w1 := (wB A_x A_d A_mh A_jh A_ha A_da A_ma A_ja K_ha K_da K_ma K_ja u_ha u_da u_ma u_ja u_up u_fu)) hP hD [0, 1, 2, 3, 4, 5, 6, 7] [8, 9, 10, 11, 12, 13, 14, 15, 16] rfl rfl (by decide) (by decide) hk1 hFc hP1 hD1
  have hP : va_P (dC, dI) vwCl ((wB A_x A_d A_mh A_jh A_ha A_da A_ma A_ja K_ha K_da K_ma K_ja u_ha u_da u_ma u_ja u_up u_fu) ++ (wM N_x N_da N_ma N_ha N_ho N_ti N_be N_te N_ch J_da J_ma J_ha J_ho J_ti J_be J_te J_ch n_da n_ma n_ha n_ho n_ti n_be n_te n_ch n_up n_fu n_tm n_tc)) H_X4 := hP.sub [9, 10, 11, 12, 13, 14, 15, 16, 0, 1, 2, 3, 4, 5, 6, 7, 8] rfl
  have hD : va_D (fun q : Nat => s.heap.size ≤ q) ((wB A_x A_d A_mh A_jh A_ha A_da A_ma A_ja K_ha K_da K_ma K_ja u_ha u_da u_ma u_ja u_up u_fu) ++ (wM N_x N_da N_ma N_ha N_ho N_ti N_be N_te N_ch J_da J_ma J_ha J_ho J_ti J_be J_te J_ch n_da n_ma n_ha n_ho n_ti n_be n_te n_ch n_up n_fu n_tm n_tc)) := hD.sub [9, 10, 11, 12, 13, 14, 15, 16, 0, 1, 2, 3, 4, 5, 6, 7, 8] (by decide) rfl
  refine lv_aload_n hx hb dL_law_558 rfl (lv_at hl 2 rfl) ?_
  have hPc := hP.sub (ws' := (wM N_x N_da N_ma N_ha N_ho N_ti N_be N_te N_ch J_da J_ma J_ha J_ho J_ti J_be J_te J_ch n_da n_ma n_ha n_ho n_ti n_be n_te n_ch n_up n_fu n_tm n_tc)) [8, 9, 10, 11, 12, 13, 14, 15, 16] rfl
  have hDc := hD.sub (ws' := (wM N_x N_da N_ma N_ha N_ho N_ti N_be N_te N_ch J_da J_ma J_ha J_ho J_ti J_be J_te J_ch n_da n_ma n_ha n_ho n_ti n_be n_te n_ch n_up n_fu n_tm n_tc)) [8, 9, 10, 11, 12, 13, 14, 15, 16] (by decide) rfl
  have hKc := hK.sub (tys' := (tM J_da J_ma J_ha J_ho J_ti J_be J_te J_ch)) [4, 5, 6, 7, 8, 9, 10, 11] rfl
  have hFc := va_free (wc := (wM N_x N_da N_ma N_ha N_ho N_ti N_be N_te N_ch J_da J_ma J_ha J_ho J_ti J_be J_te J_ch n_da n_ma n_ha n_ho n_ti n_be n_te n_ch n_up n_fu n_tm n_tc)) hD hS hA [8, 9, 10, 11, 12, 13, 14, 15, 16] rfl
  refine va_calli (va_runV (As := []) (rest := [.int r]) ⟨hx, hb, hml, hown, hts⟩ (k_X5_mount l dC dI N_x N_da N_ma N_ha N_ho N_ti N_be N_te N_ch J_da J_ma J_ha J_ho J_ti J_be J_te J_ch n_da n_ma n_ha n_ho n_ti n_be n_te n_ch n_up n_fu n_tm n_tc H_X4.size  _ _ _ _ _ _ _  e5) (cwV 0 hts gL_law_X5_mount rfl rfl rfl (by decide +kernel) ⟨Nat.le_of_ble_eq_true rfl, Nat.le_of_ble_eq_true rfl⟩) ⟨w_blW, va_recv hKc hPc (ci := 3) (q0 := 0) rfl rfl, fun U hU hW => ⟨rfl, by rw [hU], by rw [hU]; exact hPc, va_K.moved hW.alike hKc, hDc.weaken (fun _ _ _ _ => trivial)⟩⟩ rfl rfl hl.1 rfl (lv_room (Nat.le_of_ble_eq_true rfl)) dL_law_559 ⟨Nat.le_of_ble_eq_true rfl, Nat.le_of_ble_eq_true rfl⟩) hS (fun q _ h => hFc q h) hFc (fun _ _ t H_X5 locs_X5 ht hvm hw hB hz1 hk1 hS => ?_)
  subst hw
  refine W.widen (k := 17) (n := 1343) (Nat.le_of_ble_eq_true rfl) (Nat.le_of_ble_eq_true rfl) ?_
  obtain ⟨hP1, hD1⟩ := hB
  rw [ht] at hP1
  obtain ⟨hP, hD⟩ := va_join (wr := (wB A_x A_d A_mh A_jh A_ha A_da A_ma A_ja K_ha K_da K_ma K_ja u_ha u_da u_ma u_ja u_up u_fu)) (w1 := (wM N_x N_da N_ma N_ha N_ho N_ti N_be N_te N_ch J_da J_ma J_ha J_ho J_ti J_be J_te J_ch v_da v_ma n_ha v_ho v_ti v_be n_te n_ch v_up n_fu n_tm n_tc)) hP hD [8, 9, 10, 11, 12, 13, 14, 15, 16] [0, 1, 2, 3, 4, 5, 6, 7] rfl rfl (by decide) (by decide) hk1 hFc hP1 hD1
  have hP : va_P (dC, dI) vwCl ((wB A_x A_d A_mh A_jh A_ha A_da A_ma A_ja K_ha K_da K_ma K_ja u_ha u_da u_ma u_ja u_up u_fu) ++ (wM N_x N_da N_ma N_ha N_ho N_ti N_be N_te N_ch J_da J_ma J_ha J_ho J_ti J_be J_te J_ch v_da v_ma n_ha v_ho v_ti v_be n_te n_ch v_up n_fu n_tm n_tc)) H_X5 := hP
  have hD : va_D (fun q : Nat => s.heap.size ≤ q) ((wB A_x A_d A_mh A_jh A_ha A_da A_ma A_ja K_ha K_da K_ma K_ja u_ha u_da u_ma u_ja u_up u_fu) ++ (wM N_x N_da N_ma N_ha N_ho N_ti N_be N_te N_ch J_da J_ma J_ha J_ho J_ti J_be J_te J_ch v_da v_ma n_ha v_ho v_ti v_be n_te n_ch v_up n_fu n_tm n_tc)) := hD
  refine lv_icmp_eq (tgt := 636) hx hb dL_law_562 (by decide) (fun _ => ?_) (fun cx => absurd rfl cx)
  exact K u_ha u_da u_ma u_ja u_up u_fu v_da v_ma n_ha v_ho v_ti v_be n_te n_ch v_up n_fu n_tm n_tc R2 _ _ hP hD hS _ hl
set_option maxHeartbeats 4000000 in
set_option maxRecDepth 100000 in
theorem law_c17 {p : Program} {l : Launch} {e : Env} {s : State} {m : MethodId} {below : List Frame} {meth : Method} {c : Code} {dC : Nat → ClassId} {dI : Nat → Nat → Nat} {b L : Nat} {xs : Nat → Int32} (hL : L ≤ 256) (C0 : lw_At p s m meth c b L xs) {A_x A_d A_mh A_jh A_ha A_da A_ma A_ja N_x N_da N_ma N_ha N_ho N_ti N_be N_te N_ch : Nat} {K_ha K_da K_ma K_ja J_da J_ma J_ha J_ho J_ti J_be J_te J_ch : ClassId} {b_ha : Nat → Int32} {b_da : Nat → Int32} {b_ma : Nat → Int32} {b_ja : Nat → Int32} {b_up : Int32} {b_fu : Int32} {n_da : Nat → Int32} {n_ma : Nat → Int32} {n_ha : Nat → Int32} {n_ho : Nat → Int32} {n_ti : Nat → Int32} {n_be : Nat → Int32} {n_te : Nat → Int32} {n_ch : Nat → Int32} {n_up : Int32} {n_fu : Int32} {n_tm : Int32} {n_tc : Int32} {i : Nat} (hi : i + 4 ≤ L) (R : Rel b_ha b_da b_ma b_up b_fu n_da n_ma n_ha n_up n_fu) (H : Heap) (locs : List Loc) (hK : va_K (dC, dI) vwCl ((tB K_ha K_da K_ma K_ja) ++ (tM J_da J_ma J_ha J_ho J_ti J_be J_te J_ch)) s) (hP : va_P (dC, dI) vwCl ((wB A_x A_d A_mh A_jh A_ha A_da A_ma A_ja K_ha K_da K_ma K_ja b_ha b_da b_ma b_ja b_up b_fu) ++ (wM N_x N_da N_ma N_ha N_ho N_ti N_be N_te N_ch J_da J_ma J_ha J_ho J_ti J_be J_te J_ch n_da n_ma n_ha n_ho n_ti n_be n_te n_ch n_up n_fu n_tm n_tc)) H) (hD : va_D (fun q : Nat => s.heap.size ≤ q) ((wB A_x A_d A_mh A_jh A_ha A_da A_ma A_ja K_ha K_da K_ma K_ja b_ha b_da b_ma b_ja b_up b_fu) ++ (wM N_x N_da N_ma N_ha N_ho N_ti N_be N_te N_ch J_da J_ma J_ha J_ho J_ti J_be J_te J_ch n_da n_ma n_ha n_ho n_ti n_be n_te n_ch n_up n_fu n_tm n_tc))) (hS : va_S (fun q : Nat => s.heap.size ≤ q) s.heap H locs) (ls : Array Slot) (hl : lv_has ls 4 [(0, .ref b), (1, .ref A_x), (2, .ref N_x), (3, .int (nI i))])
    (K : ∀ (u_ha : Nat → Int32) (u_da : Nat → Int32) (u_ma : Nat → Int32) (u_ja : Nat → Int32) (u_up : Int32) (u_fu : Int32) (v_da : Nat → Int32) (v_ma : Nat → Int32) (v_ha : Nat → Int32) (v_ho : Nat → Int32) (v_ti : Nat → Int32) (v_be : Nat → Int32) (v_te : Nat → Int32) (v_ch : Nat → Int32) (v_up : Int32) (v_fu : Int32) (v_tm : Int32) (v_tc : Int32), Rel u_ha u_da u_ma u_up u_fu v_da v_ma v_ha v_up v_fu → ∀ (H : Heap) (locs : List Loc), va_P (dC, dI) vwCl ((wB A_x A_d A_mh A_jh A_ha A_da A_ma A_ja K_ha K_da K_ma K_ja u_ha u_da u_ma u_ja u_up u_fu) ++ (wM N_x N_da N_ma N_ha N_ho N_ti N_be N_te N_ch J_da J_ma J_ha J_ho J_ti J_be J_te J_ch v_da v_ma v_ha v_ho v_ti v_be v_te v_ch v_up v_fu v_tm v_tc)) H → va_D (fun q : Nat => s.heap.size ≤ q) ((wB A_x A_d A_mh A_jh A_ha A_da A_ma A_ja K_ha K_da K_ma K_ja u_ha u_da u_ma u_ja u_up u_fu) ++ (wM N_x N_da N_ma N_ha N_ho N_ti N_be N_te N_ch J_da J_ma J_ha J_ho J_ti J_be J_te J_ch v_da v_ma v_ha v_ho v_ti v_be v_te v_ch v_up v_fu v_tm v_tc)) → va_S (fun q : Nat => s.heap.size ≤ q) s.heap H locs → ∀ (ls : Array Slot), lv_has ls 4 [(0, .ref b), (1, .ref A_x), (2, .ref N_x), (3, .int (nI i))] → W p l e room_1 s m #[Value.ref b] below meth c H locs 17 1343 (lw_Z below #[Value.ref b] s) (F0 m 636 ls [])) : W p l e room_1 s m #[Value.ref b] below meth c H locs 17 1343 (lw_Z below #[Value.ref b] s) (F0 m 567 ls []) := by
  obtain ⟨hx, hb, hr, hml, hown, hts0, hX, hbl, hlocks, hgv⟩ := C0
  have hts : ∀ w ∈ wsL_law, w.before #[Value.ref b] s = true := fun w h => hts0 w (wsL_law_in w h)
  have hA : ∀ q : Nat, s.heap.size ≤ q → (fun q : Nat => s.heap.size ≤ q) q := fun _ h => h
  have hbA : ¬ (fun q : Nat => s.heap.size ≤ q) b := Nat.not_le.mpr hbl
  have hown : s.vm.findClass RL = some m.cls := hown
  have hin1 : vp_in (nI i + (1 : Int32)) L := vp_in_at (nI_add i 1) (by omega) (by omega)
  have hin2 : vp_in (nI i + (2 : Int32)) L := vp_in_at (nI_add i 2) (by omega) (by omega)
  obtain ⟨r, u_da, v_da, e4, e5, R2⟩ := st_corrupt  R (xs (nI i + (1 : Int32)).toNatClampNeg) (xs (nI i + (2 : Int32)).toNatClampNeg)
  refine lv_aload_n hx hb dL_law_567 rfl (lv_at hl 1 rfl) ?_
  refine lv_aload_n hx hb dL_law_568 rfl (lv_at hl 0 rfl) ?_
  refine lv_iload_n hx hb dL_law_569 rfl (lv_at hl 3 rfl) ?_
  refine lv_iconst (v := 1) hx hb dL_law_570 (by decide) ?_
  refine lv_iadd hx hb dL_law_571 ?_
  refine va_sld hx hb hX hbl hbA hS hin1 dL_law_572 ?_
  refine lv_aload_n hx hb dL_law_573 rfl (lv_at hl 0 rfl) ?_
  refine lv_iload_n hx hb dL_law_574 rfl (lv_at hl 3 rfl) ?_
  refine lv_iconst (v := 2) hx hb dL_law_575 (by decide) ?_
  refine lv_iadd hx hb dL_law_576 ?_
  refine va_sld hx hb hX hbl hbA hS hin2 dL_law_577 ?_
  have hPc := hP.sub (ws' := (wB A_x A_d A_mh A_jh A_ha A_da A_ma A_ja K_ha K_da K_ma K_ja b_ha b_da b_ma b_ja b_up b_fu)) [0, 1, 2, 3, 4, 5, 6, 7] rfl
  have hDc := hD.sub (ws' := (wB A_x A_d A_mh A_jh A_ha A_da A_ma A_ja K_ha K_da K_ma K_ja b_ha b_da b_ma b_ja b_up b_fu)) [0, 1, 2, 3, 4, 5, 6, 7] (by decide) rfl
  have hKc := hK.sub (tys' := (tB K_ha K_da K_ma K_ja)) [0, 1, 2, 3] rfl
  have hFc := va_free (wc := (wB A_x A_d A_mh A_jh A_ha A_da A_ma A_ja K_ha K_da K_ma K_ja b_ha b_da b_ma b_ja b_up b_fu)) hD hS hA [0, 1, 2, 3, 4, 5, 6, 7] rfl
  refine va_calli (va_runV (As := [.int (xs (nI i + (1 : Int32)).toNatClampNeg), .int (xs (nI i + (2 : Int32)).toNatClampNeg)]) (rest := []) ⟨hx, hb, hml, hown, hts⟩ (k_X4_corrupt l dC dI A_x A_d A_mh A_jh A_ha A_da A_ma A_ja K_ha K_da K_ma K_ja b_ha b_da b_ma b_ja b_up b_fu H.size (xs (nI i + (1 : Int32)).toNatClampNeg) (xs (nI i + (2 : Int32)).toNatClampNeg) _ _  e4) (cwV 2 hts gL_law_X4_corrupt rfl rfl rfl (by decide +kernel) ⟨Nat.le_of_ble_eq_true rfl, Nat.le_of_ble_eq_true rfl⟩) ⟨w_blW, va_recv hKc hPc (ci := 2) (q0 := 0) rfl rfl, fun U hU hW => ⟨rfl, by rw [hU], by rw [hU]; exact hPc, va_K.moved hW.alike hKc, hDc.weaken (fun _ _ _ _ => trivial)⟩⟩ rfl rfl hl.1 rfl (lv_room (Nat.le_of_ble_eq_true rfl)) dL_law_578 ⟨Nat.le_of_ble_eq_true rfl, Nat.le_of_ble_eq_true rfl⟩) hS (fun q _ h => hFc q h) hFc (fun _ _ t H_X4 locs_X4 ht hvm hw hB hz1 hk1 hS => ?_)
  subst hw
  refine W.widen (k := 17) (n := 1343) (Nat.le_of_ble_eq_true rfl) (Nat.le_of_ble_eq_true rfl) ?_
  obtain ⟨hP1, hD1⟩ := hB
  rw [ht] at hP1
  obtain ⟨hP, hD⟩ := va_join (wr := (wM N_x N_da N_ma N_ha N_ho N_ti N_be N_te N_ch J_da J_ma J_ha J_ho J_ti J_be J_te J_ch n_da n_ma n_ha n_ho n_ti n_be n_te n_ch n_up n_fu n_tm n_tc)) (w1 := (wB A_x A_d A_mh A_jh A_ha A_da A_ma A_ja K_ha K_da K_ma K_ja b_ha u_da b_ma b_ja b_up b_fu)) hP hD [0, 1, 2, 3, 4, 5, 6, 7] [8, 9, 10, 11, 12, 13, 14, 15, 16] rfl rfl (by decide) (by decide) hk1 hFc hP1 hD1
  have hP : va_P (dC, dI) vwCl ((wB A_x A_d A_mh A_jh A_ha A_da A_ma A_ja K_ha K_da K_ma K_ja b_ha u_da b_ma b_ja b_up b_fu) ++ (wM N_x N_da N_ma N_ha N_ho N_ti N_be N_te N_ch J_da J_ma J_ha J_ho J_ti J_be J_te J_ch n_da n_ma n_ha n_ho n_ti n_be n_te n_ch n_up n_fu n_tm n_tc)) H_X4 := hP.sub [9, 10, 11, 12, 13, 14, 15, 16, 0, 1, 2, 3, 4, 5, 6, 7, 8] rfl
  have hD : va_D (fun q : Nat => s.heap.size ≤ q) ((wB A_x A_d A_mh A_jh A_ha A_da A_ma A_ja K_ha K_da K_ma K_ja b_ha u_da b_ma b_ja b_up b_fu) ++ (wM N_x N_da N_ma N_ha N_ho N_ti N_be N_te N_ch J_da J_ma J_ha J_ho J_ti J_be J_te J_ch n_da n_ma n_ha n_ho n_ti n_be n_te n_ch n_up n_fu n_tm n_tc)) := hD.sub [9, 10, 11, 12, 13, 14, 15, 16, 0, 1, 2, 3, 4, 5, 6, 7, 8] (by decide) rfl
  refine lv_aload_n hx hb dL_law_581 rfl (lv_at hl 2 rfl) ?_
  refine lv_aload_n hx hb dL_law_582 rfl (lv_at hl 0 rfl) ?_
  refine lv_iload_n hx hb dL_law_583 rfl (lv_at hl 3 rfl) ?_
  refine lv_iconst (v := 1) hx hb dL_law_584 (by decide) ?_
  refine lv_iadd hx hb dL_law_585 ?_
  refine va_sld hx hb hX hbl hbA hS hin1 dL_law_586 ?_
  refine lv_aload_n hx hb dL_law_587 rfl (lv_at hl 0 rfl) ?_
  refine lv_iload_n hx hb dL_law_588 rfl (lv_at hl 3 rfl) ?_
  refine lv_iconst (v := 2) hx hb dL_law_589 (by decide) ?_
  refine lv_iadd hx hb dL_law_590 ?_
  refine va_sld hx hb hX hbl hbA hS hin2 dL_law_591 ?_
  have hPc := hP.sub (ws' := (wM N_x N_da N_ma N_ha N_ho N_ti N_be N_te N_ch J_da J_ma J_ha J_ho J_ti J_be J_te J_ch n_da n_ma n_ha n_ho n_ti n_be n_te n_ch n_up n_fu n_tm n_tc)) [8, 9, 10, 11, 12, 13, 14, 15, 16] rfl
  have hDc := hD.sub (ws' := (wM N_x N_da N_ma N_ha N_ho N_ti N_be N_te N_ch J_da J_ma J_ha J_ho J_ti J_be J_te J_ch n_da n_ma n_ha n_ho n_ti n_be n_te n_ch n_up n_fu n_tm n_tc)) [8, 9, 10, 11, 12, 13, 14, 15, 16] (by decide) rfl
  have hKc := hK.sub (tys' := (tM J_da J_ma J_ha J_ho J_ti J_be J_te J_ch)) [4, 5, 6, 7, 8, 9, 10, 11] rfl
  have hFc := va_free (wc := (wM N_x N_da N_ma N_ha N_ho N_ti N_be N_te N_ch J_da J_ma J_ha J_ho J_ti J_be J_te J_ch n_da n_ma n_ha n_ho n_ti n_be n_te n_ch n_up n_fu n_tm n_tc)) hD hS hA [8, 9, 10, 11, 12, 13, 14, 15, 16] rfl
  refine va_calli (va_runV (As := [.int (xs (nI i + (1 : Int32)).toNatClampNeg), .int (xs (nI i + (2 : Int32)).toNatClampNeg)]) (rest := [.int r]) ⟨hx, hb, hml, hown, hts⟩ (k_X5_corrupt l dC dI N_x N_da N_ma N_ha N_ho N_ti N_be N_te N_ch J_da J_ma J_ha J_ho J_ti J_be J_te J_ch n_da n_ma n_ha n_ho n_ti n_be n_te n_ch n_up n_fu n_tm n_tc H_X4.size (xs (nI i + (1 : Int32)).toNatClampNeg) (xs (nI i + (2 : Int32)).toNatClampNeg) _ _  e5) (cwV 2 hts gL_law_X5_corrupt rfl rfl rfl (by decide +kernel) ⟨Nat.le_of_ble_eq_true rfl, Nat.le_of_ble_eq_true rfl⟩) ⟨w_blW, va_recv hKc hPc (ci := 3) (q0 := 0) rfl rfl, fun U hU hW => ⟨rfl, by rw [hU], by rw [hU]; exact hPc, va_K.moved hW.alike hKc, hDc.weaken (fun _ _ _ _ => trivial)⟩⟩ rfl rfl hl.1 rfl (lv_room (Nat.le_of_ble_eq_true rfl)) dL_law_592 ⟨Nat.le_of_ble_eq_true rfl, Nat.le_of_ble_eq_true rfl⟩) hS (fun q _ h => hFc q h) hFc (fun _ _ t H_X5 locs_X5 ht hvm hw hB hz1 hk1 hS => ?_)
  subst hw
  refine W.widen (k := 17) (n := 1343) (Nat.le_of_ble_eq_true rfl) (Nat.le_of_ble_eq_true rfl) ?_
  obtain ⟨hP1, hD1⟩ := hB
  rw [ht] at hP1
  obtain ⟨hP, hD⟩ := va_join (wr := (wB A_x A_d A_mh A_jh A_ha A_da A_ma A_ja K_ha K_da K_ma K_ja b_ha u_da b_ma b_ja b_up b_fu)) (w1 := (wM N_x N_da N_ma N_ha N_ho N_ti N_be N_te N_ch J_da J_ma J_ha J_ho J_ti J_be J_te J_ch v_da n_ma n_ha n_ho n_ti n_be n_te n_ch n_up n_fu n_tm n_tc)) hP hD [8, 9, 10, 11, 12, 13, 14, 15, 16] [0, 1, 2, 3, 4, 5, 6, 7] rfl rfl (by decide) (by decide) hk1 hFc hP1 hD1
  have hP : va_P (dC, dI) vwCl ((wB A_x A_d A_mh A_jh A_ha A_da A_ma A_ja K_ha K_da K_ma K_ja b_ha u_da b_ma b_ja b_up b_fu) ++ (wM N_x N_da N_ma N_ha N_ho N_ti N_be N_te N_ch J_da J_ma J_ha J_ho J_ti J_be J_te J_ch v_da n_ma n_ha n_ho n_ti n_be n_te n_ch n_up n_fu n_tm n_tc)) H_X5 := hP
  have hD : va_D (fun q : Nat => s.heap.size ≤ q) ((wB A_x A_d A_mh A_jh A_ha A_da A_ma A_ja K_ha K_da K_ma K_ja b_ha u_da b_ma b_ja b_up b_fu) ++ (wM N_x N_da N_ma N_ha N_ho N_ti N_be N_te N_ch J_da J_ma J_ha J_ho J_ti J_be J_te J_ch v_da n_ma n_ha n_ho n_ti n_be n_te n_ch n_up n_fu n_tm n_tc)) := hD
  refine lv_icmp_eq (tgt := 636) hx hb dL_law_595 (by decide) (fun _ => ?_) (fun cx => absurd rfl cx)
  exact K b_ha u_da b_ma b_ja b_up b_fu v_da n_ma n_ha n_ho n_ti n_be n_te n_ch n_up n_fu n_tm n_tc R2 _ _ hP hD hS _ hl
set_option maxHeartbeats 4000000 in
set_option maxRecDepth 100000 in
theorem law_c18 {p : Program} {l : Launch} {e : Env} {s : State} {m : MethodId} {below : List Frame} {meth : Method} {c : Code} {dC : Nat → ClassId} {dI : Nat → Nat → Nat} {b L : Nat} {xs : Nat → Int32} (hL : L ≤ 256) (C0 : lw_At p s m meth c b L xs) {A_x A_d A_mh A_jh A_ha A_da A_ma A_ja N_x N_da N_ma N_ha N_ho N_ti N_be N_te N_ch : Nat} {K_ha K_da K_ma K_ja J_da J_ma J_ha J_ho J_ti J_be J_te J_ch : ClassId} {b_ha : Nat → Int32} {b_da : Nat → Int32} {b_ma : Nat → Int32} {b_ja : Nat → Int32} {b_up : Int32} {b_fu : Int32} {n_da : Nat → Int32} {n_ma : Nat → Int32} {n_ha : Nat → Int32} {n_ho : Nat → Int32} {n_ti : Nat → Int32} {n_be : Nat → Int32} {n_te : Nat → Int32} {n_ch : Nat → Int32} {n_up : Int32} {n_fu : Int32} {n_tm : Int32} {n_tc : Int32} {i : Nat} (hi : i + 4 ≤ L) (R : Rel b_ha b_da b_ma b_up b_fu n_da n_ma n_ha n_up n_fu) (H : Heap) (locs : List Loc) (hK : va_K (dC, dI) vwCl ((tB K_ha K_da K_ma K_ja) ++ (tM J_da J_ma J_ha J_ho J_ti J_be J_te J_ch)) s) (hP : va_P (dC, dI) vwCl ((wB A_x A_d A_mh A_jh A_ha A_da A_ma A_ja K_ha K_da K_ma K_ja b_ha b_da b_ma b_ja b_up b_fu) ++ (wM N_x N_da N_ma N_ha N_ho N_ti N_be N_te N_ch J_da J_ma J_ha J_ho J_ti J_be J_te J_ch n_da n_ma n_ha n_ho n_ti n_be n_te n_ch n_up n_fu n_tm n_tc)) H) (hD : va_D (fun q : Nat => s.heap.size ≤ q) ((wB A_x A_d A_mh A_jh A_ha A_da A_ma A_ja K_ha K_da K_ma K_ja b_ha b_da b_ma b_ja b_up b_fu) ++ (wM N_x N_da N_ma N_ha N_ho N_ti N_be N_te N_ch J_da J_ma J_ha J_ho J_ti J_be J_te J_ch n_da n_ma n_ha n_ho n_ti n_be n_te n_ch n_up n_fu n_tm n_tc))) (hS : va_S (fun q : Nat => s.heap.size ≤ q) s.heap H locs) (ls : Array Slot) (hl : lv_has ls 4 [(0, .ref b), (1, .ref A_x), (2, .ref N_x), (3, .int (nI i))])
    (K : ∀ (u_ha : Nat → Int32) (u_da : Nat → Int32) (u_ma : Nat → Int32) (u_ja : Nat → Int32) (u_up : Int32) (u_fu : Int32) (v_da : Nat → Int32) (v_ma : Nat → Int32) (v_ha : Nat → Int32) (v_ho : Nat → Int32) (v_ti : Nat → Int32) (v_be : Nat → Int32) (v_te : Nat → Int32) (v_ch : Nat → Int32) (v_up : Int32) (v_fu : Int32) (v_tm : Int32) (v_tc : Int32), Rel u_ha u_da u_ma u_up u_fu v_da v_ma v_ha v_up v_fu → ∀ (H : Heap) (locs : List Loc), va_P (dC, dI) vwCl ((wB A_x A_d A_mh A_jh A_ha A_da A_ma A_ja K_ha K_da K_ma K_ja u_ha u_da u_ma u_ja u_up u_fu) ++ (wM N_x N_da N_ma N_ha N_ho N_ti N_be N_te N_ch J_da J_ma J_ha J_ho J_ti J_be J_te J_ch v_da v_ma v_ha v_ho v_ti v_be v_te v_ch v_up v_fu v_tm v_tc)) H → va_D (fun q : Nat => s.heap.size ≤ q) ((wB A_x A_d A_mh A_jh A_ha A_da A_ma A_ja K_ha K_da K_ma K_ja u_ha u_da u_ma u_ja u_up u_fu) ++ (wM N_x N_da N_ma N_ha N_ho N_ti N_be N_te N_ch J_da J_ma J_ha J_ho J_ti J_be J_te J_ch v_da v_ma v_ha v_ho v_ti v_be v_te v_ch v_up v_fu v_tm v_tc)) → va_S (fun q : Nat => s.heap.size ≤ q) s.heap H locs → ∀ (ls : Array Slot), lv_has ls 4 [(0, .ref b), (1, .ref A_x), (2, .ref N_x), (3, .int (nI i))] → W p l e room_1 s m #[Value.ref b] below meth c H locs 17 1343 (lw_Z below #[Value.ref b] s) (F0 m 636 ls [])) : W p l e room_1 s m #[Value.ref b] below meth c H locs 17 1343 (lw_Z below #[Value.ref b] s) (F0 m 600 ls []) := by
  obtain ⟨hx, hb, hr, hml, hown, hts0, hX, hbl, hlocks, hgv⟩ := C0
  have hts : ∀ w ∈ wsL_law, w.before #[Value.ref b] s = true := fun w h => hts0 w (wsL_law_in w h)
  have hA : ∀ q : Nat, s.heap.size ≤ q → (fun q : Nat => s.heap.size ≤ q) q := fun _ h => h
  have hbA : ¬ (fun q : Nat => s.heap.size ≤ q) b := Nat.not_le.mpr hbl
  have hown : s.vm.findClass RL = some m.cls := hown
  obtain ⟨r, u_ja, v_ho, v_ti, v_be, e4, e5, R2⟩ := st_fsck (b_ja := b_ja) (n_ho := n_ho) (n_ti := n_ti) (n_be := n_be) R 
  refine lv_aload_n hx hb dL_law_600 rfl (lv_at hl 1 rfl) ?_
  have hPc := hP.sub (ws' := (wB A_x A_d A_mh A_jh A_ha A_da A_ma A_ja K_ha K_da K_ma K_ja b_ha b_da b_ma b_ja b_up b_fu)) [0, 1, 2, 3, 4, 5, 6, 7] rfl
  have hDc := hD.sub (ws' := (wB A_x A_d A_mh A_jh A_ha A_da A_ma A_ja K_ha K_da K_ma K_ja b_ha b_da b_ma b_ja b_up b_fu)) [0, 1, 2, 3, 4, 5, 6, 7] (by decide) rfl
  have hKc := hK.sub (tys' := (tB K_ha K_da K_ma K_ja)) [0, 1, 2, 3] rfl
  have hFc := va_free (wc := (wB A_x A_d A_mh A_jh A_ha A_da A_ma A_ja K_ha K_da K_ma K_ja b_ha b_da b_ma b_ja b_up b_fu)) hD hS hA [0, 1, 2, 3, 4, 5, 6, 7] rfl
  refine va_calli (va_runV (As := []) (rest := []) ⟨hx, hb, hml, hown, hts⟩ (k_X4_fsck l dC dI A_x A_d A_mh A_jh A_ha A_da A_ma A_ja K_ha K_da K_ma K_ja b_ha b_da b_ma b_ja b_up b_fu H.size  _ _  e4) (cwV 0 hts gL_law_X4_fsck rfl rfl rfl (by decide +kernel) ⟨Nat.le_of_ble_eq_true rfl, Nat.le_of_ble_eq_true rfl⟩) ⟨w_blW, va_recv hKc hPc (ci := 2) (q0 := 0) rfl rfl, fun U hU hW => ⟨rfl, by rw [hU], by rw [hU]; exact hPc, va_K.moved hW.alike hKc, hDc.weaken (fun _ _ _ _ => trivial)⟩⟩ rfl rfl hl.1 rfl (lv_room (Nat.le_of_ble_eq_true rfl)) dL_law_601 ⟨Nat.le_of_ble_eq_true rfl, Nat.le_of_ble_eq_true rfl⟩) hS (fun q _ h => hFc q h) hFc (fun _ _ t H_X4 locs_X4 ht hvm hw hB hz1 hk1 hS => ?_)
  subst hw
  refine W.widen (k := 17) (n := 1343) (Nat.le_of_ble_eq_true rfl) (Nat.le_of_ble_eq_true rfl) ?_
  obtain ⟨hP1, hD1⟩ := hB
  rw [ht] at hP1
  obtain ⟨hP, hD⟩ := va_join (wr := (wM N_x N_da N_ma N_ha N_ho N_ti N_be N_te N_ch J_da J_ma J_ha J_ho J_ti J_be J_te J_ch n_da n_ma n_ha n_ho n_ti n_be n_te n_ch n_up n_fu n_tm n_tc)) (w1 := (wB A_x A_d A_mh A_jh A_ha A_da A_ma A_ja K_ha K_da K_ma K_ja b_ha b_da b_ma u_ja b_up b_fu)) hP hD [0, 1, 2, 3, 4, 5, 6, 7] [8, 9, 10, 11, 12, 13, 14, 15, 16] rfl rfl (by decide) (by decide) hk1 hFc hP1 hD1
  have hP : va_P (dC, dI) vwCl ((wB A_x A_d A_mh A_jh A_ha A_da A_ma A_ja K_ha K_da K_ma K_ja b_ha b_da b_ma u_ja b_up b_fu) ++ (wM N_x N_da N_ma N_ha N_ho N_ti N_be N_te N_ch J_da J_ma J_ha J_ho J_ti J_be J_te J_ch n_da n_ma n_ha n_ho n_ti n_be n_te n_ch n_up n_fu n_tm n_tc)) H_X4 := hP.sub [9, 10, 11, 12, 13, 14, 15, 16, 0, 1, 2, 3, 4, 5, 6, 7, 8] rfl
  have hD : va_D (fun q : Nat => s.heap.size ≤ q) ((wB A_x A_d A_mh A_jh A_ha A_da A_ma A_ja K_ha K_da K_ma K_ja b_ha b_da b_ma u_ja b_up b_fu) ++ (wM N_x N_da N_ma N_ha N_ho N_ti N_be N_te N_ch J_da J_ma J_ha J_ho J_ti J_be J_te J_ch n_da n_ma n_ha n_ho n_ti n_be n_te n_ch n_up n_fu n_tm n_tc)) := hD.sub [9, 10, 11, 12, 13, 14, 15, 16, 0, 1, 2, 3, 4, 5, 6, 7, 8] (by decide) rfl
  refine lv_aload_n hx hb dL_law_604 rfl (lv_at hl 2 rfl) ?_
  have hPc := hP.sub (ws' := (wM N_x N_da N_ma N_ha N_ho N_ti N_be N_te N_ch J_da J_ma J_ha J_ho J_ti J_be J_te J_ch n_da n_ma n_ha n_ho n_ti n_be n_te n_ch n_up n_fu n_tm n_tc)) [8, 9, 10, 11, 12, 13, 14, 15, 16] rfl
  have hDc := hD.sub (ws' := (wM N_x N_da N_ma N_ha N_ho N_ti N_be N_te N_ch J_da J_ma J_ha J_ho J_ti J_be J_te J_ch n_da n_ma n_ha n_ho n_ti n_be n_te n_ch n_up n_fu n_tm n_tc)) [8, 9, 10, 11, 12, 13, 14, 15, 16] (by decide) rfl
  have hKc := hK.sub (tys' := (tM J_da J_ma J_ha J_ho J_ti J_be J_te J_ch)) [4, 5, 6, 7, 8, 9, 10, 11] rfl
  have hFc := va_free (wc := (wM N_x N_da N_ma N_ha N_ho N_ti N_be N_te N_ch J_da J_ma J_ha J_ho J_ti J_be J_te J_ch n_da n_ma n_ha n_ho n_ti n_be n_te n_ch n_up n_fu n_tm n_tc)) hD hS hA [8, 9, 10, 11, 12, 13, 14, 15, 16] rfl
  refine va_calli (va_runV (As := []) (rest := [.int r]) ⟨hx, hb, hml, hown, hts⟩ (k_X5_fsck l dC dI N_x N_da N_ma N_ha N_ho N_ti N_be N_te N_ch J_da J_ma J_ha J_ho J_ti J_be J_te J_ch n_da n_ma n_ha n_ho n_ti n_be n_te n_ch n_up n_fu n_tm n_tc H_X4.size  _ _ _ _  e5) (cwV 0 hts gL_law_X5_fsck rfl rfl rfl (by decide +kernel) ⟨Nat.le_of_ble_eq_true rfl, Nat.le_of_ble_eq_true rfl⟩) ⟨w_blW, va_recv hKc hPc (ci := 3) (q0 := 0) rfl rfl, fun U hU hW => ⟨rfl, by rw [hU], by rw [hU]; exact hPc, va_K.moved hW.alike hKc, hDc.weaken (fun _ _ _ _ => trivial)⟩⟩ rfl rfl hl.1 rfl (lv_room (Nat.le_of_ble_eq_true rfl)) dL_law_605 ⟨Nat.le_of_ble_eq_true rfl, Nat.le_of_ble_eq_true rfl⟩) hS (fun q _ h => hFc q h) hFc (fun _ _ t H_X5 locs_X5 ht hvm hw hB hz1 hk1 hS => ?_)
  subst hw
  refine W.widen (k := 17) (n := 1343) (Nat.le_of_ble_eq_true rfl) (Nat.le_of_ble_eq_true rfl) ?_
  obtain ⟨hP1, hD1⟩ := hB
  rw [ht] at hP1
  obtain ⟨hP, hD⟩ := va_join (wr := (wB A_x A_d A_mh A_jh A_ha A_da A_ma A_ja K_ha K_da K_ma K_ja b_ha b_da b_ma u_ja b_up b_fu)) (w1 := (wM N_x N_da N_ma N_ha N_ho N_ti N_be N_te N_ch J_da J_ma J_ha J_ho J_ti J_be J_te J_ch n_da n_ma n_ha v_ho v_ti v_be n_te n_ch n_up n_fu n_tm n_tc)) hP hD [8, 9, 10, 11, 12, 13, 14, 15, 16] [0, 1, 2, 3, 4, 5, 6, 7] rfl rfl (by decide) (by decide) hk1 hFc hP1 hD1
  have hP : va_P (dC, dI) vwCl ((wB A_x A_d A_mh A_jh A_ha A_da A_ma A_ja K_ha K_da K_ma K_ja b_ha b_da b_ma u_ja b_up b_fu) ++ (wM N_x N_da N_ma N_ha N_ho N_ti N_be N_te N_ch J_da J_ma J_ha J_ho J_ti J_be J_te J_ch n_da n_ma n_ha v_ho v_ti v_be n_te n_ch n_up n_fu n_tm n_tc)) H_X5 := hP
  have hD : va_D (fun q : Nat => s.heap.size ≤ q) ((wB A_x A_d A_mh A_jh A_ha A_da A_ma A_ja K_ha K_da K_ma K_ja b_ha b_da b_ma u_ja b_up b_fu) ++ (wM N_x N_da N_ma N_ha N_ho N_ti N_be N_te N_ch J_da J_ma J_ha J_ho J_ti J_be J_te J_ch n_da n_ma n_ha v_ho v_ti v_be n_te n_ch n_up n_fu n_tm n_tc)) := hD
  refine lv_icmp_eq (tgt := 636) hx hb dL_law_608 (by decide) (fun _ => ?_) (fun cx => absurd rfl cx)
  exact K b_ha b_da b_ma u_ja b_up b_fu n_da n_ma n_ha v_ho v_ti v_be n_te n_ch n_up n_fu n_tm n_tc R2 _ _ hP hD hS _ hl
set_option maxHeartbeats 4000000 in
set_option maxRecDepth 100000 in
theorem law_c19 {p : Program} {l : Launch} {e : Env} {s : State} {m : MethodId} {below : List Frame} {meth : Method} {c : Code} {dC : Nat → ClassId} {dI : Nat → Nat → Nat} {b L : Nat} {xs : Nat → Int32} (hL : L ≤ 256) (C0 : lw_At p s m meth c b L xs) {A_x A_d A_mh A_jh A_ha A_da A_ma A_ja N_x N_da N_ma N_ha N_ho N_ti N_be N_te N_ch : Nat} {K_ha K_da K_ma K_ja J_da J_ma J_ha J_ho J_ti J_be J_te J_ch : ClassId} {b_ha : Nat → Int32} {b_da : Nat → Int32} {b_ma : Nat → Int32} {b_ja : Nat → Int32} {b_up : Int32} {b_fu : Int32} {n_da : Nat → Int32} {n_ma : Nat → Int32} {n_ha : Nat → Int32} {n_ho : Nat → Int32} {n_ti : Nat → Int32} {n_be : Nat → Int32} {n_te : Nat → Int32} {n_ch : Nat → Int32} {n_up : Int32} {n_fu : Int32} {n_tm : Int32} {n_tc : Int32} {i : Nat} (hi : i + 4 ≤ L) (R : Rel b_ha b_da b_ma b_up b_fu n_da n_ma n_ha n_up n_fu) (H : Heap) (locs : List Loc) (hK : va_K (dC, dI) vwCl ((tB K_ha K_da K_ma K_ja) ++ (tM J_da J_ma J_ha J_ho J_ti J_be J_te J_ch)) s) (hP : va_P (dC, dI) vwCl ((wB A_x A_d A_mh A_jh A_ha A_da A_ma A_ja K_ha K_da K_ma K_ja b_ha b_da b_ma b_ja b_up b_fu) ++ (wM N_x N_da N_ma N_ha N_ho N_ti N_be N_te N_ch J_da J_ma J_ha J_ho J_ti J_be J_te J_ch n_da n_ma n_ha n_ho n_ti n_be n_te n_ch n_up n_fu n_tm n_tc)) H) (hD : va_D (fun q : Nat => s.heap.size ≤ q) ((wB A_x A_d A_mh A_jh A_ha A_da A_ma A_ja K_ha K_da K_ma K_ja b_ha b_da b_ma b_ja b_up b_fu) ++ (wM N_x N_da N_ma N_ha N_ho N_ti N_be N_te N_ch J_da J_ma J_ha J_ho J_ti J_be J_te J_ch n_da n_ma n_ha n_ho n_ti n_be n_te n_ch n_up n_fu n_tm n_tc))) (hS : va_S (fun q : Nat => s.heap.size ≤ q) s.heap H locs) (ls : Array Slot) (hl : lv_has ls 4 [(0, .ref b), (1, .ref A_x), (2, .ref N_x), (3, .int (nI i))])
    (K : ∀ (u_ha : Nat → Int32) (u_da : Nat → Int32) (u_ma : Nat → Int32) (u_ja : Nat → Int32) (u_up : Int32) (u_fu : Int32) (v_da : Nat → Int32) (v_ma : Nat → Int32) (v_ha : Nat → Int32) (v_ho : Nat → Int32) (v_ti : Nat → Int32) (v_be : Nat → Int32) (v_te : Nat → Int32) (v_ch : Nat → Int32) (v_up : Int32) (v_fu : Int32) (v_tm : Int32) (v_tc : Int32), Rel u_ha u_da u_ma u_up u_fu v_da v_ma v_ha v_up v_fu → ∀ (H : Heap) (locs : List Loc), va_P (dC, dI) vwCl ((wB A_x A_d A_mh A_jh A_ha A_da A_ma A_ja K_ha K_da K_ma K_ja u_ha u_da u_ma u_ja u_up u_fu) ++ (wM N_x N_da N_ma N_ha N_ho N_ti N_be N_te N_ch J_da J_ma J_ha J_ho J_ti J_be J_te J_ch v_da v_ma v_ha v_ho v_ti v_be v_te v_ch v_up v_fu v_tm v_tc)) H → va_D (fun q : Nat => s.heap.size ≤ q) ((wB A_x A_d A_mh A_jh A_ha A_da A_ma A_ja K_ha K_da K_ma K_ja u_ha u_da u_ma u_ja u_up u_fu) ++ (wM N_x N_da N_ma N_ha N_ho N_ti N_be N_te N_ch J_da J_ma J_ha J_ho J_ti J_be J_te J_ch v_da v_ma v_ha v_ho v_ti v_be v_te v_ch v_up v_fu v_tm v_tc)) → va_S (fun q : Nat => s.heap.size ≤ q) s.heap H locs → ∀ (ls : Array Slot), lv_has ls 4 [(0, .ref b), (1, .ref A_x), (2, .ref N_x), (3, .int (nI i))] → W p l e room_1 s m #[Value.ref b] below meth c H locs 17 1343 (lw_Z below #[Value.ref b] s) (F0 m 636 ls [])) : W p l e room_1 s m #[Value.ref b] below meth c H locs 17 1343 (lw_Z below #[Value.ref b] s) (F0 m 613 ls []) := by
  obtain ⟨hx, hb, hr, hml, hown, hts0, hX, hbl, hlocks, hgv⟩ := C0
  have hts : ∀ w ∈ wsL_law, w.before #[Value.ref b] s = true := fun w h => hts0 w (wsL_law_in w h)
  have hA : ∀ q : Nat, s.heap.size ≤ q → (fun q : Nat => s.heap.size ≤ q) q := fun _ h => h
  have hbA : ¬ (fun q : Nat => s.heap.size ≤ q) b := Nat.not_le.mpr hbl
  have hown : s.vm.findClass RL = some m.cls := hown
  have hin1 : vp_in (nI i + (1 : Int32)) L := vp_in_at (nI_add i 1) (by omega) (by omega)
  obtain ⟨r, e4, e5, R2⟩ := st_peek  R (xs (nI i + (1 : Int32)).toNatClampNeg)
  refine lv_aload_n hx hb dL_law_613 rfl (lv_at hl 1 rfl) ?_
  refine lv_aload_n hx hb dL_law_614 rfl (lv_at hl 0 rfl) ?_
  refine lv_iload_n hx hb dL_law_615 rfl (lv_at hl 3 rfl) ?_
  refine lv_iconst (v := 1) hx hb dL_law_616 (by decide) ?_
  refine lv_iadd hx hb dL_law_617 ?_
  refine va_sld hx hb hX hbl hbA hS hin1 dL_law_618 ?_
  refine vp_callSi (W.runV (As := [.int (xs (nI i + (1 : Int32)).toNatClampNeg)]) (rest := []) ⟨hx, hb, hml, hown, hts⟩ (k_X4_peek l dC dI A_x A_d A_mh A_jh A_ha A_da A_ma A_ja K_ha K_da K_ma K_ja b_ha b_da b_ma b_ja b_up b_fu (xs (nI i + (1 : Int32)).toNatClampNeg) _ e4) (cwV 1 hts gL_law_X4_peek rfl rfl rfl (by decide +kernel) ⟨Nat.le_of_ble_eq_true rfl, Nat.le_of_ble_eq_true rfl⟩) ⟨w_blR, va_recv hK hP (ci := 2) (q0 := 0) rfl rfl, fun U hU hW => ⟨rfl, by rw [hU]; exact hP.sub [0, 1, 2, 3, 4, 5, 6, 7] rfl, va_K.moved hW.alike (hK.sub [0, 1, 2, 3] rfl)⟩⟩ rfl rfl hl.1 rfl (lv_room (Nat.le_of_ble_eq_true rfl)) dL_law_619 ⟨Nat.le_of_ble_eq_true rfl, Nat.le_of_ble_eq_true rfl⟩) (fun _ ey => ?_)
  subst ey
  refine lv_aload_n hx hb dL_law_622 rfl (lv_at hl 2 rfl) ?_
  refine lv_aload_n hx hb dL_law_623 rfl (lv_at hl 0 rfl) ?_
  refine lv_iload_n hx hb dL_law_624 rfl (lv_at hl 3 rfl) ?_
  refine lv_iconst (v := 1) hx hb dL_law_625 (by decide) ?_
  refine lv_iadd hx hb dL_law_626 ?_
  refine va_sld hx hb hX hbl hbA hS hin1 dL_law_627 ?_
  refine vp_callSi (W.runV (As := [.int (xs (nI i + (1 : Int32)).toNatClampNeg)]) (rest := [.int r]) ⟨hx, hb, hml, hown, hts⟩ (k_X5_peek l dC dI N_x N_da N_ma N_ha N_ho N_ti N_be N_te N_ch J_da J_ma J_ha J_ho J_ti J_be J_te J_ch n_da n_ma n_ha n_ho n_ti n_be n_te n_ch n_up n_fu n_tm n_tc (xs (nI i + (1 : Int32)).toNatClampNeg) _ e5) (cwV 1 hts gL_law_X5_peek rfl rfl rfl (by decide +kernel) ⟨Nat.le_of_ble_eq_true rfl, Nat.le_of_ble_eq_true rfl⟩) ⟨w_blR, va_recv hK hP (ci := 3) (q0 := 8) rfl rfl, fun U hU hW => ⟨rfl, by rw [hU]; exact hP.sub [8, 9, 10, 11, 12, 13, 14, 15, 16] rfl, va_K.moved hW.alike (hK.sub [4, 5, 6, 7, 8, 9, 10, 11] rfl)⟩⟩ rfl rfl hl.1 rfl (lv_room (Nat.le_of_ble_eq_true rfl)) dL_law_628 ⟨Nat.le_of_ble_eq_true rfl, Nat.le_of_ble_eq_true rfl⟩) (fun _ ey => ?_)
  subst ey
  refine lv_icmp_eq (tgt := 636) hx hb dL_law_631 (by decide) (fun _ => ?_) (fun cx => absurd rfl cx)
  exact K b_ha b_da b_ma b_ja b_up b_fu n_da n_ma n_ha n_ho n_ti n_be n_te n_ch n_up n_fu n_tm n_tc R2 _ _ hP hD hS _ hl
set_option maxHeartbeats 4000000 in
set_option maxRecDepth 100000 in
theorem law_loop {p : Program} {l : Launch} {e : Env} {s : State} {m : MethodId} {below : List Frame} {meth : Method} {c : Code} {dC : Nat → ClassId} {dI : Nat → Nat → Nat} {b L : Nat} {xs : Nat → Int32} (hL : L ≤ 256) (C0 : lw_At p s m meth c b L xs) {A_x A_d A_mh A_jh A_ha A_da A_ma A_ja N_x N_da N_ma N_ha N_ho N_ti N_be N_te N_ch : Nat} {K_ha K_da K_ma K_ja J_da J_ma J_ha J_ho J_ti J_be J_te J_ch : ClassId} (hK : va_K (dC, dI) vwCl ((tB K_ha K_da K_ma K_ja) ++ (tM J_da J_ma J_ha J_ho J_ti J_be J_te J_ch)) s) :
    ∀ (n i : Nat), i ≤ L + 4 → L + 4 ≤ i + n → ∀ (u_ha : Nat → Int32) (u_da : Nat → Int32) (u_ma : Nat → Int32) (u_ja : Nat → Int32) (u_up : Int32) (u_fu : Int32) (v_da : Nat → Int32) (v_ma : Nat → Int32) (v_ha : Nat → Int32) (v_ho : Nat → Int32) (v_ti : Nat → Int32) (v_be : Nat → Int32) (v_te : Nat → Int32) (v_ch : Nat → Int32) (v_up : Int32) (v_fu : Int32) (v_tm : Int32) (v_tc : Int32), Rel u_ha u_da u_ma u_up u_fu v_da v_ma v_ha v_up v_fu → ∀ (H : Heap) (locs : List Loc), va_P (dC, dI) vwCl ((wB A_x A_d A_mh A_jh A_ha A_da A_ma A_ja K_ha K_da K_ma K_ja u_ha u_da u_ma u_ja u_up u_fu) ++ (wM N_x N_da N_ma N_ha N_ho N_ti N_be N_te N_ch J_da J_ma J_ha J_ho J_ti J_be J_te J_ch v_da v_ma v_ha v_ho v_ti v_be v_te v_ch v_up v_fu v_tm v_tc)) H → va_D (fun q : Nat => s.heap.size ≤ q) ((wB A_x A_d A_mh A_jh A_ha A_da A_ma A_ja K_ha K_da K_ma K_ja u_ha u_da u_ma u_ja u_up u_fu) ++ (wM N_x N_da N_ma N_ha N_ho N_ti N_be N_te N_ch J_da J_ma J_ha J_ho J_ti J_be J_te J_ch v_da v_ma v_ha v_ho v_ti v_be v_te v_ch v_up v_fu v_tm v_tc)) → va_S (fun q : Nat => s.heap.size ≤ q) s.heap H locs → ∀ (ls : Array Slot), lv_has ls 4 [(0, .ref b), (1, .ref A_x), (2, .ref N_x), (3, .int (nI i))] → W p l e room_1 s m #[Value.ref b] below meth c H locs 17 1343 (lw_Z below #[Value.ref b] s) (F0 m 18 ls []) := by
  obtain ⟨hx, hb, hr, hml, hown, hts0, hX, hbl, hlocks, hgv⟩ := id C0
  have hA : ∀ q : Nat, s.heap.size ≤ q → (fun q : Nat => s.heap.size ≤ q) q := fun _ h => h
  have hbA : ¬ (fun q : Nat => s.heap.size ≤ q) b := Nat.not_le.mpr hbl
  intro n
  induction n with
  | zero => intro i h1 h2; exact fun u_ha u_da u_ma u_ja u_up u_fu v_da v_ma v_ha v_ho v_ti v_be v_te v_ch v_up v_fu v_tm v_tc R H locs hP hD hS ls hl => law_end hL C0 (by omega) (by omega) hS hl
  | succ n ih =>
    intro i h1 h2 u_ha u_da u_ma u_ja u_up u_fu v_da v_ma v_ha v_ho v_ti v_be v_te v_ch v_up v_fu v_tm v_tc R H locs hP hD hS ls hl
    by_cases hi : i + 4 ≤ L
    · refine law_sw hL C0 hi hS hl ?_
      have K : ∀ (u_ha : Nat → Int32) (u_da : Nat → Int32) (u_ma : Nat → Int32) (u_ja : Nat → Int32) (u_up : Int32) (u_fu : Int32) (v_da : Nat → Int32) (v_ma : Nat → Int32) (v_ha : Nat → Int32) (v_ho : Nat → Int32) (v_ti : Nat → Int32) (v_be : Nat → Int32) (v_te : Nat → Int32) (v_ch : Nat → Int32) (v_up : Int32) (v_fu : Int32) (v_tm : Int32) (v_tc : Int32), Rel u_ha u_da u_ma u_up u_fu v_da v_ma v_ha v_up v_fu → ∀ (H : Heap) (locs : List Loc), va_P (dC, dI) vwCl ((wB A_x A_d A_mh A_jh A_ha A_da A_ma A_ja K_ha K_da K_ma K_ja u_ha u_da u_ma u_ja u_up u_fu) ++ (wM N_x N_da N_ma N_ha N_ho N_ti N_be N_te N_ch J_da J_ma J_ha J_ho J_ti J_be J_te J_ch v_da v_ma v_ha v_ho v_ti v_be v_te v_ch v_up v_fu v_tm v_tc)) H → va_D (fun q : Nat => s.heap.size ≤ q) ((wB A_x A_d A_mh A_jh A_ha A_da A_ma A_ja K_ha K_da K_ma K_ja u_ha u_da u_ma u_ja u_up u_fu) ++ (wM N_x N_da N_ma N_ha N_ho N_ti N_be N_te N_ch J_da J_ma J_ha J_ho J_ti J_be J_te J_ch v_da v_ma v_ha v_ho v_ti v_be v_te v_ch v_up v_fu v_tm v_tc)) → va_S (fun q : Nat => s.heap.size ≤ q) s.heap H locs → ∀ (ls : Array Slot), lv_has ls 4 [(0, .ref b), (1, .ref A_x), (2, .ref N_x), (3, .int (nI i))] → W p l e room_1 s m #[Value.ref b] below meth c H locs 17 1343 (lw_Z below #[Value.ref b] s) (F0 m 636 ls []) := by
        intro u_ha u_da u_ma u_ja u_up u_fu v_da v_ma v_ha v_ho v_ti v_be v_te v_ch v_up v_fu v_tm v_tc R H locs hP hD hS ls hl
        refine lv_iinc (v := nI (i + 4)) (lv' := [(3, .int (nI (i + 4))), (0, .ref b), (1, .ref A_x), (2, .ref N_x)]) hx hb dL_law_636 hl (k := 3) rfl (nI_add i 4) (by decide) rfl (fun ls hl => ?_)
        refine lv_goto (tgt := 18) hx hb dL_law_639 (by decide) ?_
        exact ih (i + 4) (by omega) (by omega) u_ha u_da u_ma u_ja u_up u_fu v_da v_ma v_ha v_ho v_ti v_be v_te v_ch v_up v_fu v_tm v_tc R H locs hP hD hS ls (lv_sub hl [1, 2, 3, 0] rfl)
      obtain ⟨j, hj, ej⟩ := pk_andE (xs (nI i).toNatClampNeg) (m := 31) 5 (by decide)
      rw [ej]
      have hj : j < 32 := hj
      rcases (show j = 0 ∨ j = 1 ∨ j = 2 ∨ j = 3 ∨ j = 4 ∨ j = 5 ∨ j = 6 ∨ j = 7 ∨ j = 8 ∨ j = 9 ∨ j = 10 ∨ j = 11 ∨ j = 12 ∨ j = 13 ∨ j = 14 ∨ j = 15 ∨ j = 16 ∨ j = 17 ∨ j = 18 ∨ j = 19 ∨ 20 ≤ j by omega) with hk | hk | hk | hk | hk | hk | hk | hk | hk | hk | hk | hk | hk | hk | hk | hk | hk | hk | hk | hk | hk
      · subst hk
        refine lv_tableIn (off := 96) (tgt := 128) hx hb dL_law_32 (by decide) (by decide) (by decide) (by decide) ?_
        exact law_c0 hL C0 hi R H locs hK hP hD hS ls hl K
      · subst hk
        refine lv_tableIn (off := 107) (tgt := 139) hx hb dL_law_32 (by decide) (by decide) (by decide) (by decide) ?_
        exact law_c1 hL C0 hi R H locs hK hP hD hS ls hl K
      · subst hk
        refine lv_tableIn (off := 140) (tgt := 172) hx hb dL_law_32 (by decide) (by decide) (by decide) (by decide) ?_
        exact law_c2 hL C0 hi R H locs hK hP hD hS ls hl K
      · subst hk
        refine lv_tableIn (off := 163) (tgt := 195) hx hb dL_law_32 (by decide) (by decide) (by decide) (by decide) ?_
        exact law_c3 hL C0 hi R H locs hK hP hD hS ls hl K
      · subst hk
        refine lv_tableIn (off := 186) (tgt := 218) hx hb dL_law_32 (by decide) (by decide) (by decide) (by decide) ?_
        exact law_c4 hL C0 hi R H locs hK hP hD hS ls hl K
      · subst hk
        refine lv_tableIn (off := 209) (tgt := 241) hx hb dL_law_32 (by decide) (by decide) (by decide) (by decide) ?_
        exact law_c5 hL C0 hi R H locs hK hP hD hS ls hl K
      · subst hk
        refine lv_tableIn (off := 252) (tgt := 284) hx hb dL_law_32 (by decide) (by decide) (by decide) (by decide) ?_
        exact law_c6 hL C0 hi R H locs hK hP hD hS ls hl K
      · subst hk
        refine lv_tableIn (off := 285) (tgt := 317) hx hb dL_law_32 (by decide) (by decide) (by decide) (by decide) ?_
        exact law_c7 hL C0 hi R H locs hK hP hD hS ls hl K
      · subst hk
        refine lv_tableIn (off := 318) (tgt := 350) hx hb dL_law_32 (by decide) (by decide) (by decide) (by decide) ?_
        exact law_c8 hL C0 hi R H locs hK hP hD hS ls hl K
      · subst hk
        refine lv_tableIn (off := 341) (tgt := 373) hx hb dL_law_32 (by decide) (by decide) (by decide) (by decide) ?_
        exact law_c9 hL C0 hi R H locs hK hP hD hS ls hl K
      · subst hk
        refine lv_tableIn (off := 374) (tgt := 406) hx hb dL_law_32 (by decide) (by decide) (by decide) (by decide) ?_
        exact law_c10 hL C0 hi R H locs hK hP hD hS ls hl K
      · subst hk
        refine lv_tableIn (off := 407) (tgt := 439) hx hb dL_law_32 (by decide) (by decide) (by decide) (by decide) ?_
        exact law_c11 hL C0 hi R H locs hK hP hD hS ls hl K
      · subst hk
        refine lv_tableIn (off := 440) (tgt := 472) hx hb dL_law_32 (by decide) (by decide) (by decide) (by decide) ?_
        exact law_c12 hL C0 hi R H locs hK hP hD hS ls hl K
      · subst hk
        refine lv_tableIn (off := 463) (tgt := 495) hx hb dL_law_32 (by decide) (by decide) (by decide) (by decide) ?_
        exact law_c13 hL C0 hi R H locs hK hP hD hS ls hl K
      · subst hk
        refine lv_tableIn (off := 486) (tgt := 518) hx hb dL_law_32 (by decide) (by decide) (by decide) (by decide) ?_
        exact law_c14 hL C0 hi R H locs hK hP hD hS ls hl K
      · subst hk
        refine lv_tableIn (off := 499) (tgt := 531) hx hb dL_law_32 (by decide) (by decide) (by decide) (by decide) ?_
        exact law_c15 hL C0 hi R H locs hK hP hD hS ls hl K
      · subst hk
        refine lv_tableIn (off := 522) (tgt := 554) hx hb dL_law_32 (by decide) (by decide) (by decide) (by decide) ?_
        exact law_c16 hL C0 hi R H locs hK hP hD hS ls hl K
      · subst hk
        refine lv_tableIn (off := 535) (tgt := 567) hx hb dL_law_32 (by decide) (by decide) (by decide) (by decide) ?_
        exact law_c17 hL C0 hi R H locs hK hP hD hS ls hl K
      · subst hk
        refine lv_tableIn (off := 568) (tgt := 600) hx hb dL_law_32 (by decide) (by decide) (by decide) (by decide) ?_
        exact law_c18 hL C0 hi R H locs hK hP hD hS ls hl K
      · subst hk
        refine lv_tableIn (off := 581) (tgt := 613) hx hb dL_law_32 (by decide) (by decide) (by decide) (by decide) ?_
        exact law_c19 hL C0 hi R H locs hK hP hD hS ls hl K
      · refine lv_tableOut (tgt := 636) hx hb dL_law_32 (Or.inr ?_) (by decide) ?_
        · rw [nI_toInt (by omega)]; omega
        · exact K u_ha u_da u_ma u_ja u_up u_fu v_da v_ma v_ha v_ho v_ti v_be v_te v_ch v_up v_fu v_tm v_tc R H locs hP hD hS ls hl
    · exact law_end hL C0 (by omega) hi hS hl
