set_option maxHeartbeats 4000000 in
set_option maxRecDepth 100000 in
theorem w_blX {av : List Value} {D : va_G} {cl : List vw_C} {tys : List (ClassId × FieldType)} {ws : va_W} {A : Nat → Prop} {sz : Nat} {a1 a2 b1 b2 : String} {i1 i2 : Nat} {y1 y2 : MethodName} : FrameBlind (va_Pc av (fun U => U.heap.size = sz ∧ va_P D cl ws U.heap ∧ va_K D cl tys U ∧ va_D A ws ∧ va_Nw (.methodLinkNest a1 i1 y1 b1) U ∧ va_Nw (.methodLinkNest a2 i2 y2 b2) U)) := fun a U g mk q => by
  obtain ⟨q0, q1, qP, qK, qD, q2, q3⟩ := q
  exact ⟨q0, q1, qP, va_K.moved (u := U) (U := U.calling g mk a) (Vm.Alike.refl U.vm) qK, qD, va_Nw.same rfl rfl q2, va_Nw.same rfl rfl q3⟩
theorem hmL_4 : Cond.classLink RL 7 RX4 ∈ lw_tbl := List.mem_of_getElem? (i := 48) (by decide +kernel)
theorem hmL_4i : Cond.instantiable RX4 6 ∈ lw_tbl := List.mem_of_getElem? (i := 49) (by decide +kernel)
theorem hmL_4z : Cond.initialized RX4 ∈ lw_tbl := List.mem_of_getElem? (i := 41) (by decide +kernel)
theorem hmL_4m : Cond.methodLink RL 9 yX4_init ∈ lw_tbl := List.mem_of_getElem? (i := 50) (by decide +kernel)
theorem hmL_4n : Cond.instanceMethod yX4_init ∈ lw_tbl := List.mem_of_getElem? (i := 51) (by decide +kernel)
theorem hmL_5 : Cond.classLink RL 10 RX5 ∈ lw_tbl := List.mem_of_getElem? (i := 446) (by decide +kernel)
theorem hmL_5i : Cond.instantiable RX5 12 ∈ lw_tbl := List.mem_of_getElem? (i := 447) (by decide +kernel)
theorem hmL_5z : Cond.initialized RX5 ∈ lw_tbl := List.mem_of_getElem? (i := 45) (by decide +kernel)
theorem hmL_5m : Cond.methodLink RL 12 yX5_init ∈ lw_tbl := List.mem_of_getElem? (i := 448) (by decide +kernel)
theorem hmL_5n : Cond.instanceMethod yX5_init ∈ lw_tbl := List.mem_of_getElem? (i := 449) (by decide +kernel)
theorem hmL_1i : Cond.instantiable RX1 1 ∈ lw_tbl := List.mem_of_getElem? (i := 57) (by decide +kernel)
theorem hmL_2i : Cond.instantiable RX2 1 ∈ lw_tbl := List.mem_of_getElem? (i := 69) (by decide +kernel)
theorem hmL_n9 : Cond.methodLinkNest RX4 9 yX1_init "BuddyFiles" ∈ lw_tbl := List.mem_of_getElem? (i := 58) (by decide +kernel)
theorem hmL_n18 : Cond.methodLinkNest RX4 18 yX2_init "BuddyFiles" ∈ lw_tbl := List.mem_of_getElem? (i := 70) (by decide +kernel)
set_option maxHeartbeats 4000000 in
set_option maxRecDepth 100000 in
theorem whole_start {p : Program} {e : Env} {s : State} {m : MethodId} {below : List Frame} {meth : Method} {c : Code} (l : Launch) (hflags : l.flags = flags0) {b L : Nat} {xs : Nat → Int32} (hL : L ≤ 256) (C0 : lw_At p s m meth c b L xs) : W p l e room_1 s m #[Value.ref b] below meth c s.heap [] 0 0 (lw_Z below #[Value.ref b] s) (entryFrame m ([Value.ref b] : List Value).toArray 4) := by
  obtain ⟨hx, hb, hr, hml, hown, hts0, hX, hbl, hlocks, hgv⟩ := id C0
  have hts : ∀ w ∈ wsL_law, w.before #[Value.ref b] s = true := fun w h => hts0 w (wsL_law_in w h)
  have hA : ∀ q : Nat, s.heap.size ≤ q → (fun q : Nat => s.heap.size ≤ q) q := fun _ h => h
  have hbA : ¬ (fun q : Nat => s.heap.size ≤ q) b := Nat.not_le.mpr hbl
  obtain ⟨c0, iS0, hKn0⟩ := u_known (C := RX1) (T := TX1) (N := 1) (n := 1) hts0 inX1 (hts0 _ hmL_1i)
  obtain ⟨c1, iS1, hKn1⟩ := u_known (C := RX2) (T := TX2) (N := 1) (n := 1) hts0 inX2 (hts0 _ hmL_2i)
  obtain ⟨c2, iS2, hKn2⟩ := u_known (C := RX4) (T := TX4) (N := 6) (n := 6) hts0 inX4 (hts0 _ hmL_4i)
  obtain ⟨c3, iS3, hKn3⟩ := u_known (C := RX5) (T := TX5) (N := 12) (n := 12) hts0 inX5 (hts0 _ hmL_5i)
  obtain ⟨dC, dI, hKc⟩ : ∃ (dC : Nat → ClassId) (dI : Nat → Nat → Nat), ∀ (k : Nat) (q : vw_C), vwCl[k]? = some q → u_Kn s q.1 q.2.1 q.2.2 (dC k) (dI k) := by
    refine ⟨fun k => if k = 0 then c0 else if k = 1 then c1 else if k = 2 then c2 else c3, fun k => if k = 0 then iS0 else if k = 1 then iS1 else if k = 2 then iS2 else iS3, ?_⟩
    intro k q hq
    match k, hq with
    | 0, hq => cases hq; exact hKn0
    | 1, hq => cases hq; exact hKn1
    | 2, hq => cases hq; exact hKn2
    | 3, hq => cases hq; exact hKn3
    | k + 4, hq => simp [vwCl] at hq
  have hn9 : va_Nw (.methodLinkNest RX4 9 yX1_init "BuddyFiles") s := va_Nw.of rfl (hts0 _ hmL_n9)
  have hn18 : va_Nw (.methodLinkNest RX4 18 yX2_init "BuddyFiles") s := va_Nw.of rfl (hts0 _ hmL_n18)
  have hS : va_S (fun q : Nat => s.heap.size ≤ q) s.heap s.heap [] := va_S.rf
  have hown : s.vm.findClass RL = some m.cls := hown
  have hK : va_K (dC, dI) vwCl [] s := ⟨hKc, fun k q h => by simp at h⟩
  have hP : va_P (dC, dI) vwCl [] s.heap := fun k q h => by simp at h
  have hD : va_D (fun q : Nat => s.heap.size ≤ q) [] := ⟨fun i j p q h => by simp at h, fun k q h => by simp at h⟩
  have hl := lv_entry ([.ref b]) (n := 4) (Nat.le_of_ble_eq_true rfl)
  rw [lg_entry_eq]
  generalize (lg_sl ([.ref b]) ++ List.replicate (4 - (lg_sl ([.ref b])).length) Slot.unset).toArray = ls at hl ⊢
  have hl : lv_has ls 4 [(0, .ref b)] := hl
  obtain ⟨u_ha, u_da, u_ma, u_up, u_fu, v_da, v_ma, v_ha, v_up, v_fu, hm4, hm5, R0⟩ := st_init
  refine va_new (ci := 2) (fs := [.null, .null, .null, .null, .int 0, .int 0]) (C := RX4) (T := TX4) (N := 6) hx hb hts0 inX4 tyX4 tyX4_ok hown (hts0 _ hmL_4) (hts0 _ hmL_4i) (hts0 _ hmL_4z) hK hP hD hS hA rfl (fun j hj => by rcases (show j = 0 ∨ j = 1 ∨ j = 2 ∨ j = 3 ∨ j = 4 ∨ j = 5 by omega) with rfl | rfl | rfl | rfl | rfl | rfl <;> rfl) (Nat.le_of_ble_eq_true rfl) (Nat.le_of_ble_eq_true rfl) dL_law_0 (fun A_x H hP hD hS => ?_)
  have hP : va_P (dC, dI) vwCl [(A_x, .inr (2, [.null, .null, .null, .null, .int 0, .int 0]))] H := hP
  have hD : va_D (fun q : Nat => s.heap.size ≤ q) [(A_x, .inr (2, [.null, .null, .null, .null, .int 0, .int 0]))] := hD
  refine W.widen (k := 1) (n := 6) (by omega) (by omega) ?_
  refine lv_dup hx hb dL_law_3 rfl ?_
  have hFc := va_free (wc := [(A_x, .inr (2, [.null, .null, .null, .null, .int 0, .int 0]))]) hD hS hA [0] rfl
  refine va_callv (va_runI (As := []) (rest := [.ref A_x]) ⟨hx, hb, hml, hown, hts⟩ (k_X4_init l dC dI A_x H.size u_ha u_da u_ma u_up u_fu hm4) (cwI 0 hts gL_law_X4_init rfl rfl rfl (hts0 _ hmL_4z) (hts0 _ hmL_4m) (hts0 _ hmL_4n) rfl (by decide +kernel) ⟨Nat.le_of_ble_eq_true rfl, Nat.le_of_ble_eq_true rfl⟩) ⟨w_blX, fun U hU hW => ⟨rfl, by rw [hU], by rw [hU]; exact hP, va_K.moved hW.alike hK, hD.weaken (fun _ _ _ _ => trivial), va_Nw.warmM hW hn9, va_Nw.warmM hW hn18⟩⟩ rfl rfl hl.1 rfl (lv_room (Nat.le_of_ble_eq_true rfl)) dL_law_4 ⟨Nat.le_of_ble_eq_true rfl, Nat.le_of_ble_eq_true rfl⟩) hS (fun q _ h => hFc q h) hFc (fun _ t H1 locs ht hvm _ hB hz1 hk1 hS => ?_)
  obtain ⟨A_d, A_mh, A_jh, A_ha, A_da, A_ma, A_ja, K_ha, K_da, K_ma, K_ja, hP1, hK1, hD1⟩ := hB
  rw [ht] at hP1
  have hK1 := va_K.moved hvm.symm hK1
  obtain ⟨hP, hD⟩ := va_join (wr := []) (w1 := (wB A_x A_d A_mh A_jh A_ha A_da A_ma A_ja K_ha K_da K_ma K_ja u_ha u_da u_ma (fun _ => (0 : Int32)) u_up u_fu)) hP hD [0] [] rfl rfl (by decide) (by decide) hk1 hFc hP1 hD1
  have hP : va_P (dC, dI) vwCl (wB A_x A_d A_mh A_jh A_ha A_da A_ma A_ja K_ha K_da K_ma K_ja u_ha u_da u_ma (fun _ => (0 : Int32)) u_up u_fu) H1 := hP
  have hD : va_D (fun q : Nat => s.heap.size ≤ q) (wB A_x A_d A_mh A_jh A_ha A_da A_ma A_ja K_ha K_da K_ma K_ja u_ha u_da u_ma (fun _ => (0 : Int32)) u_up u_fu) := hD
  have hK : va_K (dC, dI) vwCl (tB K_ha K_da K_ma K_ja) s := hK1
  refine W.widen (k := 8) (n := 565) (by omega) (by omega) ?_
  refine lv_astore_n (lv' := [(1, .ref A_x), (0, .ref b)]) hx hb dL_law_7 rfl hl (by decide) rfl (fun ls hl => ?_)
  refine va_new (ci := 3) (fs := [.null, .int 0, .int 0, .null, .null, .null, .null, .null, .int 0, .int 0, .null, .null]) (C := RX5) (T := TX5) (N := 12) hx hb hts0 inX5 tyX5 tyX5_ok hown (hts0 _ hmL_5) (hts0 _ hmL_5i) (hts0 _ hmL_5z) hK hP hD hS hA rfl (fun j hj => by rcases (show j = 0 ∨ j = 1 ∨ j = 2 ∨ j = 3 ∨ j = 4 ∨ j = 5 ∨ j = 6 ∨ j = 7 ∨ j = 8 ∨ j = 9 ∨ j = 10 ∨ j = 11 by omega) with rfl | rfl | rfl | rfl | rfl | rfl | rfl | rfl | rfl | rfl | rfl | rfl <;> rfl) (Nat.le_of_ble_eq_true rfl) (Nat.le_of_ble_eq_true rfl) dL_law_8 (fun N_x H2 hP hD hS => ?_)
  have hP : va_P (dC, dI) vwCl ((wB A_x A_d A_mh A_jh A_ha A_da A_ma A_ja K_ha K_da K_ma K_ja u_ha u_da u_ma (fun _ => (0 : Int32)) u_up u_fu) ++ [(N_x, .inr (3, [.null, .int 0, .int 0, .null, .null, .null, .null, .null, .int 0, .int 0, .null, .null]))]) H2 := hP
  have hD : va_D (fun q : Nat => s.heap.size ≤ q) ((wB A_x A_d A_mh A_jh A_ha A_da A_ma A_ja K_ha K_da K_ma K_ja u_ha u_da u_ma (fun _ => (0 : Int32)) u_up u_fu) ++ [(N_x, .inr (3, [.null, .int 0, .int 0, .null, .null, .null, .null, .null, .int 0, .int 0, .null, .null]))]) := hD
  refine W.widen (k := 9) (n := 577) (by omega) (by omega) ?_
  refine lv_dup hx hb dL_law_11 rfl ?_
  have hPc := hP.sub (ws' := [(N_x, .inr (3, [.null, .int 0, .int 0, .null, .null, .null, .null, .null, .int 0, .int 0, .null, .null]))]) [8] rfl
  have hDc := hD.sub (ws' := [(N_x, .inr (3, [.null, .int 0, .int 0, .null, .null, .null, .null, .null, .int 0, .int 0, .null, .null]))]) [8] (by decide) rfl
  have hKc := hK.sub (tys' := []) [] rfl
  have hFc := va_free (wc := [(N_x, .inr (3, [.null, .int 0, .int 0, .null, .null, .null, .null, .null, .int 0, .int 0, .null, .null]))]) hD hS hA [8] rfl
  refine va_callv (va_runI (As := []) (rest := [.ref N_x]) ⟨hx, hb, hml, hown, hts⟩ (k_X5_init l dC dI N_x H2.size v_da v_ma v_ha v_up v_fu hm5) (cwI 0 hts gL_law_X5_init rfl rfl rfl (hts0 _ hmL_5z) (hts0 _ hmL_5m) (hts0 _ hmL_5n) rfl (by decide +kernel) ⟨Nat.le_of_ble_eq_true rfl, Nat.le_of_ble_eq_true rfl⟩) ⟨w_blW, fun U hU hW => ⟨rfl, by rw [hU], by rw [hU]; exact hPc, va_K.moved hW.alike hKc, hDc.weaken (fun _ _ _ _ => trivial)⟩⟩ rfl rfl hl.1 rfl (lv_room (Nat.le_of_ble_eq_true rfl)) dL_law_12 ⟨Nat.le_of_ble_eq_true rfl, Nat.le_of_ble_eq_true rfl⟩) hS (fun q _ h => hFc q h) hFc (fun _ t H3 locs3 ht hvm _ hB hz1 hk1 hS => ?_)
  obtain ⟨N_da, N_ma, N_ha, N_ho, N_ti, N_be, N_te, N_ch, J_da, J_ma, J_ha, J_ho, J_ti, J_be, J_te, J_ch, hP1, hK1, hD1⟩ := hB
  rw [ht] at hP1
  have hK1 := va_K.moved hvm.symm hK1
  obtain ⟨hP, hD⟩ := va_join (wr := (wB A_x A_d A_mh A_jh A_ha A_da A_ma A_ja K_ha K_da K_ma K_ja u_ha u_da u_ma (fun _ => (0 : Int32)) u_up u_fu)) (w1 := (wM N_x N_da N_ma N_ha N_ho N_ti N_be N_te N_ch J_da J_ma J_ha J_ho J_ti J_be J_te J_ch v_da v_ma v_ha (fun _ => (0 : Int32)) (fun _ => (0 : Int32)) (fun _ => (0 : Int32)) (fun _ => (0 : Int32)) (fun _ => (0 : Int32)) v_up v_fu 0 0)) hP hD [8] [0, 1, 2, 3, 4, 5, 6, 7] rfl rfl (by decide) (by decide) hk1 hFc hP1 hD1
  have hK : va_K (dC, dI) vwCl ((tB K_ha K_da K_ma K_ja) ++ (tM J_da J_ma J_ha J_ho J_ti J_be J_te J_ch)) s := hK.app hK1
  refine W.widen (k := 17) (n := 1343) (by omega) (by omega) ?_
  refine lv_astore_n (lv' := [(2, .ref N_x), (1, .ref A_x), (0, .ref b)]) hx hb dL_law_15 rfl hl (by decide) rfl (fun ls hl => ?_)
  refine lv_iconst (v := 0) hx hb dL_law_16 (by decide) ?_
  refine lv_istore_n (lv' := [(3, .int 0), (2, .ref N_x), (1, .ref A_x), (0, .ref b)]) hx hb dL_law_17 rfl hl (by decide) rfl (fun ls hl => ?_)
  exact law_loop hL C0 hK (L + 4) 0 (by omega) (by omega) u_ha u_da u_ma (fun _ => (0 : Int32)) u_up u_fu v_da v_ma v_ha (fun _ => (0 : Int32)) (fun _ => (0 : Int32)) (fun _ => (0 : Int32)) (fun _ => (0 : Int32)) (fun _ => (0 : Int32)) v_up v_fu 0 0 R0 H3 locs3 hP hD hS ls (lv_sub hl [3, 2, 1, 0] rfl)
