/-! the two systems side by side: every call answers alike, and they stay alike -/
def Rel (ha da ma : Nat → Int32) (up fu : Int32) (da' ma' ha' : Nat → Int32) (up' fu' : Int32) : Prop := da' = da ∧ ma' = ma ∧ ((up = 0 ∧ up' = 0 ∧ fu' = -1 ∧ ∀ h, h < 4 → ha' h = 0) ∨ (up = 1 ∧ up' = 1 ∧ fu' = fu ∧ Cl ma ∧ HR ha ma ha'))
theorem st_format {b_ha b_da b_ma : Nat → Int32} {b_up b_fu : Int32} {n_da n_ma n_ha : Nat → Int32} {n_up n_fu : Int32} (R : Rel b_ha b_da b_ma b_up b_fu n_da n_ma n_ha n_up n_fu) : ∃ (u_ha : Nat → Int32) (u_da : Nat → Int32) (u_ma : Nat → Int32) (u_up : Int32) (u_fu : Int32) (v_da : Nat → Int32) (v_ma : Nat → Int32) (v_ha : Nat → Int32) (v_up : Int32) (v_fu : Int32), m_X4_format b_ha b_da b_ma b_up b_fu = some (u_ha, u_da, u_ma, u_up, u_fu) ∧ m_X5_format n_da n_ma n_ha n_up n_fu = some (v_da, v_ma, v_ha, v_up, v_fu) ∧ Rel u_ha u_da u_ma u_up u_fu v_da v_ma v_ha v_up v_fu := by
  obtain ⟨e1, e2, -⟩ := R
  subst e1 e2
  obtain ⟨u_ha, v_ha, d2, m2, x1, x2, x3, x4⟩ := s_fresh b_ha n_da n_ma n_ha b_up b_fu n_up n_fu
  unfold m_X4_format
  rw [x1, x2, q_k5]
  exact ⟨_, _, _, _, _, _, _, _, _, _, rfl, rfl, rfl, rfl, Or.inr ⟨rfl, rfl, rfl, x4, fun h hh => Or.inl (x3 h hh)⟩⟩
theorem st_create {b_ha b_da b_ma : Nat → Int32} {b_up b_fu : Int32} {n_da n_ma n_ha : Nat → Int32} {n_up n_fu : Int32} (R : Rel b_ha b_da b_ma b_up b_fu n_da n_ma n_ha n_up n_fu) (p1 p2 : Int32) : ∃ (r : Int32) (u_ma : Nat → Int32) (v_ma : Nat → Int32), m_X4_create b_ma b_up p1 p2 = some (r, u_ma) ∧ m_X5_create n_ma n_up p1 p2 = some (r, v_ma) ∧ Rel b_ha b_da u_ma b_up b_fu n_da v_ma n_ha n_up n_fu := by
  obtain ⟨e1, e2, R0⟩ := id R
  subst e1 e2
  unfold m_X4_create m_X5_create
  rcases R0 with ⟨u1, u2, u3, u4⟩ | ⟨u1, u2, u3, hC, hH⟩
  · subst u1 u2
    rw [if_pos rfl, if_pos rfl]
    exact ⟨_, _, _, rfl, rfl, R⟩
  · subst u1 u2
    rw [if_neg u01, if_neg u01, e_isName]
    rcases w_rng p1 1 99 (by omega) (by omega) with ⟨-, w⟩ | ⟨n, n1, n2, rfl, w⟩
    · have w' : m_X5_within p1 (1 : Int32) (99 : Int32) = some 0 := w
      rw [w, w']
      exact ⟨_, _, _, rfl, rfl, R⟩
    · have w' : m_X5_within (nI n) (1 : Int32) (99 : Int32) = some 1 := w
      rw [w, w', Option.bind_some, Option.bind_some, if_neg u01, if_neg u01, e_isOwner]
      rcases w_rng p2 0 2 (by omega) (by omega) with ⟨-, v⟩ | ⟨o, -, o2, rfl, v⟩
      · have v' : m_X5_within p2 (0 : Int32) (2 : Int32) = some 0 := v
        rw [v, v']
        exact ⟨_, _, _, rfl, rfl, R⟩
      · have v' : m_X5_within (nI o) (0 : Int32) (2 : Int32) = some 1 := v
        rw [v, v', Option.bind_some, Option.bind_some, if_neg u01, if_neg u01]
        obtain ⟨N, O, L, Rr, Q, E, h⟩ := id hC
        rcases s_slotOf h (nI n) with ⟨⟨z1, z2⟩, z3⟩ | ⟨s, s1, s2, s3, z1, z2⟩
        · rw [z1, z2, Option.bind_some, Option.bind_some, if_pos rfl, if_pos (by decide : (-1 : Int32) < 0)]
          rcases s_empty h (nI n) (nI o) with ⟨y1, y2⟩ | ⟨s, s1, s2, y1, y2⟩
          · rw [y1, y2]
            exact ⟨_, _, _, rfl, rfl, R⟩
          · rw [y1, y2, Option.bind_some, q_sl, if_neg (nI_nm (by omega)), s_makeFile s1, Option.bind_some]
            refine ⟨_, _, _, rfl, rfl, rfl, rfl, Or.inr ⟨rfl, rfl, u3, ⟨_, _, _, _, _, _, h.create s1 s2 n1 n2 o2 (fun t ht z => ?_)⟩, hH.mem (fun t ht _ q => ?_)⟩⟩
            · exact z3 t ht (nI_ne0 (by omega) (by omega)) (by rw [(h.nm ht).1, z])
            · by_cases c : t = s
              · subst c
                rw [q_un (by omega), q_ul]
                exact nI_ne0 (by omega) (by omega)
              · rw [q_un (by omega), q_un (by omega)]; exact q
        · rw [z1, z2, Option.bind_some, Option.bind_some, if_neg (nI_nm (by omega)), if_neg (q_neg (by omega))]
          exact ⟨_, _, _, rfl, rfl, R⟩
theorem st_unlink {b_ha b_da b_ma : Nat → Int32} {b_up b_fu : Int32} {n_da n_ma n_ha : Nat → Int32} {n_up n_fu : Int32} (R : Rel b_ha b_da b_ma b_up b_fu n_da n_ma n_ha n_up n_fu) (p1 : Int32) : ∃ (r : Int32) (u_ma : Nat → Int32) (v_ma : Nat → Int32), m_X4_unlink b_ha b_ma b_up p1 = some (r, u_ma) ∧ m_X5_unlink n_ma n_ha n_up p1 = some (r, v_ma) ∧ Rel b_ha b_da u_ma b_up b_fu n_da v_ma n_ha n_up n_fu := by
  obtain ⟨e1, e2, R0⟩ := id R
  subst e1 e2
  unfold m_X4_unlink m_X5_unlink
  rcases R0 with ⟨u1, u2, u3, u4⟩ | ⟨u1, u2, u3, hC, hH⟩
  · subst u1 u2
    rw [if_pos rfl, if_pos rfl]
    exact ⟨_, _, _, rfl, rfl, R⟩
  · subst u1 u2
    rw [if_neg u01, if_neg u01]
    obtain ⟨N, O, L, Rr, Q, E, h⟩ := id hC
    rcases s_slotOf h p1 with ⟨⟨z1, z2⟩, -⟩ | ⟨s, s1, s2, s3, z1, z2⟩
    · rw [z1, z2, Option.bind_some, Option.bind_some, if_pos rfl, if_neg (by decide : ¬ (0 : Int32) ≤ -1)]
      exact ⟨_, _, _, rfl, rfl, R⟩
    · rw [z1, z2, Option.bind_some, Option.bind_some, if_neg (nI_nm (by omega)), if_pos (nI_pos' (by omega))]
      obtain ⟨v, y1, y2, y3⟩ := s_use hH s1
      rw [y1, y2, Option.bind_some, Option.bind_some, i_bi, i_bi]
      cases v with
      | true => exact ⟨_, _, _, rfl, rfl, R⟩
      | false =>
        obtain ⟨f', x1, x2, x3, x4⟩ := h.dropped s1
        rw [if_neg Bool.false_ne_true, if_neg Bool.false_ne_true, x1, x2]
        refine ⟨_, _, _, rfl, rfl, rfl, rfl, Or.inr ⟨rfl, rfl, u3, ⟨_, _, _, _, _, _, x3⟩, hH.mem (fun t ht k q => ?_)⟩⟩
        obtain ⟨k, k1, k2⟩ := k
        rw [x4 t ht (fun c => y3 rfl k k1 (by rw [k2, c]))]
        exact q
theorem st_open {b_ha b_da b_ma : Nat → Int32} {b_up b_fu : Int32} {n_da n_ma n_ha : Nat → Int32} {n_up n_fu : Int32} (R : Rel b_ha b_da b_ma b_up b_fu n_da n_ma n_ha n_up n_fu) (p1 : Int32) : ∃ (r : Int32) (u_ha : Nat → Int32) (v_ha : Nat → Int32), m_X4_open b_ha b_ma b_up p1 = some (r, u_ha) ∧ m_X5_open n_ma n_ha n_up p1 = some (r, v_ha) ∧ Rel u_ha b_da b_ma b_up b_fu n_da n_ma v_ha n_up n_fu := by
  obtain ⟨e1, e2, R0⟩ := id R
  subst e1 e2
  unfold m_X4_open m_X5_open
  rcases R0 with ⟨u1, u2, u3, u4⟩ | ⟨u1, u2, u3, hC, hH⟩
  · subst u1 u2
    rw [if_pos rfl, if_pos rfl]
    exact ⟨_, _, _, rfl, rfl, R⟩
  · subst u1 u2
    rw [if_neg u01, if_neg u01]
    obtain ⟨N, O, L, Rr, Q, E, h⟩ := id hC
    rcases s_slotOf h p1 with ⟨⟨z1, z2⟩, -⟩ | ⟨s, s1, s2, s3, z1, z2⟩
    · rw [z1, z2, Option.bind_some, Option.bind_some, if_pos rfl, if_neg (by decide : ¬ (0 : Int32) ≤ -1)]
      exact ⟨_, _, _, rfl, rfl, R⟩
    · rw [z1, z2, Option.bind_some, Option.bind_some, if_neg (nI_nm (by omega)), if_pos (nI_pos' (by omega))]
      rcases s_closed hH (nI s) with ⟨y1, y2⟩ | ⟨k, k1, y1, y2⟩
      · rw [y1, y2, Option.bind_some, if_pos rfl]
        exact ⟨_, _, _, rfl, rfl, R⟩
      · rw [y1, y2, Option.bind_some, if_neg (nI_nm (by omega)), q_ast k1 (by omega), Option.bind_some, q_sl]
        refine ⟨_, _, _, rfl, rfl, rfl, rfl, Or.inr ⟨rfl, rfl, u3, hC, fun j hj => ?_⟩⟩
        by_cases c : j = k
        · subst c
          exact Or.inr ⟨s, s1, q_ul, q_ul.trans (nI_1 s), (h.nz s1).mpr s2⟩
        · rw [q_un c, q_un c]; exact hH j hj
theorem st_close {b_ha b_da b_ma : Nat → Int32} {b_up b_fu : Int32} {n_da n_ma n_ha : Nat → Int32} {n_up n_fu : Int32} (R : Rel b_ha b_da b_ma b_up b_fu n_da n_ma n_ha n_up n_fu) (p1 : Int32) : ∃ (r : Int32) (u_ha : Nat → Int32) (v_ha : Nat → Int32), m_X4_close b_ha b_up p1 = some (r, u_ha) ∧ m_X5_close n_ha n_up p1 = some (r, v_ha) ∧ Rel u_ha b_da b_ma b_up b_fu n_da n_ma v_ha n_up n_fu := by
  obtain ⟨e1, e2, R0⟩ := id R
  subst e1 e2
  unfold m_X4_close m_X5_close
  rcases R0 with ⟨u1, u2, u3, u4⟩ | ⟨u1, u2, u3, hC, hH⟩
  · subst u1 u2
    rw [if_pos rfl, show m_X5_slotAt n_ha 0 p1 = some (-11) from rfl, Option.bind_some, if_neg (by decide : ¬ (0 : Int32) ≤ -11)]
    exact ⟨_, _, _, rfl, rfl, R⟩
  · subst u1 u2
    rw [if_neg u01]
    rcases s_handle hH p1 with ⟨z1, z2⟩ | ⟨k, s, k1, s1, rfl, z1, z2, z3, z4⟩
    · rw [z1, z2, Option.bind_some, Option.bind_some, if_pos rfl, if_neg (by decide : ¬ (0 : Int32) ≤ -6)]
      exact ⟨_, _, _, rfl, rfl, R⟩
    · rw [z1, z3, Option.bind_some, Option.bind_some, if_neg u01, if_pos (nI_pos' (by omega)), q_ast k1 (by omega), Option.bind_some, q_ast k1 (by omega), Option.bind_some]
      refine ⟨_, _, _, rfl, rfl, rfl, rfl, Or.inr ⟨rfl, rfl, u3, hC, fun j hj => ?_⟩⟩
      by_cases c : j = k
      · subst c
        exact Or.inl ⟨q_ul, q_ul⟩
      · rw [q_un c, q_un c]; exact hH j hj
theorem st_write {b_ha b_da b_ma : Nat → Int32} {b_up b_fu : Int32} {n_da n_ma n_ha n_te : Nat → Int32} {n_up n_fu n_tm n_tc : Int32} (R : Rel b_ha b_da b_ma b_up b_fu n_da n_ma n_ha n_up n_fu) (p1 p2 p3 : Int32) : ∃ (r : Int32) (u_ma : Nat → Int32) (v_ma : Nat → Int32) (v_te : Nat → Int32) (v_tm : Int32) (v_tc : Int32), m_X4_write b_ha b_ma b_up p1 p2 p3 = some (r, u_ma) ∧ m_X5_write n_ma n_ha n_te n_up n_tm n_tc p1 p2 p3 = some (r, v_ma, v_te, v_tm, v_tc) ∧ Rel b_ha b_da u_ma b_up b_fu n_da v_ma n_ha n_up n_fu := by
  obtain ⟨e1, e2, R0⟩ := id R
  subst e1 e2
  unfold m_X4_write m_X5_write
  rcases R0 with ⟨u1, u2, u3, u4⟩ | ⟨u1, u2, u3, hC, hH⟩
  · subst u1 u2
    rw [if_pos rfl, show m_X5_slotAt n_ha 0 p1 = some (-11) from rfl, Option.bind_some, if_neg (by decide : ¬ (0 : Int32) ≤ -11)]
    exact ⟨_, _, _, _, _, _, rfl, rfl, R⟩
  · subst u1 u2
    rw [if_neg u01]
    rcases s_handle hH p1 with ⟨z1, z2⟩ | ⟨k, s, k1, s1, rfl, z1, z2, z3, z4⟩
    · rw [z1, z2, Option.bind_some, Option.bind_some, if_pos rfl, if_neg (by decide : ¬ (0 : Int32) ≤ -6)]
      exact ⟨_, _, _, _, _, _, rfl, rfl, R⟩
    · rw [z1, z3, Option.bind_some, Option.bind_some, if_neg u01, if_pos (nI_pos' (by omega))]
      obtain ⟨N, O, L, Rr, Q, E, h⟩ := id hC
      have hN := (h.nz s1).mp z4
      have hL := (h.1 s s1).1.2.2.1
      have hL2 := (h.1 s s1).2.1.2.2.1
      have aL : g_ald 110 n_ma (((7 : Int32) * nI s) + (2 : Int32)) = some (nI (L s)) := by
        rw [show (7 : Int32) * nI s = nI (7 * s) from pk_mul 7 s, show nI (7 * s) + (2 : Int32) = nI (7 * s + 2) from nI_add _ 2, q_ald (by omega) (by omega), hL]
      rcases w_rng p2 0 63 (by omega) (by omega) with ⟨c, w⟩ | ⟨p, -, p1', rfl, w⟩
      · have w' : m_X5_within p2 (0 : Int32) (63 : Int32) = some 0 := w
        rw [w', Option.bind_some, if_pos rfl]
        by_cases c1 : p2 < (0 : Int32)
        · rw [if_pos c1]
          exact ⟨_, _, _, _, _, _, rfl, rfl, R⟩
        · have c2 : ¬ p2 < (64 : Int32) := by
            have c2 := c.resolve_left c1
            rw [fa_lt, nI_toInt (by omega)] at c2
            rw [fa_lt]
            have h1 : (64 : Int32).toInt = 64 := by decide
            omega
          rw [if_neg c1, if_neg c2]
          exact ⟨_, _, _, _, _, _, rfl, rfl, R⟩
      · have w' : m_X5_within (nI p) (0 : Int32) (63 : Int32) = some 1 := w
        rw [w', Option.bind_some, if_neg u01, if_neg (show ¬ nI p < (0 : Int32) from q_neg (by omega)), if_pos (show nI p < (64 : Int32) from nI_lt (b := 64) (by omega) (by omega)), z2, Option.bind_some, s_lengthOf s1, Option.bind_some, hL, aL, Option.bind_some]
        by_cases c : p < L s
        · rw [i_lt c (by omega), i_lt c (by omega)]
          obtain ⟨x, x1, x2, x3, x4, x5⟩ := h.wd s1 c
          rw [x5 p3, x4, Option.bind_some, Option.bind_some, q_ast (by omega) (by omega), Option.bind_some]
          exact ⟨_, _, _, _, _, _, rfl, rfl, rfl, rfl, Or.inr ⟨rfl, rfl, u3, ⟨_, _, _, _, _, _, h.word s1 c x1⟩, hH.mem (fun t ht _ q => by rw [q_un (by omega)]; exact q)⟩⟩
        · rw [i_nlt (by omega) (by omega), i_nlt (by omega) (by omega), show nI p + (1 : Int32) = nI (p + 1) from nI_1 p]
          obtain ⟨cc, f', te', tm', tc', g1, g2, g3⟩ := h.grown s1 hN (len := p + 1) (by omega) (by omega) n_te n_tm n_tc
          rw [g1, g2, q_k2, q_k5]
          rcases g3 with ⟨g3, g4, g5⟩ | ⟨g3, L', R', E', g5, g6⟩
          · subst g5
            rw [if_neg g3, if_neg g4]
            exact ⟨_, _, _, _, _, _, rfl, rfl, R⟩
          · subst g3
            obtain ⟨x, x1, x2, x3, x4, x5⟩ := g6.wd s1 (p := p) (by omega)
            rw [if_pos rfl, if_pos (by decide : (0 : Int32) ≤ 0), x5 p3, x4, Option.bind_some, Option.bind_some, q_ast (by omega) (by omega), Option.bind_some]
            exact ⟨_, _, _, _, _, _, rfl, rfl, rfl, rfl, Or.inr ⟨rfl, rfl, u3, ⟨_, _, _, _, _, _, g6.word s1 (by omega) x1⟩, hH.mem (fun t ht _ q => by rw [q_un (by omega)]; exact (g6.nz ht).mpr ((h.nz ht).mp q))⟩⟩
theorem st_read {b_ha b_da b_ma : Nat → Int32} {b_up b_fu : Int32} {n_da n_ma n_ha : Nat → Int32} {n_up n_fu : Int32} (R : Rel b_ha b_da b_ma b_up b_fu n_da n_ma n_ha n_up n_fu) (p1 p2 : Int32) : ∃ (r : Int32), m_X4_read b_ha b_ma b_up p1 p2 = some r ∧ m_X5_read n_ma n_ha n_up p1 p2 = some r ∧ Rel b_ha b_da b_ma b_up b_fu n_da n_ma n_ha n_up n_fu := by
  obtain ⟨e1, e2, R0⟩ := id R
  subst e1 e2
  unfold m_X4_read m_X5_read
  rcases R0 with ⟨u1, u2, u3, u4⟩ | ⟨u1, u2, u3, hC, hH⟩
  · subst u1 u2
    rw [if_pos rfl, show m_X5_slotAt n_ha 0 p1 = some (-11) from rfl, Option.bind_some, if_pos (by decide : (-11 : Int32) < 0)]
    exact ⟨_, rfl, rfl, R⟩
  · subst u1 u2
    rw [if_neg u01]
    rcases s_handle hH p1 with ⟨z1, z2⟩ | ⟨k, s, k1, s1, rfl, z1, z2, z3, z4⟩
    · rw [z1, z2, Option.bind_some, Option.bind_some, if_pos rfl, if_pos (by decide : (-6 : Int32) < 0)]
      exact ⟨_, rfl, rfl, R⟩
    · rw [z1, z3, Option.bind_some, Option.bind_some, if_neg u01, if_neg (show ¬ nI s < (0 : Int32) from q_neg (by omega))]
      obtain ⟨N, O, L, Rr, Q, E, h⟩ := id hC
      have hN := (h.nz s1).mp z4
      have hL := (h.1 s s1).1.2.2.1
      have hL2 := (h.1 s s1).2.1.2.2.1
      have aL : g_ald 110 n_ma (((7 : Int32) * nI s) + (2 : Int32)) = some (nI (L s)) := by
        rw [show (7 : Int32) * nI s = nI (7 * s) from pk_mul 7 s, show nI (7 * s) + (2 : Int32) = nI (7 * s + 2) from nI_add _ 2, q_ald (by omega) (by omega), hL]
      rw [z2, Option.bind_some]
      by_cases c1 : p2 < (0 : Int32)
      · rw [if_pos c1, if_pos c1]
        exact ⟨_, rfl, rfl, R⟩
      · obtain ⟨p, p1', rfl⟩ := nI_of c1
        rw [if_neg c1, if_neg c1, s_lengthOf s1, Option.bind_some, hL, aL, Option.bind_some]
        by_cases c : p < L s
        · rw [i_lt c (by omega), i_lt c (by omega)]
          obtain ⟨x, x1, x2, x3, x4, x5⟩ := h.wd s1 c
          rw [x3, x4, Option.bind_some, Option.bind_some, q_ald (by omega) (by omega), Option.bind_some]
          exact ⟨_, rfl, rfl, R⟩
        · rw [i_nlt (by omega) (by omega), i_nlt (by omega) (by omega)]
          exact ⟨_, rfl, rfl, R⟩
theorem st_truncate {b_ha b_da b_ma : Nat → Int32} {b_up b_fu : Int32} {n_da n_ma n_ha n_te : Nat → Int32} {n_up n_fu n_tm n_tc : Int32} (R : Rel b_ha b_da b_ma b_up b_fu n_da n_ma n_ha n_up n_fu) (p1 p2 : Int32) : ∃ (r : Int32) (u_ma : Nat → Int32) (v_ma : Nat → Int32) (v_te : Nat → Int32) (v_tm : Int32) (v_tc : Int32), m_X4_truncate b_ha b_ma b_up p1 p2 = some (r, u_ma) ∧ m_X5_truncate n_ma n_ha n_te n_up n_tm n_tc p1 p2 = some (r, v_ma, v_te, v_tm, v_tc) ∧ Rel b_ha b_da u_ma b_up b_fu n_da v_ma n_ha n_up n_fu := by
  obtain ⟨e1, e2, R0⟩ := id R
  subst e1 e2
  unfold m_X4_truncate m_X5_truncate
  rcases R0 with ⟨u1, u2, u3, u4⟩ | ⟨u1, u2, u3, hC, hH⟩
  · subst u1 u2
    rw [if_pos rfl, show m_X5_slotAt n_ha 0 p1 = some (-11) from rfl, Option.bind_some, if_neg (by decide : ¬ (0 : Int32) ≤ -11)]
    exact ⟨_, _, _, _, _, _, rfl, rfl, R⟩
  · subst u1 u2
    rw [if_neg u01]
    rcases s_handle hH p1 with ⟨z1, z2⟩ | ⟨k, s, k1, s1, rfl, z1, z2, z3, z4⟩
    · rw [z1, z2, Option.bind_some, Option.bind_some, if_pos rfl, if_neg (by decide : ¬ (0 : Int32) ≤ -6)]
      exact ⟨_, _, _, _, _, _, rfl, rfl, R⟩
    · rw [z1, z3, Option.bind_some, Option.bind_some, if_neg u01, if_pos (nI_pos' (by omega))]
      obtain ⟨N, O, L, Rr, Q, E, h⟩ := id hC
      have hN := (h.nz s1).mp z4
      have hL := (h.1 s s1).1.2.2.1
      have hL2 := (h.1 s s1).2.1.2.2.1
      have aL : g_ald 110 n_ma (((7 : Int32) * nI s) + (2 : Int32)) = some (nI (L s)) := by
        rw [show (7 : Int32) * nI s = nI (7 * s) from pk_mul 7 s, show nI (7 * s) + (2 : Int32) = nI (7 * s + 2) from nI_add _ 2, q_ald (by omega) (by omega), hL]
      rcases w_rng p2 0 64 (by omega) (by omega) with ⟨c, w⟩ | ⟨p, -, p1', rfl, w⟩
      · have w' : m_X5_within p2 (0 : Int32) (64 : Int32) = some 0 := w
        rw [w', Option.bind_some, if_pos rfl]
        by_cases c1 : p2 < (0 : Int32)
        · rw [if_pos c1]
          exact ⟨_, _, _, _, _, _, rfl, rfl, R⟩
        · have c2 : ¬ p2 ≤ (64 : Int32) := by
            have c2 := c.resolve_left c1
            rw [fa_lt, nI_toInt (by omega)] at c2
            rw [fa_le]
            have h1 : (64 : Int32).toInt = 64 := by decide
            omega
          rw [if_neg c1, if_neg c2]
          exact ⟨_, _, _, _, _, _, rfl, rfl, R⟩
      · have w' : m_X5_within (nI p) (0 : Int32) (64 : Int32) = some 1 := w
        rw [w', Option.bind_some, if_neg u01, if_neg (show ¬ nI p < (0 : Int32) from q_neg (by omega)), if_pos (show nI p ≤ (64 : Int32) from nI_le (b := 64) (by omega) (by omega)), z2, Option.bind_some, s_lengthOf s1, Option.bind_some, hL, aL, Option.bind_some]
        by_cases c : p ≤ L s
        · rw [i_le c (by omega), i_le c (by omega)]
          obtain ⟨f', x1, x2, x3, x4⟩ := h.shrunk s1 hN c
          rw [x1, x2]
          exact ⟨_, _, _, _, _, _, rfl, rfl, rfl, rfl, Or.inr ⟨rfl, rfl, u3, x3, hH.mem (fun t ht _ q => by rw [x4 t ht]; exact q)⟩⟩
        · rw [i_nle (by omega) (by omega), i_nle (by omega) (by omega)]
          obtain ⟨cc, f', te', tm', tc', g1, g2, g3⟩ := h.grown s1 hN (len := p) (by omega) (by omega) n_te n_tm n_tc
          rw [g1, g2, q_k2, q_k5]
          rcases g3 with ⟨g3, g4, g5⟩ | ⟨g3, L', R', E', g5, g6⟩
          · subst g5
            exact ⟨_, _, _, _, _, _, rfl, rfl, R⟩
          · exact ⟨_, _, _, _, _, _, rfl, rfl, rfl, rfl, Or.inr ⟨rfl, rfl, u3, ⟨_, _, _, _, _, _, g6⟩, hH.mem (fun t ht _ q => (g6.nz ht).mpr ((h.nz ht).mp q))⟩⟩
theorem st_length {b_ha b_da b_ma : Nat → Int32} {b_up b_fu : Int32} {n_da n_ma n_ha : Nat → Int32} {n_up n_fu : Int32} (R : Rel b_ha b_da b_ma b_up b_fu n_da n_ma n_ha n_up n_fu) (p1 : Int32) : ∃ (r : Int32), m_X4_length b_ha b_ma b_up p1 = some r ∧ m_X5_length n_ma n_ha n_up p1 = some r ∧ Rel b_ha b_da b_ma b_up b_fu n_da n_ma n_ha n_up n_fu := by
  obtain ⟨e1, e2, R0⟩ := id R
  subst e1 e2
  unfold m_X4_length m_X5_length
  rcases R0 with ⟨u1, u2, u3, u4⟩ | ⟨u1, u2, u3, hC, hH⟩
  · subst u1 u2
    rw [if_pos rfl, show m_X5_slotAt n_ha 0 p1 = some (-11) from rfl, Option.bind_some, if_neg (by decide : ¬ (0 : Int32) ≤ -11)]
    exact ⟨_, rfl, rfl, R⟩
  · subst u1 u2
    rw [if_neg u01]
    rcases s_handle hH p1 with ⟨z1, z2⟩ | ⟨k, s, k1, s1, rfl, z1, z2, z3, z4⟩
    · rw [z1, z2, Option.bind_some, Option.bind_some, if_pos rfl, if_neg (by decide : ¬ (0 : Int32) ≤ -6)]
      exact ⟨_, rfl, rfl, R⟩
    · rw [z1, z3, Option.bind_some, Option.bind_some, if_neg u01, if_pos (nI_pos' (by omega))]
      obtain ⟨N, O, L, Rr, Q, E, h⟩ := id hC
      have hN := (h.nz s1).mp z4
      have hL := (h.1 s s1).1.2.2.1
      have hL2 := (h.1 s s1).2.1.2.2.1
      have aL : g_ald 110 n_ma (((7 : Int32) * nI s) + (2 : Int32)) = some (nI (L s)) := by
        rw [show (7 : Int32) * nI s = nI (7 * s) from pk_mul 7 s, show nI (7 * s) + (2 : Int32) = nI (7 * s + 2) from nI_add _ 2, q_ald (by omega) (by omega), hL]
      rw [z2, Option.bind_some, s_lengthOf s1, Option.bind_some, hL, aL, Option.bind_some]
      exact ⟨_, rfl, rfl, R⟩
theorem st_extent {b_ha b_da b_ma : Nat → Int32} {b_up b_fu : Int32} {n_da n_ma n_ha : Nat → Int32} {n_up n_fu : Int32} (R : Rel b_ha b_da b_ma b_up b_fu n_da n_ma n_ha n_up n_fu) (p1 p2 : Int32) : ∃ (r : Int32), m_X4_extent b_ha b_ma b_up p1 p2 = some r ∧ m_X5_extent n_ma n_ha n_up p1 p2 = some r ∧ Rel b_ha b_da b_ma b_up b_fu n_da n_ma n_ha n_up n_fu := by
  obtain ⟨e1, e2, R0⟩ := id R
  subst e1 e2
  unfold m_X4_extent m_X5_extent
  rcases R0 with ⟨u1, u2, u3, u4⟩ | ⟨u1, u2, u3, hC, hH⟩
  · subst u1 u2
    rw [if_pos rfl, show m_X5_slotAt n_ha 0 p1 = some (-11) from rfl, Option.bind_some, if_neg (by decide : ¬ (0 : Int32) ≤ -11)]
    exact ⟨_, rfl, rfl, R⟩
  · subst u1 u2
    rw [if_neg u01]
    rcases s_handle hH p1 with ⟨z1, z2⟩ | ⟨k, s, k1, s1, rfl, z1, z2, z3, z4⟩
    · rw [z1, z2, Option.bind_some, Option.bind_some, if_pos rfl, if_neg (by decide : ¬ (0 : Int32) ≤ -6)]
      exact ⟨_, rfl, rfl, R⟩
    · rw [z1, z3, Option.bind_some, Option.bind_some, if_neg u01, if_pos (nI_pos' (by omega))]
      obtain ⟨N, O, L, Rr, Q, E, h⟩ := id hC
      have hN := (h.nz s1).mp z4
      have hL := (h.1 s s1).1.2.2.1
      have hL2 := (h.1 s s1).2.1.2.2.1
      have aL : g_ald 110 n_ma (((7 : Int32) * nI s) + (2 : Int32)) = some (nI (L s)) := by
        rw [show (7 : Int32) * nI s = nI (7 * s) from pk_mul 7 s, show nI (7 * s) + (2 : Int32) = nI (7 * s + 2) from nI_add _ 2, q_ald (by omega) (by omega), hL]
      rcases w_rng p2 0 3 (by omega) (by omega) with ⟨c, w⟩ | ⟨p, -, p1', rfl, w⟩
      · have w' : m_X5_within p2 (0 : Int32) (3 : Int32) = some 0 := w
        rw [w', Option.bind_some, if_pos rfl]
        by_cases c1 : p2 < (0 : Int32)
        · rw [if_pos c1]
          exact ⟨_, rfl, rfl, R⟩
        · have c2 : ¬ p2 < (4 : Int32) := by
            have c2 := c.resolve_left c1
            rw [fa_lt, nI_toInt (by omega)] at c2
            rw [fa_lt]
            have h1 : (4 : Int32).toInt = 4 := by decide
            omega
          rw [if_neg c1, if_neg c2]
          exact ⟨_, rfl, rfl, R⟩
      · have w' : m_X5_within (nI p) (0 : Int32) (3 : Int32) = some 1 := w
        rw [w', Option.bind_some, if_neg u01, if_neg (show ¬ nI p < (0 : Int32) from q_neg (by omega)), if_pos (show nI p < (4 : Int32) from nI_lt (b := 4) (by omega) (by omega)), z2, Option.bind_some, e_extentOf, s_extentOf s1 (by omega), Option.bind_some]
        exact ⟨_, rfl, rfl, R⟩
theorem st_rename {b_ha b_da b_ma : Nat → Int32} {b_up b_fu : Int32} {n_da n_ma n_ha : Nat → Int32} {n_up n_fu : Int32} (R : Rel b_ha b_da b_ma b_up b_fu n_da n_ma n_ha n_up n_fu) (p1 p2 : Int32) : ∃ (r : Int32) (u_ma : Nat → Int32) (v_ma : Nat → Int32), m_X4_rename b_ha b_ma b_up p1 p2 = some (r, u_ma) ∧ m_X5_rename n_ma n_ha n_up p1 p2 = some (r, v_ma) ∧ Rel b_ha b_da u_ma b_up b_fu n_da v_ma n_ha n_up n_fu := by
  obtain ⟨e1, e2, R0⟩ := id R
  subst e1 e2
  unfold m_X4_rename m_X5_rename
  rcases R0 with ⟨u1, u2, u3, u4⟩ | ⟨u1, u2, u3, hC, hH⟩
  · subst u1 u2
    rw [if_pos rfl, if_pos rfl]
    exact ⟨_, _, _, rfl, rfl, R⟩
  · subst u1 u2
    rw [if_neg u01, if_neg u01]
    obtain ⟨N, O, L, Rr, Q, E, h⟩ := id hC
    rcases s_slotOf h p1 with ⟨⟨z1, z2⟩, -⟩ | ⟨s, s1, s2, s3, z1, z2⟩
    · rw [z1, z2, Option.bind_some, Option.bind_some, if_pos rfl, if_neg (by decide : ¬ (0 : Int32) ≤ -1)]
      exact ⟨_, _, _, rfl, rfl, R⟩
    · rw [z1, z2, Option.bind_some, Option.bind_some, if_neg (nI_nm (by omega)), if_pos (nI_pos' (by omega)), e_isName]
      rcases w_rng p2 1 99 (by omega) (by omega) with ⟨-, w⟩ | ⟨n, n1, n2, rfl, w⟩
      · have w' : m_X5_within p2 (1 : Int32) (99 : Int32) = some 0 := w
        rw [w, w']
        exact ⟨_, _, _, rfl, rfl, R⟩
      · have w' : m_X5_within (nI n) (1 : Int32) (99 : Int32) = some 1 := w
        rw [w, w', Option.bind_some, Option.bind_some, if_neg u01, if_neg u01]
        have a7 : (7 : Int32) * nI s = nI (7 * s) := pk_mul 7 s
        by_cases c : p1 = nI n
        · subst c
          rw [if_pos rfl, z2, Option.bind_some, if_neg (q_neg (by omega)), if_pos rfl, a7, q_ast (by omega) (by omega), Option.bind_some]
          have e : upd n_ma (7 * s) (nI n) = n_ma := by rw [← s3]; exact upd_same
          rw [e]
          exact ⟨_, _, _, rfl, rfl, R⟩
        · rw [if_neg c]
          rcases s_slotOf h (nI n) with ⟨⟨y1, y2⟩, y3⟩ | ⟨t, t1, t2, t3, y1, y2⟩
          · rw [y1, y2, Option.bind_some, Option.bind_some, if_pos rfl, if_pos (by decide : (-1 : Int32) < 0), s_nameFile s1, Option.bind_some, a7, q_ast (by omega) (by omega), Option.bind_some]
            refine ⟨_, _, _, rfl, rfl, rfl, rfl, Or.inr ⟨rfl, rfl, u3, ⟨_, _, _, _, _, _, h.rename s1 s2 n1 n2 (fun t ht _ z => ?_)⟩, hH.mem (fun t ht _ q => ?_)⟩⟩
            · exact y3 t ht (nI_ne0 (by omega) (by omega)) (by rw [(h.nm ht).1, z])
            · by_cases c3 : t = s
              · subst c3
                rw [q_ul]
                exact nI_ne0 (by omega) (by omega)
              · rw [q_un (by omega)]; exact q
          · have hts : t ≠ s := fun q => c (by rw [← s3, ← t3, q])
            rw [y1, y2, Option.bind_some, Option.bind_some, if_neg (nI_nm (by omega)), if_neg (q_neg (by omega)), i_ne hts (by omega) (by omega)]
            obtain ⟨v, x1, x2, x3⟩ := s_use hH t1
            rw [x1, x2, Option.bind_some, Option.bind_some, i_bi, i_bi]
            cases v with
            | true => exact ⟨_, _, _, rfl, rfl, R⟩
            | false =>
              obtain ⟨f', d1, d2, d3, d4⟩ := h.dropped t1
              rw [if_neg Bool.false_ne_true, if_neg Bool.false_ne_true, d1, d2, Option.bind_some, Option.bind_some, s_nameFile s1, Option.bind_some, a7, q_ast (by omega) (by omega), Option.bind_some]
              have hNt : N t = n := by
                have a := (h.nm t1)
                rw [t3] at a
                exact ((nI_eq (by omega) (by omega)).mp a.1).symm
              refine ⟨_, _, _, rfl, rfl, rfl, rfl, Or.inr ⟨rfl, rfl, u3, ⟨_, _, _, _, _, _, d3.rename s1 (by rw [va1_n (Ne.symm hts)]; exact s2) n1 n2 (fun u hu hus z => ?_)⟩, hH.mem (fun u hu k q => ?_)⟩⟩
              · by_cases c4 : u = t
                · subst c4
                  rw [va1_s] at z; omega
                · rw [va1_n c4] at z
                  rcases Nat.lt_or_ge u t with y | y
                  · exact h.2.1 t t1 u y t2 (by omega)
                  · exact h.2.1 u hu t (by omega) (by omega) (by omega)
              · obtain ⟨k, k1, k2⟩ := k
                by_cases c4 : u = s
                · subst c4
                  rw [q_ul]
                  exact nI_ne0 (by omega) (by omega)
                · rw [q_un (by omega), d4 u hu (fun c5 => x3 rfl k k1 (by rw [k2, c5]))]
                  exact q
theorem st_setQuota {b_ha b_da b_ma : Nat → Int32} {b_up b_fu : Int32} {n_da n_ma n_ha : Nat → Int32} {n_up n_fu : Int32} (R : Rel b_ha b_da b_ma b_up b_fu n_da n_ma n_ha n_up n_fu) (p1 p2 : Int32) : ∃ (r : Int32) (u_ma : Nat → Int32) (v_ma : Nat → Int32), m_X4_setQuota b_ma b_up p1 p2 = some (r, u_ma) ∧ m_X5_setQuota n_ma n_up p1 p2 = some (r, v_ma) ∧ Rel b_ha b_da u_ma b_up b_fu n_da v_ma n_ha n_up n_fu := by
  obtain ⟨e1, e2, R0⟩ := id R
  subst e1 e2
  unfold m_X4_setQuota m_X5_setQuota
  rcases R0 with ⟨u1, u2, u3, u4⟩ | ⟨u1, u2, u3, hC, hH⟩
  · subst u1 u2
    rw [if_pos rfl, if_pos rfl]
    exact ⟨_, _, _, rfl, rfl, R⟩
  · subst u1 u2
    rw [if_neg u01, if_neg u01, e_isOwner]
    rcases w_rng p1 0 2 (by omega) (by omega) with ⟨-, v⟩ | ⟨o, -, o2, rfl, v⟩
    · have v' : m_X5_within p1 (0 : Int32) (2 : Int32) = some 0 := v
      rw [v, v']
      exact ⟨_, _, _, rfl, rfl, R⟩
    · have v' : m_X5_within (nI o) (0 : Int32) (2 : Int32) = some 1 := v
      rw [v, v', Option.bind_some, Option.bind_some, if_neg u01, if_neg u01]
      rcases w_rng p2 0 32 (by omega) (by omega) with ⟨c, w⟩ | ⟨p, -, p1', rfl, w⟩
      · have w' : m_X5_within p2 (0 : Int32) (32 : Int32) = some 0 := w
        rw [w', Option.bind_some, if_pos rfl]
        by_cases c1 : p2 < (0 : Int32)
        · rw [if_pos c1]
          exact ⟨_, _, _, rfl, rfl, R⟩
        · have c2 : ¬ p2 ≤ (32 : Int32) := by
            have c2 := c.resolve_left c1
            rw [fa_lt, nI_toInt (by omega)] at c2
            rw [fa_le]
            have h1 : (32 : Int32).toInt = 32 := by decide
            omega
          rw [if_neg c1, if_neg c2]
          exact ⟨_, _, _, rfl, rfl, R⟩
      · have w' : m_X5_within (nI p) (0 : Int32) (32 : Int32) = some 1 := w
        obtain ⟨N, O, L, Rr, Q, E, h⟩ := id hC
        have hu := usg_lt (O := O) (E := E) (o := o) (fun s hs => (h.1 s hs).2.2.1)
        rw [w', Option.bind_some, if_neg u01, if_neg (show ¬ nI p < (0 : Int32) from q_neg (by omega)), if_pos (show nI p ≤ (32 : Int32) from nI_le (b := 32) (by omega) (by omega)), s_usage h.1 o2, s_used h.1 o2, Option.bind_some, Option.bind_some]
        by_cases c : usg O E o ≤ p
        · unfold m_X2_putQuota
          rw [i_le c (by omega), i_le c (by omega), show (42 : Int32) + nI o = nI (42 + o) from nI_add 42 o, q_ast (by omega) (by omega), Option.bind_some, Option.bind_some]
          exact ⟨_, _, _, rfl, rfl, rfl, rfl, Or.inr ⟨rfl, rfl, u3, ⟨_, _, _, _, _, _, h.quota o2 p1' c⟩, hH.mem (fun t ht _ q => by rw [q_un (by omega)]; exact q)⟩⟩
        · rw [i_nle (by omega) (by omega), i_nle (by omega) (by omega)]
          exact ⟨_, _, _, rfl, rfl, R⟩
theorem st_usage {b_ha b_da b_ma : Nat → Int32} {b_up b_fu : Int32} {n_da n_ma n_ha : Nat → Int32} {n_up n_fu : Int32} (R : Rel b_ha b_da b_ma b_up b_fu n_da n_ma n_ha n_up n_fu) (p1 : Int32) : ∃ (r : Int32), m_X4_usage b_ma b_up p1 = some r ∧ m_X5_usage n_ma n_up p1 = some r ∧ Rel b_ha b_da b_ma b_up b_fu n_da n_ma n_ha n_up n_fu := by
  obtain ⟨e1, e2, R0⟩ := id R
  subst e1 e2
  unfold m_X4_usage m_X5_usage
  rcases R0 with ⟨u1, u2, u3, u4⟩ | ⟨u1, u2, u3, hC, hH⟩
  · subst u1 u2
    rw [if_pos rfl, if_pos rfl]
    exact ⟨_, rfl, rfl, R⟩
  · subst u1 u2
    rw [if_neg u01, if_neg u01, e_isOwner]
    rcases w_rng p1 0 2 (by omega) (by omega) with ⟨-, v⟩ | ⟨o, -, o2, rfl, v⟩
    · have v' : m_X5_within p1 (0 : Int32) (2 : Int32) = some 0 := v
      rw [v, v']
      exact ⟨_, rfl, rfl, R⟩
    · have v' : m_X5_within (nI o) (0 : Int32) (2 : Int32) = some 1 := v
      obtain ⟨N, O, L, Rr, Q, E, h⟩ := id hC
      rw [v, v', Option.bind_some, Option.bind_some, if_neg u01, if_neg u01, s_usage h.1 o2, s_used h.1 o2]
      exact ⟨_, rfl, rfl, R⟩
theorem st_free {b_ha b_da b_ma : Nat → Int32} {b_up b_fu : Int32} {n_da n_ma n_ha : Nat → Int32} {n_up n_fu : Int32} (R : Rel b_ha b_da b_ma b_up b_fu n_da n_ma n_ha n_up n_fu) (p1 : Int32) : ∃ (r : Int32), m_X4_free b_ma b_up p1 = some r ∧ m_X5_free n_ma n_up p1 = some r ∧ Rel b_ha b_da b_ma b_up b_fu n_da n_ma n_ha n_up n_fu := by
  obtain ⟨e1, e2, R0⟩ := id R
  subst e1 e2
  unfold m_X4_free m_X5_free
  rcases R0 with ⟨u1, u2, u3, u4⟩ | ⟨u1, u2, u3, hC, hH⟩
  · subst u1 u2
    rw [if_pos rfl, if_pos rfl]
    exact ⟨_, rfl, rfl, R⟩
  · subst u1 u2
    rw [if_neg u01, if_neg u01]
    rcases w_rng p1 0 5 (by omega) (by omega) with ⟨c, w⟩ | ⟨p, -, p1', rfl, w⟩
    · have w' : m_X5_within p1 (0 : Int32) (5 : Int32) = some 0 := w
      rw [w', Option.bind_some, if_pos rfl]
      by_cases c1 : p1 < (0 : Int32)
      · rw [if_pos c1]
        exact ⟨_, rfl, rfl, R⟩
      · have c2 : ¬ p1 ≤ (5 : Int32) := by
          have c2 := c.resolve_left c1
          rw [fa_lt, nI_toInt (by omega)] at c2
          rw [fa_le]
          have h1 : (5 : Int32).toInt = 5 := by decide
          omega
        rw [if_neg c1, if_neg c2]
        exact ⟨_, rfl, rfl, R⟩
    · have w' : m_X5_within (nI p) (0 : Int32) (5 : Int32) = some 1 := w
      obtain ⟨v, x1, x2⟩ := s_freeRuns (f := n_ma) (r := p) (by omega)
      rw [w', Option.bind_some, if_neg u01, if_neg (show ¬ nI p < (0 : Int32) from q_neg (by omega)), if_pos (show nI p ≤ (5 : Int32) from nI_le (b := 5) (by omega) (by omega)), x1, show g_ald 110 n_ma (45 : Int32) = some (n_ma 45) from q_ald (j := 45) (by omega) (by omega), Option.bind_some, Option.bind_some, x2]
      exact ⟨_, rfl, rfl, R⟩
theorem st_sync {b_ha b_da b_ma : Nat → Int32} {b_up b_fu : Int32} {n_da n_ma n_ha n_ch : Nat → Int32} {n_up n_fu : Int32} (R : Rel b_ha b_da b_ma b_up b_fu n_da n_ma n_ha n_up n_fu) : ∃ (r : Int32) (u_da : Nat → Int32) (u_up : Int32) (u_fu : Int32) (v_da : Nat → Int32) (v_ha : Nat → Int32) (v_ch : Nat → Int32) (v_up : Int32) (v_fu : Int32), m_X4_sync b_da b_ma b_up b_fu = some (r, u_da, u_up, u_fu) ∧ m_X5_sync n_da n_ma n_ha n_ch n_up n_fu = some (r, v_da, v_ha, v_ch, v_up, v_fu) ∧ Rel b_ha u_da b_ma u_up u_fu v_da n_ma v_ha v_up v_fu := by
  obtain ⟨e1, e2, R0⟩ := id R
  subst e1 e2
  rcases R0 with ⟨u1, u2, u3, u4⟩ | ⟨u1, u2, u3, hC, hH⟩
  · subst u1 u2
    unfold m_X4_sync m_X5_sync
    rw [if_pos rfl, if_pos rfl]
    exact ⟨_, _, _, _, _, _, _, _, _, rfl, rfl, R⟩
  · subst u1 u2 u3
    obtain ⟨ch', y⟩ := s_sync5 (d := n_da) (m := n_ma) (ha := n_ha) (ch := n_ch) (f := n_fu)
    rw [s_sync4, y]
    by_cases c1 : chg n_da n_ma 110 0 = []
    · rw [if_pos c1, if_pos c1]
      exact ⟨_, _, _, _, _, _, _, _, _, rfl, rfl, R⟩
    · rw [if_neg c1, if_neg c1]
      by_cases c2 : (wsq (tl n_ma (chg n_da n_ma 110 0)) n_da n_fu).1 = true
      · rw [if_pos c2, if_pos c2]
        exact ⟨_, _, _, _, _, _, _, _, _, rfl, rfl, rfl, rfl, Or.inr ⟨rfl, rfl, rfl, hC, hH⟩⟩
      · rw [if_neg c2, if_neg c2]
        exact ⟨_, _, _, _, _, _, _, _, _, rfl, rfl, rfl, rfl, Or.inl ⟨rfl, rfl, rfl, fun h hh => ovr_in hh⟩⟩
theorem st_crashAfter {b_ha b_da b_ma : Nat → Int32} {b_up b_fu : Int32} {n_da n_ma n_ha : Nat → Int32} {n_up n_fu : Int32} (R : Rel b_ha b_da b_ma b_up b_fu n_da n_ma n_ha n_up n_fu) (p1 : Int32) : ∃ (r : Int32) (u_fu : Int32) (v_fu : Int32), m_X4_crashAfter b_up b_fu p1 = some (r, u_fu) ∧ m_X5_crashAfter n_up n_fu p1 = some (r, v_fu) ∧ Rel b_ha b_da b_ma b_up u_fu n_da n_ma n_ha n_up v_fu := by
  obtain ⟨e1, e2, R0⟩ := id R
  subst e1 e2
  unfold m_X4_crashAfter m_X5_crashAfter
  rcases R0 with ⟨u1, u2, u3, u4⟩ | ⟨u1, u2, u3, hC, hH⟩
  · subst u1 u2
    rw [if_pos rfl, if_pos rfl]
    exact ⟨_, _, _, rfl, rfl, R⟩
  · subst u1 u2
    rw [if_neg u01, if_neg u01]
    by_cases c : (-1 : Int32) ≤ p1
    · rw [if_pos c, if_pos c]
      exact ⟨_, _, _, rfl, rfl, rfl, rfl, Or.inr ⟨rfl, rfl, rfl, hC, hH⟩⟩
    · rw [if_neg c, if_neg c]
      exact ⟨_, _, _, rfl, rfl, R⟩
theorem st_mount {b_ha b_da b_ma b_ja : Nat → Int32} {b_up b_fu : Int32} {n_da n_ma n_ha n_ho n_ti n_be : Nat → Int32} {n_up n_fu : Int32} (R : Rel b_ha b_da b_ma b_up b_fu n_da n_ma n_ha n_up n_fu) : ∃ (r : Int32) (u_ha : Nat → Int32) (u_da : Nat → Int32) (u_ma : Nat → Int32) (u_ja : Nat → Int32) (u_up : Int32) (u_fu : Int32) (v_da : Nat → Int32) (v_ma : Nat → Int32) (v_ho : Nat → Int32) (v_ti : Nat → Int32) (v_be : Nat → Int32) (v_up : Int32), m_X4_mount b_ha b_da b_ma b_ja b_up b_fu = some (r, u_ha, u_da, u_ma, u_ja, u_up, u_fu) ∧ m_X5_mount n_da n_ma n_ho n_ti n_be n_up = some (r, v_da, v_ma, v_ho, v_ti, v_be, v_up) ∧ Rel u_ha u_da u_ma u_up u_fu v_da v_ma n_ha v_up n_fu := by
  obtain ⟨e1, e2, R0⟩ := id R
  subst e1 e2
  unfold m_X4_mount m_X5_mount
  rcases R0 with ⟨u1, u2, u3, u4⟩ | ⟨u1, u2, u3, hC, hH⟩
  · subst u1 u2
    rw [if_pos rfl, if_pos rfl]
    obtain ⟨v, g, D, j1, j2, j3, j4, j5, hg⟩ := s_mnt n_da n_ho
    obtain ⟨n, ti', be', n1, lb, jd, cl⟩ := s_judge (ti := n_ti) (be := n_be) (f := ovr D b_ja 110) j3 (fun j hj => (ovr_in hj).trans (hg j hj).symm)
    rw [j1, Option.bind_some, j4, q_k1, s_copyFrom, Option.bind_some, lb, Option.bind_some, jd, q_k4, j2, Option.bind_some, j5, q_k1]
    by_cases c : n = 0
    · subst c
      have h1 := q_copy (st := fun q => m_X5_mount_L65 g q.1 q.2) g n_ma 110 (fun a => a) (by omega)
        (by
          intro i a hi
          show m_X5_mount_L65 g (nI i) a = _
          unfold m_X5_mount_L65
          rw [show (110 : Int32) = nI 110 from rfl, i_nle hi (by omega), q_ald (by omega) (by omega), Option.bind_some, q_ast (by omega) (by omega), Option.bind_some, show nI i + (1 : Int32) = nI (i + 1) from nI_1 i])
        (fun a => rfl)
      have eM : ovr g n_ma 110 = ovr D n_ma 110 := by
        funext j
        rcases Nat.lt_or_ge j 110 with z | z
        · rw [ovr_in z, ovr_in z, hg j z]
        · rw [ovr_out z, ovr_out z]
      rw [if_pos (show nI 0 = (0 : Int32) from rfl), if_pos (by decide : nI 0 ≤ (0 : Int32)), s_copyFrom, Option.bind_some, s_goUp, q_k3, show ((0 : Int32), n_ma) = (nI 0, n_ma) from rfl, h1, q_k1, eM]
      exact ⟨_, _, _, _, _, _, _, _, _, _, _, _, _, rfl, rfl, rfl, rfl, Or.inr ⟨rfl, rfl, u3, (cl rfl).cg (fun j hj => (ovr_in hj).trans (hg j hj).symm), fun h hh => Or.inl ⟨ovr_in hh, u4 h hh⟩⟩⟩
    · rw [if_neg (nI_ne0 (by omega) (by omega)), if_neg (nI_nle (by omega) (by omega))]
      exact ⟨_, _, _, _, _, _, _, _, _, _, _, _, _, rfl, rfl, rfl, rfl, Or.inl ⟨rfl, rfl, u3, u4⟩⟩
  · subst u1 u2
    rw [if_neg u01, if_neg u01]
    exact ⟨_, _, _, _, _, _, _, _, _, _, _, _, _, rfl, rfl, R⟩
theorem st_corrupt {b_ha b_da b_ma : Nat → Int32} {b_up b_fu : Int32} {n_da n_ma n_ha : Nat → Int32} {n_up n_fu : Int32} (R : Rel b_ha b_da b_ma b_up b_fu n_da n_ma n_ha n_up n_fu) (p1 p2 : Int32) : ∃ (r : Int32) (u_da : Nat → Int32) (v_da : Nat → Int32), m_X4_corrupt b_da b_up p1 p2 = some (r, u_da) ∧ m_X5_corrupt n_da n_up p1 p2 = some (r, v_da) ∧ Rel b_ha u_da b_ma b_up b_fu v_da n_ma n_ha n_up n_fu := by
  obtain ⟨e1, e2, R0⟩ := id R
  subst e1 e2
  unfold m_X4_corrupt m_X5_corrupt
  rcases R0 with ⟨u1, u2, u3, u4⟩ | ⟨u1, u2, u3, hC, hH⟩
  · subst u1 u2
    rw [if_pos rfl, if_pos rfl]
    rcases w_rng p1 0 331 (by omega) (by omega) with ⟨c, w⟩ | ⟨p, -, p1', rfl, w⟩
    · have w' : m_X5_within p1 (0 : Int32) (331 : Int32) = some 0 := w
      rw [w', Option.bind_some, if_pos rfl]
      by_cases c1 : p1 < (0 : Int32)
      · rw [if_pos c1]
        exact ⟨_, _, _, rfl, rfl, R⟩
      · have c2 : ¬ p1 < (332 : Int32) := by
          have c2 := c.resolve_left c1
          rw [fa_lt, nI_toInt (by omega)] at c2
          rw [fa_lt]
          have h1 : (332 : Int32).toInt = 332 := by decide
          omega
        rw [if_neg c1, if_neg c2]
        exact ⟨_, _, _, rfl, rfl, R⟩
    · have w' : m_X5_within (nI p) (0 : Int32) (331 : Int32) = some 1 := w
      rw [w', Option.bind_some, if_neg u01, if_neg (show ¬ nI p < (0 : Int32) from q_neg (by omega)), if_pos (show nI p < (332 : Int32) from nI_lt (b := 332) (by omega) (by omega)), q_ast (by omega) (by omega), Option.bind_some]
      exact ⟨_, _, _, rfl, rfl, rfl, rfl, Or.inl ⟨rfl, rfl, u3, u4⟩⟩
  · subst u1 u2
    rw [if_neg u01, if_neg u01]
    exact ⟨_, _, _, rfl, rfl, R⟩
theorem st_fsck {b_ha b_da b_ma b_ja : Nat → Int32} {b_up b_fu : Int32} {n_da n_ma n_ha n_ho n_ti n_be : Nat → Int32} {n_up n_fu : Int32} (R : Rel b_ha b_da b_ma b_up b_fu n_da n_ma n_ha n_up n_fu) : ∃ (r : Int32) (u_ja : Nat → Int32) (v_ho : Nat → Int32) (v_ti : Nat → Int32) (v_be : Nat → Int32), m_X4_fsck b_da b_ja = some (r, u_ja) ∧ m_X5_fsck n_da n_ho n_ti n_be = some (r, v_ho, v_ti, v_be) ∧ Rel b_ha b_da b_ma b_up b_fu n_da n_ma n_ha n_up n_fu := by
  obtain ⟨e1, e2, R0⟩ := id R
  subst e1 e2
  obtain ⟨v, j1, j2, j3⟩ := s_hold (d := n_da)
  unfold m_X4_fsck m_X5_fsck
  rw [s_copyFrom, Option.bind_some, j1, Option.bind_some, i_bi]
  cases v with
  | false =>
    have hF := s_fetch (ho := n_ho) (n := 0) j2 (fun q => by cases q)
    obtain ⟨n, ti', be', n1, lb, jd, -⟩ := s_judge (ti := n_ti) (be := n_be) (f := ovr n_da b_ja 110) hF (fun j hj => (ovr_in hj).trans (ovr_in hj).symm)
    rw [if_neg Bool.false_ne_true, lb, jd]
    exact ⟨_, _, _, _, _, rfl, rfl, R⟩
  | true =>
    obtain ⟨n, n0, n1, n2, n3⟩ := j3 rfl
    have hF := s_fetch (ho := n_ho) (n := n) j2 (fun _ => ⟨n1, n2, n3⟩)
    obtain ⟨z, ti', be', z1, lb, jd, -⟩ := s_judge (ti := n_ti) (be := n_be) (f := rpl n_da n (ovr n_da b_ja 110)) hF (fun j hj => rpl_cg ((ovr_in hj).trans (ovr_in hj).symm))
    rw [if_pos rfl, s_replay n1 n2 n3, Option.bind_some, lb, jd]
    exact ⟨_, _, _, _, _, rfl, rfl, R⟩
theorem st_peek {b_ha b_da b_ma : Nat → Int32} {b_up b_fu : Int32} {n_da n_ma n_ha : Nat → Int32} {n_up n_fu : Int32} (R : Rel b_ha b_da b_ma b_up b_fu n_da n_ma n_ha n_up n_fu) (p1 : Int32) : ∃ (r : Int32), m_X4_peek b_da p1 = some r ∧ m_X5_peek n_da p1 = some r ∧ Rel b_ha b_da b_ma b_up b_fu n_da n_ma n_ha n_up n_fu := by
  obtain ⟨e1, e2, R0⟩ := id R
  subst e1 e2
  unfold m_X4_peek m_X5_peek
  rcases w_rng p1 0 331 (by omega) (by omega) with ⟨c, w⟩ | ⟨p, -, p1', rfl, w⟩
  · have w' : m_X5_within p1 (0 : Int32) (331 : Int32) = some 0 := w
    rw [w', Option.bind_some, if_pos rfl]
    by_cases c1 : p1 < (0 : Int32)
    · rw [if_pos c1]
      exact ⟨_, rfl, rfl, R⟩
    · have c2 : ¬ p1 < (332 : Int32) := by
        have c2 := c.resolve_left c1
        rw [fa_lt, nI_toInt (by omega)] at c2
        rw [fa_lt]
        have h1 : (332 : Int32).toInt = 332 := by decide
        omega
      rw [if_neg c1, if_neg c2]
      exact ⟨_, rfl, rfl, R⟩
  · have w' : m_X5_within (nI p) (0 : Int32) (331 : Int32) = some 1 := w
    rw [w', Option.bind_some, if_neg u01, if_neg (show ¬ nI p < (0 : Int32) from q_neg (by omega)), if_pos (show nI p < (332 : Int32) from nI_lt (b := 332) (by omega) (by omega)), q_ald (by omega) (by omega), Option.bind_some]
    exact ⟨_, rfl, rfl, R⟩
theorem st_init : ∃ (u_ha : Nat → Int32) (u_da : Nat → Int32) (u_ma : Nat → Int32) (u_up : Int32) (u_fu : Int32) (v_da : Nat → Int32) (v_ma : Nat → Int32) (v_ha : Nat → Int32) (v_up : Int32) (v_fu : Int32), m_X4_startAfresh (fun _ => (0 : Int32)) (fun _ => (0 : Int32)) (fun _ => (0 : Int32)) 0 0 = some (u_ha, u_da, u_ma, u_up, u_fu) ∧ m_X5_format (fun _ => (0 : Int32)) (fun _ => (0 : Int32)) (fun _ => (0 : Int32)) 0 0 = some (v_da, v_ma, v_ha, v_up, v_fu) ∧ Rel u_ha u_da u_ma u_up u_fu v_da v_ma v_ha v_up v_fu := by
  obtain ⟨u_ha, v_ha, d2, m2, x1, x2, x3, x4⟩ := s_fresh (fun _ => 0) (fun _ => 0) (fun _ => 0) (fun _ => 0) 0 0 0 0
  rw [x1, x2]
  exact ⟨_, _, _, _, _, _, _, _, _, _, rfl, rfl, rfl, rfl, Or.inr ⟨rfl, rfl, rfl, x4, fun h hh => Or.inl (x3 h hh)⟩⟩
