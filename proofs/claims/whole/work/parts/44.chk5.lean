/-! clauses 5 and 7 -/
def p5 (L R : Nat → Nat) (E : Nat → Nat → Nat) (s : Nat) : Bool := decide ((L s + 1) / 2 ≤ pre (E s) 4) && (decide (R s = 0) || decide (pre (E s) 4 - szN (E s (R s - 1)) < (L s + 1) / 2))
theorem s_fit2 {f : Nat → Int32} {N O L R : Nat → Nat} {E : Nat → Nat → Nat} (hS : ∀ s, s < 6 → Slo f s (N s) (O s) (L s) (R s) (E s)) : m_X0_runsFitLengths f = some (bi (allB (p5 L R E) 0 6)) := by
  have h := q_all (st := fun q => m_X0_runsFitLengths_L2 f q) (fun i => nI i) (p5 L R E) (0 : Int32) 6
    (by
      intro i hi
      obtain ⟨⟨h1, h2, h3, h4⟩, ⟨h5, h6, h7, h8⟩, h9, h10, h11⟩ := hS i hi
      have hb := pre_le (k := 4) h9
      show m_X0_runsFitLengths_L2 f (nI i) = _
      unfold m_X0_runsFitLengths_L2 p5
      rw [show (6 : Int32) = nI 6 from rfl, i_nle hi (by omega), s_lengthOf hi, Option.bind_some, h3, show m_X2_needOf (nI (L i)) = some (nI ((L i + 1) / 2)) from by unfold m_X2_needOf; rw [s_need (by omega)], Option.bind_some, e_blocks, s_blocks hi h4 h9, Option.bind_some, s_runs2 hi h4 h9 h8 h10, Option.bind_some, show nI i + (1 : Int32) = nI (i + 1) from nI_1 i, show (0 : Int32) = nI 0 from rfl]
      by_cases c : (L i + 1) / 2 ≤ pre (E i) 4
      · rw [i_le c (by omega), decide_eq_true c, Bool.true_and]
        by_cases c2 : R i = 0
        · rw [i_le (by omega) (by omega), decide_eq_true c2, Bool.true_or, if_pos rfl]
        · obtain ⟨r, hr⟩ : ∃ r, R i = r + 1 := ⟨R i - 1, by omega⟩
          have hs := sz_le (E i r) (by have := ok_lt (h9 r (by omega)); omega)
          have hp : szN (E i r) ≤ pre (E i) 4 := sm_part (g := fun k => szN (E i k)) (by omega)
          rw [i_nle (by omega) (by omega), decide_eq_false c2, Bool.false_or, hr, show nI (r + 1) - (1 : Int32) = nI r from nI_pred r, e_extentOf, s_extentOf hi (by omega), Option.bind_some, h4 r (by omega), r_blocksOf _ (by have := ok_lt (h9 r (by omega)); omega), Option.bind_some, pk_sub hp, show r + 1 - 1 = r by omega]
          by_cases c3 : pre (E i) 4 - szN (E i r) < (L i + 1) / 2
          · rw [i_lt c3 (by omega), if_pos (decide_eq_true c3)]
          · rw [i_nlt (by omega) (by omega), if_neg (by simpa using c3)]
      · rw [i_nle (by omega) (by omega), decide_eq_false c, Bool.false_and]
        rfl)
    rfl 6 0 1000 rfl (by omega)
  unfold m_X0_runsFitLengths
  rw [show (0 : Int32) = nI 0 from rfl, h]
  cases allB (p5 L R E) 0 6 <;> rfl
def lastN (E : Nat → Nat) (r k : Nat) : Nat := if min k r = 0 then 0 else szN (E (min k r - 1))
theorem s_needs5 {f : Nat → Int32} {N O L R : Nat → Nat} {E : Nat → Nat → Nat} (hS : ∀ s, s < 6 → Slo f s (N s) (O s) (L s) (R s) (E s)) : m_X5_needsRight f = some (bi (allB (p5 L R E) 0 6)) := by
  have h := q_acc (st := fun q => m_X5_needsRight_L4 f q.1 q.2) (fun i a => (a, nI i)) (p5 L R E) (fun a => a) 6
    (by
      intro i a hi
      obtain ⟨⟨h1, h2, h3, h4⟩, ⟨h5, h6, h7, h8⟩, h9, h10, h11⟩ := hS i hi
      have hb := pre_le (k := 4) h9
      have hin := q_for (st := fun q => m_X5_needsRight_L35 f (nI i) q.1 q.2.1 q.2.2) (fun k (x : Int32 × Int32) => (x.1, x.2, nI k)) 4 (fun k x => x.1 = nI (pre (E i) k) ∧ x.2 = nI (lastN (E i) (R i) k)) (fun r => r.1 = nI (pre (E i) 4) ∧ r.2 = nI (lastN (E i) (R i) 4))
        (by
          rintro k ⟨x, y⟩ hk ⟨hx, hy⟩
          dsimp only at hx hy
          have ho := ok_lt (h9 k hk)
          have hz := h10 k hk
          left
          refine ⟨(nI (pre (E i) (k + 1)), nI (lastN (E i) (R i) (k + 1))), ?_, rfl, rfl⟩
          show m_X5_needsRight_L35 f (nI i) x y (nI k) = _
          unfold m_X5_needsRight_L35
          have e1 : g_ald 110 f ((((7 : Int32) * nI i) + (3 : Int32)) + nI k) = some (nI (E i k)) := by
            simp only [q_c0, q_c1, q_c2, q_c3, q_c4, q_c5, q_c6, q_c7, q_c31, q_c32, q_c42, q_c44, q_c45, q_c46, q_c63, q_c64, q_c99, q_c109, q_c110, q_c111, q_c112, q_c113, q_c192, q_c331, q_c332, nI_add, pk_mul]
            rw [q_ald (by omega) (by omega), h4 k hk]
          rw [show (4 : Int32) = nI 4 from rfl, i_nle hk (by omega), e1, Option.bind_some, r_size _ (by omega), Option.bind_some, Option.bind_some, hx, hy, nI_add, show nI k + (1 : Int32) = nI (k + 1) from nI_1 k, show (0 : Int32) = nI 0 from rfl]
          by_cases c : E i k = 0
          · rw [i_eq c]
            have : lastN (E i) (R i) (k + 1) = lastN (E i) (R i) k := by
              have : ¬ k < R i := fun q => (hz.mpr q) c
              unfold lastN
              rw [show min (k + 1) (R i) = min k (R i) by omega]
            rw [this]
            rfl
          · rw [i_ne c (by omega) (by omega)]
            have : lastN (E i) (R i) (k + 1) = szN (E i k) := by
              have := hz.mp c
              unfold lastN
              rw [show min (k + 1) (R i) = k + 1 by omega, if_neg (by omega), show k + 1 - 1 = k by omega]
            rw [this]
            rfl)
        (by
          rintro ⟨x, y⟩ ha
          exact ⟨(x, y), rfl, ha⟩)
        4 0 ((0 : Int32), (0 : Int32)) 1000 rfl ⟨rfl, by
          have : lastN (E i) (R i) 0 = 0 := if_pos (by omega)
          rw [this]; rfl⟩ (by omega)
      obtain ⟨⟨r1, r2⟩, x1, x2, x3⟩ := hin
      dsimp only at x2 x3
      show m_X5_needsRight_L4 f (bi a) (nI i) = _
      unfold m_X5_needsRight_L4 p5
      have e1 : g_ald 110 f (((7 : Int32) * nI i) + (2 : Int32)) = some (nI (L i)) := by
        simp only [q_c0, q_c1, q_c2, q_c3, q_c4, q_c5, q_c6, q_c7, q_c31, q_c32, q_c42, q_c44, q_c45, q_c46, q_c63, q_c64, q_c99, q_c109, q_c110, q_c111, q_c112, q_c113, q_c192, q_c331, q_c332, nI_add, pk_mul]
        rw [q_ald (by omega) (by omega), h3]
      rw [show (6 : Int32) = nI 6 from rfl, i_nle hi (by omega), e1, Option.bind_some, show ((0 : Int32), (0 : Int32), (0 : Int32)) = ((0 : Int32), (0 : Int32), nI 0) from rfl, x1, q_k2, i_bi, show nI i + (1 : Int32) = nI (i + 1) from nI_1 i, x2, x3, s_need (by omega)]
      cases a with
      | false => rfl
      | true =>
        rw [if_pos rfl, Bool.true_and]
        by_cases c : (L i + 1) / 2 ≤ pre (E i) 4
        · rw [i_nlt c (by omega), decide_eq_true c, Bool.true_and]
          by_cases c2 : R i = 0
          · have : lastN (E i) (R i) 4 = 0 := if_pos (by omega)
            rw [this, show (0 : Int32) = nI 0 from rfl, i_eq rfl, decide_eq_true c2, Bool.true_or]; rfl
          · have e2 : lastN (E i) (R i) 4 = szN (E i (R i - 1)) := by
              unfold lastN
              rw [show min 4 (R i) = R i by omega, if_neg c2]
            have h12 := h9 (R i - 1) (by omega)
            have hsz := r_ok _ (ok_lt h12) h12
            have hnz := (h10 (R i - 1) (by omega)).mpr (by omega)
            have hp : szN (E i (R i - 1)) ≤ pre (E i) 4 := sm_part (g := fun k => szN (E i k)) (by omega)
            rw [e2, show (0 : Int32) = nI 0 from rfl, i_ne (by have := hsz.2.2.2 (by omega); omega) (by omega) (by omega), decide_eq_false c2, Bool.false_or, pk_sub hp]
            by_cases c3 : pre (E i) 4 - szN (E i (R i - 1)) < (L i + 1) / 2
            · rw [i_nle c3 (by omega), decide_eq_true c3]; rfl
            · rw [i_le (by omega) (by omega), decide_eq_false c3]; rfl
        · rw [i_lt (by omega) (by omega), decide_eq_false c, Bool.false_and]; rfl)
    (fun a => rfl) 6 0 1000 true rfl (by omega)
  unfold m_X5_needsRight
  rw [show ((1 : Int32), (0 : Int32)) = (bi true, nI 0) from rfl, h, q_k1, Bool.true_and]
  cases allB (p5 L R E) 0 6 <;> rfl
def p7 (f : Nat → Int32) (O : Nat → Nat) (E : Nat → Nat → Nat) (o : Nat) : Bool := decide (¬ f (42 + o) < nI (usg O E o)) && decide (¬ nI 32 < f (42 + o))
theorem s_quot2 {f : Nat → Int32} {N O L R : Nat → Nat} {E : Nat → Nat → Nat} (hS : ∀ s, s < 6 → Slo f s (N s) (O s) (L s) (R s) (E s)) : m_X0_quotasCoverUsage f = some (bi (allB (p7 f O E) 0 3)) := by
  have h := q_all (st := fun q => m_X0_quotasCoverUsage_L2 f q) (fun i => nI i) (p7 f O E) (0 : Int32) 3
    (by
      intro i hi
      show m_X0_quotasCoverUsage_L2 f (nI i) = _
      unfold m_X0_quotasCoverUsage_L2 p7
      rw [show (3 : Int32) = nI 3 from rfl, i_nle hi (by omega), s_quotaOf (by omega), Option.bind_some, s_usage hS (by omega), Option.bind_some, e_isIn, r_within, Option.bind_some, i_bi, show nI i + (1 : Int32) = nI (i + 1) from nI_1 i]
      rfl)
    rfl 3 0 1000 rfl (by omega)
  unfold m_X0_quotasCoverUsage
  rw [show (0 : Int32) = nI 0 from rfl, h]
  cases allB (p7 f O E) 0 3 <;> rfl
theorem s_quot5 {f : Nat → Int32} {N O L R : Nat → Nat} {E : Nat → Nat → Nat} (hS : ∀ s, s < 6 → Slo f s (N s) (O s) (L s) (R s) (E s)) : m_X5_quotasRight f = some (bi (allB (p7 f O E) 0 3)) := by
  have hO : ∀ s, s < 6 → ∀ k, k < 4 → okE (E s k) = true := fun s hs => (hS s hs).2.2.1
  have h := q_acc (st := fun q => m_X5_quotasRight_L4 f q.1 q.2) (fun i a => (a, nI i)) (p7 f O E) (fun a => a) 3
    (by
      intro o a ho
      have hs := q_for (st := fun q => m_X5_quotasRight_L14 f (nI o) q.1 q.2) (fun i (x : Int32) => (x, nI i)) 6 (fun i x => x = nI (sm (fun s => if O s = o then pre (E s) 4 else 0) i)) (fun r => r = nI (usg O E o))
        (by
          intro i x hi hx
          subst hx
          left
          refine ⟨_, ?_, rfl⟩
          obtain ⟨⟨h1, h2, h3, h4⟩, ⟨h5, h6, h7, h8⟩, h9, h10, h11⟩ := id (hS i hi)
          have hk := q_for (st := fun q => m_X5_quotasRight_L24 f (nI o) (nI i) q.1 q.2) (fun k (x : Int32) => (x, nI k)) 4 (fun k x => x = nI (sm (fun s => if O s = o then pre (E s) 4 else 0) i + (if N i = 0 then 0 else if O i = o then pre (E i) k else 0))) (fun r => r = nI (sm (fun s => if O s = o then pre (E s) 4 else 0) i + (if N i = 0 then 0 else if O i = o then pre (E i) 4 else 0)))
            (by
              intro k x hk hx
              subst hx
              left
              refine ⟨_, ?_, rfl⟩
              show m_X5_quotasRight_L24 f (nI o) (nI i) (nI _) (nI k) = _
              unfold m_X5_quotasRight_L24
              have e1 : g_ald 110 f (((7 : Int32) * nI i)) = some (nI (N i)) := by
                simp only [q_c0, q_c1, q_c2, q_c3, q_c4, q_c5, q_c6, q_c7, q_c31, q_c32, q_c42, q_c44, q_c45, q_c46, q_c63, q_c64, q_c99, q_c109, q_c110, q_c111, q_c112, q_c113, q_c192, q_c331, q_c332, nI_add, pk_mul]
                rw [q_ald (by omega) (by omega), h1]
              have e2 : g_ald 110 f ((((7 : Int32) * nI i) + (1 : Int32))) = some (nI (O i)) := by
                simp only [q_c0, q_c1, q_c2, q_c3, q_c4, q_c5, q_c6, q_c7, q_c31, q_c32, q_c42, q_c44, q_c45, q_c46, q_c63, q_c64, q_c99, q_c109, q_c110, q_c111, q_c112, q_c113, q_c192, q_c331, q_c332, nI_add, pk_mul]
                rw [q_ald (by omega) (by omega), h2]
              have e3 : g_ald 110 f ((((7 : Int32) * nI i) + (3 : Int32)) + nI k) = some (nI (E i k)) := by
                simp only [q_c0, q_c1, q_c2, q_c3, q_c4, q_c5, q_c6, q_c7, q_c31, q_c32, q_c42, q_c44, q_c45, q_c46, q_c63, q_c64, q_c99, q_c109, q_c110, q_c111, q_c112, q_c113, q_c192, q_c331, q_c332, nI_add, pk_mul]
                rw [q_ald (by omega) (by omega), h4 k hk]
              rw [show (4 : Int32) = nI 4 from rfl, i_nle hk (by omega), e1, Option.bind_some, show nI k + (1 : Int32) = nI (k + 1) from nI_1 k, show (0 : Int32) = nI 0 from rfl]
              by_cases c : N i = 0
              · rw [i_eq c, if_pos c, if_pos c]
              · rw [i_ne c (by omega) (by omega), if_neg c, if_neg c, e2, Option.bind_some]
                by_cases c2 : O i = o
                · rw [i_eq c2, if_pos c2, if_pos c2, e3, Option.bind_some, r_size _ (by have := ok_lt (h9 k hk); omega), Option.bind_some, nI_add, Nat.add_assoc]
                  rfl
                · rw [i_ne c2 (by omega) (by omega), if_neg c2, if_neg c2])
            (by intro x hx; subst hx; exact ⟨_, rfl, rfl⟩)
            4 0 (nI (sm (fun s => if O s = o then pre (E s) 4 else 0) i)) 1000 rfl (by
              have : (if N i = 0 then 0 else if O i = o then pre (E i) 0 else 0) = 0 := by
                rw [show pre (E i) 0 = 0 from rfl, ite_self, ite_self]
              rw [this]; rfl) (by omega)
          obtain ⟨r, k1, k2⟩ := hk
          show m_X5_quotasRight_L14 f (nI o) (nI _) (nI i) = _
          unfold m_X5_quotasRight_L14
          rw [show (6 : Int32) = nI 6 from rfl, i_nle hi (by omega), show (0 : Int32) = nI 0 from rfl, k1, q_k1, k2, show nI i + (1 : Int32) = nI (i + 1) from nI_1 i, sm]
          by_cases c : N i = 0
          · rw [if_pos c, (hS i hi).pre0 c, ite_self]
          · rw [if_neg c])
        (by intro x hx; subst hx; exact ⟨_, rfl, rfl⟩)
        6 0 (nI 0) 1000 rfl rfl (by omega)
      obtain ⟨r, s1, s2⟩ := hs
      show m_X5_quotasRight_L4 f (bi a) (nI o) = _
      unfold m_X5_quotasRight_L4 p7
      rw [show (3 : Int32) = nI 3 from rfl, i_nle ho (by omega), show ((0 : Int32), (0 : Int32)) = (nI 0, nI 0) from rfl, s1, q_k1, i_bi, s2, show nI o + (1 : Int32) = nI (o + 1) from nI_1 o]
      cases a with
      | false => rfl
      | true =>
        have e1 : g_ald 110 f ((42 : Int32) + nI o) = some (f (42 + o)) := by
          simp only [q_c0, q_c1, q_c2, q_c3, q_c4, q_c5, q_c6, q_c7, q_c31, q_c32, q_c42, q_c44, q_c45, q_c46, q_c63, q_c64, q_c99, q_c109, q_c110, q_c111, q_c112, q_c113, q_c192, q_c331, q_c332, nI_add, pk_mul]
          rw [q_ald (by omega) (by omega)]
        rw [if_pos rfl, Bool.true_and, e1, Option.bind_some, r_within, Option.bind_some, i_bi]
        rw [show (decide (¬ f (42 + o) < nI (usg O E o)) && decide (¬ (32 : Int32) < f (42 + o))) = (decide (¬ f (42 + o) < nI (usg O E o)) && decide (¬ nI 32 < f (42 + o))) from rfl]
        cases (decide (¬ f (42 + o) < nI (usg O E o)) && decide (¬ nI 32 < f (42 + o))) <;> rfl)
    (fun a => rfl) 3 0 1000 true rfl (by omega)
  unfold m_X5_quotasRight
  rw [show ((1 : Int32), (0 : Int32)) = (bi true, nI 0) from rfl, h, q_k1, Bool.true_and]
  cases allB (p7 f O E) 0 3 <;> rfl
