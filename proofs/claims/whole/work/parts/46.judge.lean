/-! what the checker says: the same in both; 0 means clean -/
theorem g_ald_cg {n : Nat} {f g : Nat → Int32} (h : ∀ j, j < n → f j = g j) : g_ald n f = g_ald n g := by
  funext i
  unfold g_ald
  by_cases c : ¬ (i < 0 ∨ n ≤ i.toNatClampNeg)
  · rw [if_pos c, if_pos c, h _ (Nat.lt_of_not_le (fun q => c (Or.inr q)))]
  · rw [if_neg c, if_neg c]
theorem x_cong {f g : Nat → Int32} (h : ∀ j, j < 110 → f j = g j) : m_X0_leastBroken f = m_X0_leastBroken g := by
  have e := g_ald_cg h
  simp only [m_X0_leastBroken, m_X0_slotsAreInRange, m_X0_slotsAreInRange_L2, m_X0_isAllZero, m_X0_isAllZero_L2, m_X0_namesDiffer, m_X0_namesDiffer_L2, m_X0_namesDiffer_L10, m_X0_extentsAreRuns, m_X0_extentsAreRuns_L2, m_X0_extentsAreRuns_L12, m_X0_runsAreApart, m_X0_runsAreApart_L4, m_X0_runsAreApart_L12, m_X0_runsFitLengths, m_X0_runsFitLengths_L2, m_X0_bitsOfAllRuns, m_X0_bitsOfAllRuns_L4, m_X0_bitsOfAllRuns_L12, m_X0_quotasCoverUsage, m_X0_quotasCoverUsage_L2, m_X0_looseWordsAreZero, m_X0_looseWordsAreZero_L4, m_X0_looseWordsAreZero_L26, m_X0_bitsOfWords, m_X0_bitsOfWords_L12, m_X2_nameOf, m_X2_ownerOf, m_X2_lengthOf, m_X2_extentOf, m_X2_quotaOf, m_X2_blocksOf, m_X2_blocksOf_L4, m_X2_runsOf, m_X2_runsOf_L4, m_X2_usageOf, m_X2_usageOf_L4, m_X2_wordIndex, m_X2_wordIndex_L5, e]
theorem p7_ok {f : Nat → Int32} {O : Nat → Nat} {E : Nat → Nat → Nat} {o : Nat} (hu : usg O E o < 2 ^ 31) (h : p7 f O E o = true) : f (42 + o) = nI (cn f (42 + o)) ∧ cn f (42 + o) ≤ 32 ∧ usg O E o ≤ cn f (42 + o) := by
  unfold p7 at h
  rw [Bool.and_eq_true, decide_eq_true_eq, decide_eq_true_eq] at h
  obtain ⟨h1, h2⟩ := h
  have h0 : ¬ f (42 + o) < nI 0 := by
    intro q
    apply h1
    rw [fa_lt, nI_toInt (by omega)] at q
    rw [fa_lt, nI_toInt hu]
    omega
  obtain ⟨j, j1, j2⟩ := q_rng (n := 32) (by omega) h0 h2
  have e : cn f (42 + o) = j := by unfold cn; rw [j2, nI_clamp (by omega)]
  rw [e]
  refine ⟨j2, j1, ?_⟩
  rw [j2] at h1
  rcases Nat.lt_or_ge j (usg O E o) with z | z
  · exact absurd (nI_lt z hu) h1
  · exact z
theorem p5_ok {L R : Nat → Nat} {E : Nat → Nat → Nat} {s : Nat} (hr : R s ≤ 4) (hz : ∀ k, k < 4 → (E s k ≠ 0 ↔ k < R s)) (h : p5 L R E s = true) : (L s + 1) / 2 ≤ pre (E s) 4 ∧ ∀ i, i + 1 = R s → pre (E s) i < (L s + 1) / 2 := by
  unfold p5 at h
  rw [Bool.and_eq_true, Bool.or_eq_true, decide_eq_true_eq, decide_eq_true_eq, decide_eq_true_eq] at h
  refine ⟨h.1, fun i hi => ?_⟩
  have hp := pre_r hr hz
  have h3 : pre (E s) (i + 1) = pre (E s) i + szN (E s i) := rfl
  rcases h.2 with q | q
  · omega
  · rw [hp, ← hi, show i + 1 - 1 = i by omega, h3] at q
    omega
theorem c2_ok {f : Nat → Int32} {N : Nat → Nat} {s t : Nat} (hN : ∀ s, s < 6 → f (7 * s) = nI (N s) ∧ N s ≤ 99) (h : allB (c2B f) 0 6 = true) (hs : s < 6) (ht : t < s) (h0 : N s ≠ 0) : N s ≠ N t := by
  have h1 := allB_0.mp h s hs
  unfold c2B at h1
  have h2 := allB_0.mp h1 t ht
  rw [Bool.or_eq_true, decide_eq_true_eq, decide_eq_true_eq] at h2
  obtain ⟨a1, a2⟩ := hN s hs
  obtain ⟨b1, b2⟩ := hN t (by omega)
  rw [a1, b1] at h2
  rcases h2 with q | q
  · exact absurd ((nI_eq (b := 0) (by omega) (by omega)).mp q) h0
  · intro z
    exact q (by rw [z])
theorem s_judge {da ho g ti be f : Nat → Int32} (hF : m_X5_fetch da ho = some g) (hfg : ∀ j, j < 110 → f j = g j) : ∃ (n : Nat) (ti' be' : Nat → Int32), n ≤ 8 ∧ m_X0_leastBroken f = some (nI n) ∧ m_X5_judge da ho ti be = some (nI n, g, ti', be') ∧ (n = 0 → Cl g) := by
  rw [x_cong hfg]
  unfold m_X0_leastBroken m_X5_judge
  rw [hF, Option.bind_some, s_slots2, s_slots5, Option.bind_some, Option.bind_some, i_bi, i_bi]
  cases c1 : allB (c1B g) 0 6 with
  | false => exact ⟨1, ti, be, by omega, rfl, rfl, fun q => absurd q (by decide)⟩
  | true =>
    rw [if_pos rfl, if_pos rfl, s_names2, s_names5, Option.bind_some, Option.bind_some, i_bi, i_bi]
    cases c2 : allB (c2B g) 0 6 with
    | false => exact ⟨2, ti, be, by omega, rfl, rfl, fun q => absurd q (by decide)⟩
    | true =>
      rw [if_pos rfl, if_pos rfl, s_ext2, s_ext5, Option.bind_some, Option.bind_some, i_bi, i_bi]
      cases c3 : allB (c3B g) 0 6 with
      | false => exact ⟨3, ti, be, by omega, rfl, rfl, fun q => absurd q (by decide)⟩
      | true =>
        obtain ⟨N, O, L, R, E, hS⟩ := c13_slo c1 c3
        obtain ⟨v4, a1, a2⟩ := s_apart2 hS
        obtain ⟨v4', ti', b1, b2, b3⟩ := s_apart5 hS ti
        have e4 : v4' = v4 := bool_eq (b2.trans a2.symm)
        subst e4
        rw [if_pos rfl, if_pos rfl, a1, b1, Option.bind_some, q_k2, i_bi, i_bi]
        cases c4 : v4' with
        | false => exact ⟨4, ti', be, by omega, rfl, rfl, fun q => absurd q (by decide)⟩
        | true =>
          rw [if_pos rfl, if_pos rfl, s_fit2 hS, s_needs5 hS, Option.bind_some, Option.bind_some, i_bi, i_bi]
          cases c5 : allB (p5 L R E) 0 6 with
          | false => exact ⟨5, ti', be, by omega, rfl, rfl, fun q => absurd q (by decide)⟩
          | true =>
            obtain ⟨M, m1, m2⟩ := s_allbits hS
            obtain ⟨M', m3, m4⟩ := s_map5 (f := g) b3
            have eM : M' = M := b_ext (fun i hi => (m4 i hi).trans (m2 i hi).symm)
            subst eM
            rw [if_pos rfl, if_pos rfl, show (45 : Int32) = nI 45 from rfl, q_ald (by omega) (by omega), Option.bind_some, m1, Option.bind_some, m3, Option.bind_some, i_bi]
            by_cases c6 : g 45 = M'
            · rw [if_pos c6, decide_eq_true c6.symm, if_pos rfl, s_quot2 hS, s_quot5 hS, Option.bind_some, Option.bind_some, i_bi, i_bi]
              cases c7 : allB (p7 g O E) 0 3 with
              | false => exact ⟨7, ti', be, by omega, rfl, rfl, fun q => absurd q (by decide)⟩
              | true =>
                obtain ⟨v8, d1, d2⟩ := s_loose2 hS
                obtain ⟨v8', be', d3, d4⟩ := s_loose5 hS be
                have e8 : v8' = v8 := bool_eq (d4.trans d2.symm)
                subst e8
                rw [if_pos rfl, if_pos rfl, d1, d3, Option.bind_some, q_k2, i_bi, i_bi]
                cases c8 : v8' with
                | false => exact ⟨8, ti', be', by omega, rfl, rfl, fun q => absurd q (by decide)⟩
                | true =>
                  refine ⟨0, ti', be', by omega, rfl, rfl, fun _ => ⟨N, O, L, R, fun o => cn g (42 + o), E, hS, ?_, a2.mp c4, ?_, ?_, ?_, d2.mp c8⟩⟩
                  · intro s hs t ht h0
                    exact c2_ok (fun s hs => ⟨(hS s hs).1.1, (hS s hs).2.1.1⟩) c2 hs ht h0
                  · intro s hs
                    exact p5_ok (hS s hs).2.1.2.2.2 (hS s hs).2.2.2.1 (allB_0.mp c5 s hs)
                  · rw [c6]; exact m2
                  · intro o ho
                    have hu := usg_lt (O := O) (E := E) (o := o) (fun s hs => (hS s hs).2.2.1)
                    exact p7_ok (by omega) (allB_0.mp c7 o (by omega))
            · rw [if_neg c6, decide_eq_false (fun q => c6 q.symm)]
              exact ⟨6, ti', be, by omega, rfl, rfl, fun q => absurd q (by decide)⟩
/-- clean: a matter of the first 110 cells -/
theorem Cl.cg {f g : Nat → Int32} (h : Cl f) (hg : ∀ j, j < 110 → g j = f j) : Cl g := by
  obtain ⟨N, O, L, R, Q, E, h1, h2, h3, h4, h5, h6, h7⟩ := h
  refine ⟨N, O, L, R, Q, E, fun s hs => (h1 s hs).same (fun i hi => hg _ (by omega)), h2, h3, h4, fun b hb => ?_, fun o ho => ?_, fun w hw => ?_⟩
  · rw [hg 45 (by omega)]; exact h5 b hb
  · rw [hg _ (by omega)]; exact h6 o ho
  · rw [hg _ (by omega)]; exact h7 w hw
