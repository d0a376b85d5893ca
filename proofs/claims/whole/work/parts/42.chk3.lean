/-! clause 3 -/
def okX (x : Int32) : Bool := decide (m_X5_isRun x = some 1)
theorem s_isRunX {x : Int32} (h : ¬ x = 0) : m_X3_isRun x = some (bi (okX x)) ∧ m_X5_isRun x = some (bi (okX x)) := by
  by_cases c : x < 1 ∨ (192 : Int32) < x
  · have := r_isRun_out c
    have e : okX x = false := by unfold okX; rw [this.2]; rfl
    rw [e]; exact this
  · have c1 : ¬ x < nI 0 := by
      intro q
      apply c
      left
      rw [fa_lt, nI_toInt (by omega)] at q
      rw [fa_lt]
      have : (1 : Int32).toInt = 1 := by decide
      omega
    obtain ⟨j, j1, j2⟩ := q_rng (n := 192) (by omega) c1 (fun q => c (Or.inr q))
    subst j2
    have h0 : 0 < j := by
      rcases Nat.eq_zero_or_pos j with q | q
      · subst q; exact absurd rfl h
      · exact q
    have h1 := r_isRun3 j (by omega) h0
    have h2 := r_isRun5 j (by omega) h0
    have e : okX (nI j) = okE j := by unfold okX; rw [h2]; cases okE j <;> rfl
    rw [e]; exact ⟨h1, h2⟩
/-- an extent cell that is one of a run -/
theorem okX_run {x : Int32} (h : ¬ x = 0) (h2 : okX x = true) : ∃ e, x = nI e ∧ okE e = true := by
  have h3 := (s_isRunX h).2
  rw [h2] at h3
  by_cases c : x < 1 ∨ (192 : Int32) < x
  · have := (r_isRun_out c).2
    rw [this] at h3
    cases h3
  · have c1 : ¬ x < nI 0 := by
      intro q
      apply c
      left
      rw [fa_lt, nI_toInt (by omega)] at q
      rw [fa_lt]
      have : (1 : Int32).toInt = 1 := by decide
      omega
    obtain ⟨j, j1, j2⟩ := q_rng (n := 192) (by omega) c1 (fun q => c (Or.inr q))
    subst j2
    have h0 : 0 < j := by
      rcases Nat.eq_zero_or_pos j with q | q
      · subst q; exact absurd rfl h
      · exact q
    refine ⟨j, rfl, ?_⟩
    have h4 := r_isRun5 j (by omega) h0
    rw [h4] at h3
    cases h5 : okE j with
    | true => rfl
    | false => rw [h5] at h3; exact absurd h3 (by decide)
def exZ (f : Nat → Int32) (s k : Nat) : Bool := decide (f (7 * s + 3 + k) = 0)
def pc3 (f : Nat → Int32) (s k : Nat) : Bool := exZ f s k || (allB (fun j => !exZ f s j) 0 k && okX (f (7 * s + 3 + k)))
def pm3 (f : Nat → Int32) (s k : Nat) : Bool := exZ f s k || (okX (f (7 * s + 3 + k)) && (decide (k = 0) || !exZ f s (k - 1)))
theorem pc_pm {f : Nat → Int32} {s : Nat} : allB (pc3 f s) 0 4 = allB (pm3 f s) 0 4 := by
  apply bool_eq
  rw [allB_0, allB_0]
  constructor
  · intro h k hk
    have := h k hk
    unfold pc3 at this
    unfold pm3
    cases hz : exZ f s k with
    | true => rfl
    | false =>
      rw [hz, Bool.false_or, Bool.and_eq_true, allB_0] at this
      rw [Bool.false_or, Bool.and_eq_true]
      refine ⟨this.2, ?_⟩
      rcases Nat.eq_zero_or_pos k with q | q
      · rw [decide_eq_true q, Bool.true_or]
      · rw [this.1 (k - 1) (by omega), Bool.or_true]
  · intro h k hk
    have g : ∀ d k, k + d < 4 → exZ f s (k + d) = false → exZ f s k = false := by
      intro d
      induction d with
      | zero => intro k _ q; exact q
      | succ d ih =>
        intro k hk q
        have := h (k + (d + 1)) hk
        unfold pm3 at this
        rw [q, Bool.false_or, Bool.and_eq_true, decide_eq_false (by omega), Bool.false_or] at this
        exact ih k (by omega) (by have := this.2; rw [show k + (d + 1) - 1 = k + d by omega] at this; simpa using this)
    unfold pc3
    cases hz : exZ f s k with
    | true => rfl
    | false =>
      have h1 := h k hk
      unfold pm3 at h1
      rw [hz, Bool.false_or, Bool.and_eq_true] at h1
      rw [Bool.false_or, Bool.and_eq_true, allB_0]
      refine ⟨fun j hj => ?_, h1.1⟩
      have := g (k - j) j (by omega) (by rw [show j + (k - j) = k by omega]; exact hz)
      rw [this]; rfl
theorem allB_last {p : Nat → Bool} : ∀ {n i : Nat}, allB p i (n + 1) = (allB p i n && p (i + n))
  | 0, i => by rw [allB, allB, allB, Bool.and_true, Bool.true_and]; rfl
  | n + 1, i => by
    rw [allB, allB_last, allB, Bool.and_assoc, show i + 1 + n = i + (n + 1) by omega]
theorem s_er2 {f : Nat → Int32} {s : Nat} (hs : s < 6) : g_loop (fun q => m_X0_extentsAreRuns_L12 f (nI s) q.1 q.2) 1000 ((0 : Int32), nI 0) = some (if allB (pc3 f s) 0 4 = true then .inr () else .inl 0) := by
  refine q_all (st := fun q => m_X0_extentsAreRuns_L12 f (nI s) q.1 q.2) (fun i => (bi (!(allB (fun j => !exZ f s j) 0 i)), nI i)) (pc3 f s) (0 : Int32) 4 ?_ rfl 4 0 1000 rfl (by omega)
  intro i hi
  show m_X0_extentsAreRuns_L12 f (nI s) (bi (!(allB (fun j => !exZ f s j) 0 i))) (nI i) = _
  unfold m_X0_extentsAreRuns_L12 pc3
  rw [show (4 : Int32) = nI 4 from rfl, i_nle hi (by omega), e_extentOf, s_extentOf hs hi, Option.bind_some, show nI i + (1 : Int32) = nI (i + 1) from nI_1 i, allB_last, Nat.zero_add]
  by_cases c : f (7 * s + 3 + i) = 0
  · have e : exZ f s i = true := decide_eq_true c
    rw [if_pos c, e, Bool.true_or, if_pos rfl, Bool.not_true, Bool.and_false]
    rfl
  · have e : exZ f s i = false := decide_eq_false c
    rw [if_neg c, e, Bool.false_or, i_bi, Bool.not_false, Bool.and_true]
    cases allB (fun j => !exZ f s j) 0 i with
    | false => rfl
    | true =>
      rw [if_neg (by decide), (s_isRunX c).1, Option.bind_some, i_bi, Bool.true_and]
theorem s_er5 {f : Nat → Int32} {s : Nat} (hs : s < 6) : g_loop (fun q => m_X5_extentsRight_L10 f (nI s) q) 1000 (nI 0) = some (if allB (pm3 f s) 0 4 = true then .inr () else .inl 0) := by
  refine q_all (st := fun q => m_X5_extentsRight_L10 f (nI s) q) (fun i => nI i) (pm3 f s) (0 : Int32) 4 ?_ rfl 4 0 1000 rfl (by omega)
  intro i hi
  show m_X5_extentsRight_L10 f (nI s) (nI i) = _
  unfold m_X5_extentsRight_L10 pm3
  simp only [q_c0, q_c1, q_c2, q_c3, q_c4, q_c5, q_c6, q_c7, q_c31, q_c32, q_c42, q_c44, q_c45, q_c46, q_c63, q_c64, q_c99, q_c109, q_c110, q_c111, q_c112, q_c113, q_c192, q_c331, q_c332, nI_add, pk_mul]
  rw [i_nle hi (by omega), q_ald (by omega) (by omega), Option.bind_some]
  by_cases c : f (7 * s + 3 + i) = nI 0
  · have e : exZ f s i = true := decide_eq_true c
    rw [if_pos c, e, Bool.true_or, if_pos rfl]
  · have e : exZ f s i = false := decide_eq_false c
    rw [if_neg c, e, Bool.false_or, (s_isRunX c).2, Option.bind_some]
    show (if bi _ = (0 : Int32) then _ else _) = _
    rw [i_bi]
    cases okX (f (7 * s + 3 + i)) with
    | false => rfl
    | true =>
      rw [if_pos rfl, Bool.true_and]
      by_cases c2 : i = 0
      · rw [i_le (by omega) (by omega), decide_eq_true c2, Bool.true_or, if_pos rfl]
      · rw [i_nle (by omega) (by omega), decide_eq_false c2, Bool.false_or, q_ald (by omega) (by omega), Option.bind_some, show 7 * s + 2 + i = 7 * s + 3 + (i - 1) by omega]
        by_cases c3 : f (7 * s + 3 + (i - 1)) = nI 0
        · have e3 : exZ f s (i - 1) = true := decide_eq_true c3
          rw [if_pos c3, e3]; rfl
        · have e3 : exZ f s (i - 1) = false := decide_eq_false c3
          rw [if_neg c3, e3]; rfl
def c3B (f : Nat → Int32) (s : Nat) : Bool := allB (pc3 f s) 0 4
theorem s_ext2 (f : Nat → Int32) : m_X0_extentsAreRuns f = some (bi (allB (c3B f) 0 6)) := by
  unfold m_X0_extentsAreRuns
  have h := q_all (st := fun q => m_X0_extentsAreRuns_L2 f q) (fun i => nI i) (c3B f) (0 : Int32) 6
    (by
      intro i hi
      show m_X0_extentsAreRuns_L2 f (nI i) = _
      unfold m_X0_extentsAreRuns_L2 c3B
      rw [show (6 : Int32) = nI 6 from rfl, i_nle hi (by omega), show ((0 : Int32), (0 : Int32)) = ((0 : Int32), nI 0) from rfl, s_er2 hi, show nI i + (1 : Int32) = nI (i + 1) from nI_1 i]
      cases allB (pc3 f i) 0 4 <;> rfl)
    rfl 6 0 1000 rfl (by omega)
  rw [show (0 : Int32) = nI 0 from rfl, h]
  cases allB (c3B f) 0 6 <;> rfl
theorem s_ext5 (f : Nat → Int32) : m_X5_extentsRight f = some (bi (allB (c3B f) 0 6)) := by
  unfold m_X5_extentsRight
  have h := q_all (st := fun q => m_X5_extentsRight_L2 f q) (fun i => nI i) (c3B f) (0 : Int32) 6
    (by
      intro i hi
      show m_X5_extentsRight_L2 f (nI i) = _
      unfold m_X5_extentsRight_L2 c3B
      rw [show (6 : Int32) = nI 6 from rfl, i_nle hi (by omega), show (0 : Int32) = nI 0 from rfl, s_er5 hi, pc_pm, show nI i + (1 : Int32) = nI (i + 1) from nI_1 i]
      cases allB (pm3 f i) 0 4 <;> rfl)
    rfl 6 0 1000 rfl (by omega)
  rw [show (0 : Int32) = nI 0 from rfl, h]
  cases allB (c3B f) 0 6 <;> rfl
/-- what the first and the third clause give: the slots' profile -/
theorem rngB_iff {x : Int32} {n : Nat} (hn : n < 2 ^ 31) (h : rngB x n = true) : ∃ j, j ≤ n ∧ x = nI j := by
  unfold rngB at h
  rw [Bool.and_eq_true, decide_eq_true_eq, decide_eq_true_eq] at h
  exact q_rng hn h.1 h.2
theorem c13_slo {f : Nat → Int32} (h1 : allB (c1B f) 0 6 = true) (h3 : allB (c3B f) 0 6 = true) : ∃ (N O L R : Nat → Nat) (E : Nat → Nat → Nat), ∀ s, s < 6 → Slo f s (N s) (O s) (L s) (R s) (E s) := by
  have g : ∀ s, s < 6 → ∃ n o l r E, Slo f s n o l r E := by
    intro s hs
    have a1 := allB_0.mp h1 s hs
    have a3 := allB_0.mp h3 s hs
    unfold c1B at a1
    rw [Bool.and_eq_true, Bool.and_eq_true, Bool.and_eq_true] at a1
    obtain ⟨b1, b2, b3, b4⟩ := a1
    obtain ⟨n, n1, n2⟩ := rngB_iff (by omega) b1
    obtain ⟨o, o1, o2⟩ := rngB_iff (by omega) b2
    obtain ⟨l, l1, l2⟩ := rngB_iff (by omega) b3
    unfold c3B at a3
    have a5 := allB_0.mp a3
    have e1 : ∀ k, k < 4 → ∃ e, f (7 * s + 3 + k) = nI e ∧ okE e = true := by
      intro k hk
      have := a5 k hk
      unfold pc3 at this
      by_cases c : f (7 * s + 3 + k) = 0
      · exact ⟨0, c, rfl⟩
      · have e : exZ f s k = false := decide_eq_false c
        rw [e, Bool.false_or, Bool.and_eq_true] at this
        exact okX_run c this.2
    have e2 : ∀ k, k < 4 → f (7 * s + 3 + k) = nI (cn f (7 * s + 3 + k)) ∧ okE (cn f (7 * s + 3 + k)) = true := by
      intro k hk
      obtain ⟨e, q1, q2⟩ := e1 k hk
      have : cn f (7 * s + 3 + k) = e := by
        unfold cn
        rw [q1, nI_clamp (by have := ok_lt q2; omega)]
      rw [this]; exact ⟨q1, q2⟩
    have e0 : ∀ k, k < 4 → (cn f (7 * s + 3 + k) = 0 ↔ exZ f s k = true) := by
      intro k hk
      unfold exZ
      rw [decide_eq_true_eq]
      constructor
      · intro q
        rw [(e2 k hk).1, q]; rfl
      · intro q
        unfold cn
        rw [q]; rfl
    have e3 : ∃ r, r ≤ 4 ∧ ∀ k, k < 4 → (cn f (7 * s + 3 + k) ≠ 0 ↔ k < r) := by
      have up : ∀ j k, j < k → k < 4 → exZ f s k = false → exZ f s j = false := by
        intro j k hj hk q
        have := a5 k hk
        unfold pc3 at this
        rw [q, Bool.false_or, Bool.and_eq_true, allB_0] at this
        have := this.1 j hj
        simpa using this
      have key : ∀ n, n ≤ 4 → ∃ r, r ≤ n ∧ (∀ k, k < r → exZ f s k = false) ∧ (r < n → exZ f s r = true) := by
        intro n
        induction n with
        | zero => intro _; exact ⟨0, Nat.le_refl _, fun k hk => absurd hk (Nat.not_lt_zero _), fun q => absurd q (Nat.lt_irrefl _)⟩
        | succ n ih =>
          intro hn
          obtain ⟨r, r1, r2, r3⟩ := ih (by omega)
          rcases Nat.lt_or_ge r n with q | q
          · exact ⟨r, by omega, r2, fun _ => r3 q⟩
          · have : r = n := by omega
            subst this
            cases c : exZ f s r with
            | true => exact ⟨r, by omega, r2, fun _ => c⟩
            | false =>
              refine ⟨r + 1, Nat.le_refl _, fun k hk => ?_, fun q => absurd q (Nat.lt_irrefl _)⟩
              rcases Nat.lt_or_ge k r with z | z
              · exact r2 k z
              · have : k = r := by omega
                subst this; exact c
      obtain ⟨r, r1, r2, r3⟩ := key 4 (Nat.le_refl _)
      refine ⟨r, r1, fun k hk => ?_⟩
      rw [ne_eq, e0 k hk]
      constructor
      · intro q
        rw [Bool.not_eq_true] at q
        rcases Nat.lt_or_ge k r with z | z
        · exact z
        · rcases Nat.lt_or_ge r k with y | y
          · have := up r k y hk q
            rw [r3 (by omega)] at this; cases this
          · have : k = r := by omega
            subst this
            rw [r3 hk] at q; cases q
      · intro q
        rw [r2 k q]; decide
    obtain ⟨r, r1, r2⟩ := e3
    refine ⟨n, o, l, r, fun k => cn f (7 * s + 3 + k), ⟨n2, o2, l2, fun k hk => (e2 k hk).1⟩, ⟨n1, o1, l1, r1⟩, fun k hk => (e2 k hk).2, r2, fun hn0 => ?_⟩
    subst hn0
    rw [n2, decide_eq_false (fun q => q rfl), Bool.false_or, allB_0] at b4
    have z : ∀ i, i < 7 → f (7 * s + i) = 0 := by
      intro i hi
      have := b4 i hi
      unfold zB at this
      rw [decide_eq_true_eq] at this
      exact this
    have z1 := z 1 (by omega)
    have z2 := z 2 (by omega)
    rw [o2] at z1
    rw [l2] at z2
    refine ⟨(nI_eq (by omega) (by omega)).mp z1, (nI_eq (by omega) (by omega)).mp z2, ?_⟩
    rcases Nat.eq_zero_or_pos r with q | q
    · exact q
    · have z3 := z 3 (by omega)
      have := (r2 0 (by omega)).mpr q
      exfalso
      apply this
      rw [e0 0 (by omega)]
      exact decide_eq_true z3
  have ch : ∃ F : Nat → Nat × Nat × Nat × Nat × (Nat → Nat), ∀ s, s < 6 → Slo f s (F s).1 (F s).2.1 (F s).2.2.1 (F s).2.2.2.1 (F s).2.2.2.2 := by
    have : ∀ s, ∃ q : Nat × Nat × Nat × Nat × (Nat → Nat), s < 6 → Slo f s q.1 q.2.1 q.2.2.1 q.2.2.2.1 q.2.2.2.2 := by
      intro s
      by_cases hs : s < 6
      · obtain ⟨n, o, l, r, E, h⟩ := g s hs
        exact ⟨(n, o, l, r, E), fun _ => h⟩
      · exact ⟨(0, 0, 0, 0, fun _ => 0), fun q => absurd q hs⟩
    exact ⟨fun s => (this s).choose, fun s hs => (this s).choose_spec hs⟩
  obtain ⟨F, hF⟩ := ch
  exact ⟨fun s => (F s).1, fun s => (F s).2.1, fun s => (F s).2.2.1, fun s => (F s).2.2.2.1, fun s => (F s).2.2.2.2, hF⟩
