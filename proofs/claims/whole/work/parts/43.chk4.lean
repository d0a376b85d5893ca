/-! clauses 4 and 6 -/
def pcv (E : Nat → Nat → Nat) (s k b : Nat) : Nat := sm (fun t => cin (E t) 4 b) s + cin (E s) k b
theorem pcv_k {E : Nat → Nat → Nat} {s k b : Nat} : pcv E s (k + 1) b = pcv E s k b + (if inE (E s k) b = true then 1 else 0) := (Nat.add_assoc _ _ _).symm
theorem pcv_s {E : Nat → Nat → Nat} {s b : Nat} : pcv E (s + 1) 0 b = pcv E s 4 b := rfl
theorem pcv_6 {E : Nat → Nat → Nat} {b : Nat} : pcv E 6 0 b = cov E b := rfl
theorem pcv_le {E : Nat → Nat → Nat} {s k b : Nat} (hs : s < 6) (hk : k ≤ 4) : pcv E s k b ≤ cov E b := by
  have h1 : sm (fun t => cin (E t) 4 b) (s + 1) ≤ cov E b := sm_mono (by omega)
  have h2 : cin (E s) k b ≤ cin (E s) 4 b := sm_mono hk
  have h3 : sm (fun t => cin (E t) 4 b) (s + 1) = sm (fun t => cin (E t) 4 b) s + cin (E s) 4 b := rfl
  unfold pcv
  omega
theorem cov_lt {E : Nat → Nat → Nat} {b : Nat} : cov E b ≤ 24 := by
  have h1 : ∀ s, cin (E s) 4 b ≤ 4 := fun s => by
    have := sm_le (g := fun k => if inE (E s k) b = true then 1 else 0) (c := 1) (n := 4) (fun k _ => by by_cases c : inE (E s k) b = true <;> simp [c])
    exact this
  exact sm_le (g := fun s => cin (E s) 4 b) (c := 4) (n := 6) (fun s _ => h1 s)
theorem b_ne {x : Int32} (h : ¬ x = 0) : ∃ b, b < 32 ∧ bt x b = true := by
  refine Classical.byContradiction (fun q => h (b_ext (fun i hi => ?_)))
  rw [b_0]
  cases c : bt x i with
  | false => rfl
  | true => exact absurd ⟨i, hi, c⟩ q
theorem s_ra_in {f : Nat → Int32} {E : Nat → Nat → Nat} {s : Nat} (hs : s < 6) (hE : ∀ k, k < 4 → f (7 * s + 3 + k) = nI (E s k)) (hO : ∀ k, k < 4 → okE (E s k) = true) {y : Int32} (hy : ∀ b, b < 32 → pcv E s 0 b ≤ 1 ∧ bt y b = decide (pcv E s 0 b ≠ 0)) :
    ∃ R, g_loop (fun q => m_X0_runsAreApart_L12 f (nI s) q.1 q.2) 1000 (y, nI 0) = some R ∧ ((∃ y', R = .inr y' ∧ ∀ b, b < 32 → pcv E s 4 b ≤ 1 ∧ bt y' b = decide (pcv E s 4 b ≠ 0)) ∨ (R = .inl 0 ∧ ∃ b, b < 32 ∧ 1 < cov E b)) := by
  refine q_for (st := fun q => m_X0_runsAreApart_L12 f (nI s) q.1 q.2) (fun i (a : Int32) => (a, nI i)) 4 (fun i a => ∀ b, b < 32 → pcv E s i b ≤ 1 ∧ bt a b = decide (pcv E s i b ≠ 0)) (fun R => ((∃ y', R = .inr y' ∧ ∀ b, b < 32 → pcv E s 4 b ≤ 1 ∧ bt y' b = decide (pcv E s 4 b ≠ 0)) ∨ (R = .inl 0 ∧ ∃ b, b < 32 ∧ 1 < cov E b))) ?_ ?_ 4 0 y 1000 rfl hy (by omega)
  · intro i a hi ha
    have ho := hO i hi
    have h1 := ok_lt ho
    have e : m_X0_runsAreApart_L12 f (nI s) a (nI i) = if (a &&& mbE (E s i)) = 0 then some (.inl (a ||| mbE (E s i), nI (i + 1))) else some (.inr (.inl 0)) := by
      unfold m_X0_runsAreApart_L12
      rw [show (4 : Int32) = nI 4 from rfl, i_nle hi (by omega), e_extentOf, s_extentOf hs hi, Option.bind_some, hE i hi, r_bitsOf _ h1 ho, Option.bind_some, show nI i + (1 : Int32) = nI (i + 1) from nI_1 i]
    show (∃ a' : Int32, m_X0_runsAreApart_L12 f (nI s) a (nI i) = some (.inl (a', nI (i + 1))) ∧ _) ∨ ∃ r, m_X0_runsAreApart_L12 f (nI s) a (nI i) = some (.inr r) ∧ _
    rw [e]
    by_cases c : (a &&& mbE (E s i)) = 0
    · rw [if_pos c]
      left
      refine ⟨_, rfl, fun b hb => ?_⟩
      obtain ⟨g1, g2⟩ := ha b hb
      have hbit : bt (a &&& mbE (E s i)) b = bt 0 b := by rw [c]
      rw [b_and, b_0, r_bit _ h1 ho b hb] at hbit
      rw [pcv_k, b_or, r_bit _ h1 ho b hb, g2]
      by_cases ci : inE (E s i) b = true
      · rw [ci, Bool.and_true] at hbit
        rw [g2] at hbit
        have : pcv E s i b = 0 := by
          rcases Nat.eq_zero_or_pos (pcv E s i b) with z | z
          · exact z
          · rw [decide_eq_true (by omega)] at hbit; cases hbit
        rw [ci, if_pos rfl, this]
        exact ⟨by omega, rfl⟩
      · rw [Bool.not_eq_true] at ci
        rw [ci, if_neg (by decide), Bool.or_false]
        exact ⟨g1, rfl⟩
    · rw [if_neg c]
      right
      refine ⟨_, rfl, Or.inr ⟨rfl, ?_⟩⟩
      obtain ⟨b, hb, h2⟩ := b_ne c
      rw [b_and, r_bit _ h1 ho b hb, Bool.and_eq_true] at h2
      obtain ⟨g1, g2⟩ := ha b hb
      rw [g2, decide_eq_true_eq] at h2
      have := pcv_le (E := E) (s := s) (k := i + 1) (b := b) hs (by omega)
      rw [pcv_k, if_pos h2.2] at this
      exact ⟨b, hb, by omega⟩
  · intro a ha
    refine ⟨.inr a, ?_, Or.inl ⟨a, rfl, ha⟩⟩
    show m_X0_runsAreApart_L12 f (nI s) a (nI 4) = _
    unfold m_X0_runsAreApart_L12
    rw [show (4 : Int32) = nI 4 from rfl, i_le (Nat.le_refl _) (by omega)]
theorem s_apart2 {f : Nat → Int32} {N O L R : Nat → Nat} {E : Nat → Nat → Nat} (hS : ∀ s, s < 6 → Slo f s (N s) (O s) (L s) (R s) (E s)) : ∃ v : Bool, m_X0_runsAreApart f = some (bi v) ∧ (v = true ↔ ∀ b, b < 32 → cov E b ≤ 1) := by
  have h := q_for (st := fun q => m_X0_runsAreApart_L4 f q.1 q.2) (fun i (a : Int32) => (a, nI i)) 6 (fun i a => ∀ b, b < 32 → pcv E i 0 b ≤ 1 ∧ bt a b = decide (pcv E i 0 b ≠ 0)) (fun r => (r = .inr () ∧ ∀ b, b < 32 → cov E b ≤ 1) ∨ (r = .inl 0 ∧ ∃ b, b < 32 ∧ 1 < cov E b))
    (by
      intro i a hi ha
      obtain ⟨⟨-, -, -, h4⟩, -, h5, -⟩ := hS i hi
      obtain ⟨X, x1, x2⟩ := s_ra_in (f := f) (E := E) hi h4 h5 ha
      have e : m_X0_runsAreApart_L4 f a (nI i) = (some X).bind (g_sk (fun v => some (.inr (.inl v))) (g_k1 fun z7 => some (.inl (z7, nI (i + 1))))) := by
        unfold m_X0_runsAreApart_L4
        rw [show (6 : Int32) = nI 6 from rfl, i_nle hi (by omega), show (0 : Int32) = nI 0 from rfl, x1, show nI i + (1 : Int32) = nI (i + 1) from nI_1 i]
      show (∃ a' : Int32, m_X0_runsAreApart_L4 f a (nI i) = some (.inl (a', nI (i + 1))) ∧ _) ∨ ∃ r, m_X0_runsAreApart_L4 f a (nI i) = some (.inr r) ∧ _
      rw [e]
      rcases x2 with ⟨y', y1, y2⟩ | ⟨y1, y2⟩
      · rw [y1]; left; exact ⟨y', rfl, y2⟩
      · rw [y1]; right; exact ⟨_, rfl, Or.inr ⟨rfl, y2⟩⟩)
    (by
      intro a ha
      exact ⟨.inr (), rfl, Or.inl ⟨rfl, fun b hb => (ha b hb).1⟩⟩)
    6 0 (0 : Int32) 1000 rfl (fun b hb => ⟨Nat.zero_le _, by rw [b_0]; rfl⟩) (by omega)
  obtain ⟨r, h1, h2⟩ := h
  unfold m_X0_runsAreApart
  rw [show ((0 : Int32), (0 : Int32)) = ((0 : Int32), nI 0) from rfl, h1]
  rcases h2 with ⟨h2, h3⟩ | ⟨h2, b, h3, h4⟩
  · rw [h2]; exact ⟨true, rfl, fun _ => h3, fun _ => rfl⟩
  · rw [h2]; exact ⟨false, rfl, fun q => (by cases q), fun q => absurd (q b h3) (by omega)⟩
theorem s_allbits {f : Nat → Int32} {N O L R : Nat → Nat} {E : Nat → Nat → Nat} (hS : ∀ s, s < 6 → Slo f s (N s) (O s) (L s) (R s) (E s)) : ∃ M, m_X0_bitsOfAllRuns f = some M ∧ ∀ b, b < 32 → bt M b = decide (cov E b ≠ 0) := by
  have h := q_for (st := fun q => m_X0_bitsOfAllRuns_L4 f q.1 q.2) (fun i (a : Int32) => (a, nI i)) 6 (fun i a => ∀ b, b < 32 → bt a b = decide (pcv E i 0 b ≠ 0)) (fun r => ∀ b, b < 32 → bt r b = decide (cov E b ≠ 0))
    (by
      intro i a hi ha
      obtain ⟨⟨-, -, -, h4⟩, -, h5, -⟩ := hS i hi
      obtain ⟨y, x1, x2⟩ := q_for (st := fun q => m_X0_bitsOfAllRuns_L12 f (nI i) q.1 q.2) (fun k (a : Int32) => (a, nI k)) 4 (fun k a => ∀ b, b < 32 → bt a b = decide (pcv E i k b ≠ 0)) (fun r => ∀ b, b < 32 → bt r b = decide (pcv E i 4 b ≠ 0))
        (by
          intro k a hk ha
          have ho := h5 k hk
          have h1 := ok_lt ho
          left
          refine ⟨a ||| mbE (E i k), ?_, fun b hb => ?_⟩
          · show m_X0_bitsOfAllRuns_L12 f (nI i) a (nI k) = _
            unfold m_X0_bitsOfAllRuns_L12
            rw [show (4 : Int32) = nI 4 from rfl, i_nle hk (by omega), e_extentOf, s_extentOf hi hk, Option.bind_some, h4 k hk, r_bitsOf _ h1 ho, Option.bind_some, show nI k + (1 : Int32) = nI (k + 1) from nI_1 k]
          · rw [b_or, r_bit _ h1 ho b hb, ha b hb, pcv_k]
            by_cases ci : inE (E i k) b = true
            · rw [ci, if_pos rfl, Bool.or_true]
              exact (decide_eq_true (by omega)).symm
            · rw [Bool.not_eq_true] at ci
              rw [ci, if_neg (by decide), Bool.or_false]
              rfl)
        (by intro a ha; exact ⟨a, rfl, ha⟩)
        4 0 a 1000 rfl ha (by omega)
      left
      refine ⟨y, ?_, x2⟩
      show m_X0_bitsOfAllRuns_L4 f a (nI i) = _
      unfold m_X0_bitsOfAllRuns_L4
      rw [show (6 : Int32) = nI 6 from rfl, i_nle hi (by omega), show (0 : Int32) = nI 0 from rfl, x1, show nI i + (1 : Int32) = nI (i + 1) from nI_1 i]
      rfl)
    (by intro a ha; exact ⟨a, rfl, ha⟩)
    6 0 (0 : Int32) 1000 rfl (fun b hb => by rw [b_0]; rfl) (by omega)
  obtain ⟨M, h1, h2⟩ := h
  refine ⟨M, ?_, h2⟩
  unfold m_X0_bitsOfAllRuns
  rw [show ((0 : Int32), (0 : Int32)) = ((0 : Int32), nI 0) from rfl, h1]
  rfl
theorem s_in {e b : Nat} (he : okE e = true) (hb : b < 32) : (if nI e = (0 : Int32) then some (0 : Int32) else ((m_X5_start (nI e)).bind fun x31 => (if nI b < x31 then some (0 : Int32) else ((m_X5_start (nI e)).bind fun x33 => ((m_X5_size (nI e)).bind fun x34 => (if (x33 + x34) ≤ nI b then some (0 : Int32) else some (1 : Int32))))))) = some (bi (inE e b)) := by
  have h1 := ok_lt he
  have h2 := r_ok e h1 he
  unfold inE
  rcases Nat.eq_zero_or_pos e with q | q
  · subst q; rfl
  · rw [show (0 : Int32) = nI 0 from rfl, i_ne (by omega) (by omega) (by omega), r_start _ (by omega) q, Option.bind_some, decide_eq_true (by omega : e ≠ 0), Bool.true_and]
    by_cases c1 : b < stN e
    · rw [i_lt c1 (by omega), decide_eq_false (by omega), Bool.false_and]; rfl
    · rw [i_nlt (by omega) (by omega), Option.bind_some, r_size _ (by omega), Option.bind_some, nI_add, decide_eq_true (by omega), Bool.true_and]
      by_cases c2 : b < stN e + szN e
      · rw [i_nle c2 (by omega), decide_eq_true c2]; rfl
      · rw [i_le (by omega) (by omega), decide_eq_false c2]; rfl
theorem s_bl28 {f : Nat → Int32} {E : Nat → Nat → Nat} {s b : Nat} (hs : s < 6) (hb : b < 32) (hE : ∀ k, k < 4 → f (7 * s + 3 + k) = nI (E s k)) (hO : ∀ k, k < 4 → okE (E s k) = true) (t0 : Nat → Int32) (ht : t0 b = nI (pcv E s 0 b)) :
    ∃ t, g_loop (fun q => m_X5_blocksRight_L28 f (nI b) (nI s) q.1 q.2) 1000 (nI 0, t0) = some t ∧ t b = nI (pcv E s 4 b) ∧ ∀ j, j ≠ b → t j = t0 j := by
  refine q_for (st := fun q => m_X5_blocksRight_L28 f (nI b) (nI s) q.1 q.2) (fun i (a : Nat → Int32) => (nI i, a)) 4 (fun i a => a b = nI (pcv E s i b) ∧ ∀ j, j ≠ b → a j = t0 j) (fun t => t b = nI (pcv E s 4 b) ∧ ∀ j, j ≠ b → t j = t0 j) ?_ ?_ 4 0 t0 1000 rfl ⟨ht, fun _ _ => rfl⟩ (by omega)
  · intro i a hi ha
    left
    have ho := hO i hi
    refine ⟨upd a b (nI (pcv E s (i + 1) b)), ?_, q_ul, fun j hj => by rw [q_un hj]; exact ha.2 j hj⟩
    show m_X5_blocksRight_L28 f (nI b) (nI s) (nI i) a = _
    unfold m_X5_blocksRight_L28
    have e1 : g_ald 110 f ((((7 : Int32) * nI s) + (3 : Int32)) + nI i) = some (nI (E s i)) := by
      simp only [q_c0, q_c1, q_c2, q_c3, q_c4, q_c5, q_c6, q_c7, q_c31, q_c32, q_c42, q_c44, q_c45, q_c46, q_c63, q_c64, q_c99, q_c109, q_c110, q_c111, q_c112, q_c113, q_c192, q_c331, q_c332, nI_add, pk_mul]
      rw [q_ald (by omega) (by omega), hE i hi]
    rw [show (4 : Int32) = nI 4 from rfl, i_nle hi (by omega), e1, Option.bind_some, s_in ho hb, q_k1, i_bi, q_ald hb (by omega), Option.bind_some, Option.bind_some, ha.1, q_ast hb (by omega), Option.bind_some, show nI i + (1 : Int32) = nI (i + 1) from nI_1 i, pcv_k]
    cases inE (E s i) b with
    | false => rw [if_neg (by decide), if_neg (by decide), q_ast hb (by omega), Option.bind_some]; rfl
    | true => rw [if_pos rfl, if_pos rfl, show nI (pcv E s i b) + (1 : Int32) = nI (pcv E s i b + 1) from nI_1 _]
  · intro a ha
    refine ⟨a, ?_, ha⟩
    show m_X5_blocksRight_L28 f (nI b) (nI s) (nI 4) a = _
    unfold m_X5_blocksRight_L28
    rw [show (4 : Int32) = nI 4 from rfl, i_le (Nat.le_refl _) (by omega)]
theorem s_bl19 {f : Nat → Int32} {N O L R : Nat → Nat} {E : Nat → Nat → Nat} {b : Nat} (hS : ∀ s, s < 6 → Slo f s (N s) (O s) (L s) (R s) (E s)) (hb : b < 32) (t0 : Nat → Int32) (ht : t0 b = nI 0) :
    ∃ t, g_loop (fun q => m_X5_blocksRight_L19 f (nI b) q.1 q.2) 1000 (nI 0, t0) = some t ∧ t b = nI (cov E b) ∧ ∀ j, j ≠ b → t j = t0 j := by
  refine q_for (st := fun q => m_X5_blocksRight_L19 f (nI b) q.1 q.2) (fun i (a : Nat → Int32) => (nI i, a)) 6 (fun i a => a b = nI (pcv E i 0 b) ∧ ∀ j, j ≠ b → a j = t0 j) (fun t => t b = nI (cov E b) ∧ ∀ j, j ≠ b → t j = t0 j) ?_ ?_ 6 0 t0 1000 rfl ⟨ht, fun _ _ => rfl⟩ (by omega)
  · intro i a hi ha
    left
    obtain ⟨⟨-, -, -, h4⟩, -, h5, -⟩ := hS i hi
    obtain ⟨t, t1, t2, t3⟩ := s_bl28 (f := f) (E := E) hi hb h4 h5 a ha.1
    refine ⟨t, ?_, t2, fun j hj => by rw [t3 j hj]; exact ha.2 j hj⟩
    show m_X5_blocksRight_L19 f (nI b) (nI i) a = _
    unfold m_X5_blocksRight_L19
    rw [show (6 : Int32) = nI 6 from rfl, i_nle hi (by omega), show (0 : Int32) = nI 0 from rfl, t1, q_k1, show nI i + (1 : Int32) = nI (i + 1) from nI_1 i]
  · intro a ha
    refine ⟨a, ?_, ha⟩
    show m_X5_blocksRight_L19 f (nI b) (nI 6) a = _
    unfold m_X5_blocksRight_L19
    rw [show (6 : Int32) = nI 6 from rfl, i_le (Nat.le_refl _) (by omega)]
theorem s_apart5 {f : Nat → Int32} {N O L R : Nat → Nat} {E : Nat → Nat → Nat} (hS : ∀ s, s < 6 → Slo f s (N s) (O s) (L s) (R s) (E s)) (ti : Nat → Int32) : ∃ (v : Bool) (ti' : Nat → Int32), m_X5_blocksRight f ti = some (bi v, ti') ∧ (v = true ↔ ∀ b, b < 32 → cov E b ≤ 1) ∧ ∀ b, b < 32 → ti' b = nI (cov E b) := by
  have h := q_for (st := fun q => m_X5_blocksRight_L4 f q.1 q.2.1 q.2.2) (fun i (a : Int32 × (Nat → Int32)) => (a.1, nI i, a.2)) 32 (fun i a => a.1 = bi (allB (fun b => decide (cov E b ≤ 1)) 0 i) ∧ ∀ b, b < i → a.2 b = nI (cov E b)) (fun r => r.1 = bi (allB (fun b => decide (cov E b ≤ 1)) 0 32) ∧ ∀ b, b < 32 → r.2 b = nI (cov E b))
    (by
      rintro i ⟨a, t⟩ hi ⟨ha1, ha2⟩
      left
      dsimp only at ha1 ha2
      obtain ⟨t', t1, t2, t3⟩ := s_bl19 (E := E) hS hi (upd t i (0 : Int32)) q_ul
      refine ⟨(bi (allB (fun b => decide (cov E b ≤ 1)) 0 (i + 1)), t'), ?_, rfl, fun b hb => ?_⟩
      · show m_X5_blocksRight_L4 f a (nI i) t = _
        unfold m_X5_blocksRight_L4
        rw [show (32 : Int32) = nI 32 from rfl, i_nle hi (by omega), q_ast hi (by omega), Option.bind_some]
        rw [show (g_loop (fun q => m_X5_blocksRight_L19 f (nI i) q.1 q.2) 1000 ((0 : Int32), upd t i (0 : Int32))) = some t' from t1, q_k1, ha1, i_bi, show nI i + (1 : Int32) = nI (i + 1) from nI_1 i, allB_last, Nat.zero_add]
        cases allB (fun b => decide (cov E b ≤ 1)) 0 i with
        | false => rfl
        | true =>
          have := cov_lt (E := E) (b := i)
          rw [if_pos rfl, q_ald hi (by omega), Option.bind_some, t2, show (2 : Int32) = nI 2 from rfl, Bool.true_and]
          by_cases c : cov E i ≤ 1
          · rw [i_nle (by omega) (by omega), decide_eq_true c]; rfl
          · rw [i_le (by omega) (by omega), decide_eq_false c]; rfl
      · show t' b = _
        by_cases c : b = i
        · subst c; exact t2
        · rw [t3 b c, q_un c]; exact ha2 b (by omega))
    (by
      rintro ⟨a, t⟩ ha
      refine ⟨(a, t), ?_, ha⟩
      show m_X5_blocksRight_L4 f a (nI 32) t = _
      unfold m_X5_blocksRight_L4
      rw [show (32 : Int32) = nI 32 from rfl, i_le (Nat.le_refl _) (by omega)])
    32 0 ((1 : Int32), ti) 1000 rfl ⟨rfl, fun b hb => absurd hb (Nat.not_lt_zero _)⟩ (by omega)
  obtain ⟨⟨r1, r2⟩, h1, h2, h3⟩ := h
  dsimp only at h2 h3
  refine ⟨allB (fun b => decide (cov E b ≤ 1)) 0 32, r2, ?_, ?_, h3⟩
  · unfold m_X5_blocksRight
    rw [show ((1 : Int32), (0 : Int32), ti) = ((1 : Int32), nI 0, ti) from rfl, h1, q_k2, h2]
    cases allB (fun b => decide (cov E b ≤ 1)) 0 32 <;> rfl
  · rw [allB_0]
    exact ⟨fun q b hb => of_decide_eq_true (q b hb), fun q b hb => decide_eq_true (q b hb)⟩
theorem b_one : ∀ b, b < 32 → ∀ i, i < 32 → bt (g_shl (1 : Int32) (nI b)) i = decide (i = b) := by decide +kernel
theorem s_map5 {f ti : Nat → Int32} {E : Nat → Nat → Nat} (ht : ∀ b, b < 32 → ti b = nI (cov E b)) : ∃ M, m_X5_mapRight f ti = some (bi (decide (M = f 45))) ∧ ∀ b, b < 32 → bt M b = decide (cov E b ≠ 0) := by
  have h := q_for (st := fun q => m_X5_mapRight_L4 ti q.1 q.2) (fun i (a : Int32) => (a, nI i)) 32 (fun i a => ∀ b, b < 32 → bt a b = (decide (b < i) && decide (cov E b ≠ 0))) (fun r => ∀ b, b < 32 → bt r b = decide (cov E b ≠ 0))
    (by
      intro i a hi ha
      have hc := cov_lt (E := E) (b := i)
      left
      by_cases c : cov E i = 0
      · refine ⟨a, ?_, fun b hb => ?_⟩
        · show m_X5_mapRight_L4 ti a (nI i) = _
          unfold m_X5_mapRight_L4
          rw [show (32 : Int32) = nI 32 from rfl, i_nle hi (by omega), q_ald hi (by omega), Option.bind_some, ht i hi, show (0 : Int32) = nI 0 from rfl, i_le (by omega) (by omega), show nI i + (1 : Int32) = nI (i + 1) from nI_1 i]
        · rw [ha b hb]
          by_cases e : b = i
          · subst e; rw [c]; simp
          · by_cases e2 : b < i
            · rw [decide_eq_true e2, decide_eq_true (by omega : b < i + 1)]
            · rw [decide_eq_false e2, decide_eq_false (by omega : ¬ b < i + 1)]
      · refine ⟨a ||| g_shl (1 : Int32) (nI i), ?_, fun b hb => ?_⟩
        · show m_X5_mapRight_L4 ti a (nI i) = _
          unfold m_X5_mapRight_L4
          rw [show (32 : Int32) = nI 32 from rfl, i_nle hi (by omega), q_ald hi (by omega), Option.bind_some, ht i hi, show (0 : Int32) = nI 0 from rfl, i_nle (by omega) (by omega), show nI i + (1 : Int32) = nI (i + 1) from nI_1 i]
        · rw [b_or, ha b hb, b_one i hi b hb]
          by_cases e : b = i
          · subst e
            rw [decide_eq_true (rfl : b = b), Bool.or_true, decide_eq_true (by omega : b < b + 1), decide_eq_true c]; rfl
          · rw [decide_eq_false e, Bool.or_false]
            by_cases e2 : b < i
            · rw [decide_eq_true e2, decide_eq_true (by omega : b < i + 1)]
            · rw [decide_eq_false e2, decide_eq_false (by omega : ¬ b < i + 1)])
    (by
      intro a ha
      refine ⟨a, rfl, fun b hb => ?_⟩
      rw [ha b hb, decide_eq_true hb, Bool.true_and])
    32 0 (0 : Int32) 1000 rfl (fun b hb => by rw [b_0]; rfl) (by omega)
  obtain ⟨M, h1, h2⟩ := h
  refine ⟨M, ?_, h2⟩
  unfold m_X5_mapRight
  rw [show ((0 : Int32), (0 : Int32)) = ((0 : Int32), nI 0) from rfl, h1, q_k1, show (45 : Int32) = nI 45 from rfl, q_ald (by omega) (by omega), Option.bind_some]
  by_cases c : M = f 45
  · rw [if_pos c, decide_eq_true c]; rfl
  · rw [if_neg c, decide_eq_false c]; rfl
