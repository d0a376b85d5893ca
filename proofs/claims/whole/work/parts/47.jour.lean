/-! the journal: whether it holds, and what putting it into home does -/
/-- two loops that count up side by side -/
theorem q_for2 {S R S' R' σ : Type} {st : S → Option (S ⊕ R)} {st' : S' → Option (S' ⊕ R')} (mk : Nat → σ → S) (mk' : Nat → σ → S') (e : Nat) (I : Nat → σ → Prop) (P : R → R' → Prop)
    (hs : ∀ i a, i < e → I i a → (∃ a', st (mk i a) = some (.inl (mk (i + 1) a')) ∧ st' (mk' i a) = some (.inl (mk' (i + 1) a')) ∧ I (i + 1) a') ∨ ∃ r r', st (mk i a) = some (.inr r) ∧ st' (mk' i a) = some (.inr r') ∧ P r r')
    (hx : ∀ a, I e a → ∃ r r', st (mk e a) = some (.inr r) ∧ st' (mk' e a) = some (.inr r') ∧ P r r') :
    ∀ (d i : Nat) (a : σ) (N : Nat), i + d = e → I i a → d < N → ∃ r r', g_loop st N (mk i a) = some r ∧ g_loop st' N (mk' i a) = some r' ∧ P r r' := by
  intro d
  induction d with
  | zero =>
    intro i a N h1 h2 h3
    have h1 : i = e := by omega
    subst h1
    obtain ⟨N, rfl⟩ : ∃ k, N = k + 1 := ⟨N - 1, by omega⟩
    obtain ⟨r, r', h4, h5, h6⟩ := hx a h2
    exact ⟨r, r', q_inr h4, q_inr h5, h6⟩
  | succ d ih =>
    intro i a N h1 h2 h3
    obtain ⟨N, rfl⟩ : ∃ k, N = k + 1 := ⟨N - 1, by omega⟩
    rcases hs i a (by omega) h2 with ⟨a', h4, h5, h6⟩ | ⟨r, r', h4, h5, h6⟩
    · rw [q_inl h4, q_inl h5]
      exact ih (i + 1) a' N (by omega) h6 (by omega)
    · exact ⟨r, r', q_inr h4, q_inr h5, h6⟩
/-- one below a small number: -1 below 0 -/
def pr1 (b : Nat) : Int32 := nI b + (-1)
theorem pr1_0 : pr1 0 = -1 := rfl
theorem pr1_s (a : Nat) : pr1 (a + 1) = nI a := nI_mm a
theorem pr1_1 (b : Nat) : pr1 b + (1 : Int32) = nI b := by
  cases b with
  | zero => rfl
  | succ a => rw [pr1_s]; exact nI_1 a
theorem pr1_le {v : Int32} {b : Nat} (hb : b < 2 ^ 31) : v ≤ pr1 b ↔ v < nI b := by
  cases b with
  | zero =>
    rw [pr1_0, fa_le, fa_lt, nI_toInt (by omega)]
    have : (-1 : Int32).toInt = -1 := by decide
    omega
  | succ a =>
    rw [pr1_s, fa_le, fa_lt, nI_toInt (by omega), nI_toInt hb]
    omega
theorem lt110 {v : Int32} : v < (110 : Int32) ↔ ¬ (109 : Int32) < v := by
  rw [fa_lt, fa_lt]
  have h1 : (110 : Int32).toInt = 110 := by decide
  have h2 : (109 : Int32).toInt = 109 := by decide
  omega
/-- the journal's addresses are those of home -/
def jok (d : Nat → Int32) (n : Nat) : Prop := ∀ k, k < n → ∃ a, a < 110 ∧ d (112 + 2 * k) = nI a
theorem s_holdL {d : Nat → Int32} {n : Nat} (n1 : n ≤ 110) : ∃ r r', g_loop (fun q => m_X1_journalHolds_L28 d (nI n) q.1 q.2.1 q.2.2) 1000 (nI n, pr1 0, nI 0) = some r ∧ g_loop (fun q => m_X5_holds_L27 d (nI n) q.1 q.2.1 q.2.2) 1000 (nI n, pr1 0, nI 0) = some r' ∧ (r' = r ∧ (r = .inl 0 ∨ ∃ z, r = .inr z ∧ jok d n)) := by
  exact q_for2 (st := fun q => m_X1_journalHolds_L28 d (nI n) q.1 q.2.1 q.2.2) (st' := fun q => m_X5_holds_L27 d (nI n) q.1 q.2.1 q.2.2)
    (fun i (a : Int32 × Nat) => (a.1, pr1 a.2, nI i)) (fun i (a : Int32 × Nat) => (a.1, pr1 a.2, nI i)) n (fun i a => a.2 ≤ 110 ∧ jok d i) (fun r r' => r' = r ∧ (r = .inl 0 ∨ ∃ z, r = .inr z ∧ jok d n))
    (by
      rintro i ⟨y, b⟩ hi ⟨hb, hj⟩
      dsimp only at hb
      have e1 : g_ald 332 d ((112 : Int32) + (2 : Int32) * nI i) = some (d (112 + 2 * i)) := by
        rw [show (112 : Int32) + (2 : Int32) * nI i = nI (112 + 2 * i) by rw [show (2 : Int32) * nI i = nI (2 * i) from pk_mul 2 i]; exact nI_add 112 _]
        exact q_ald (by omega) (by omega)
      have e2 : g_ald 332 d (((112 : Int32) + (2 : Int32) * nI i) + (1 : Int32)) = some (d (113 + 2 * i)) := by
        rw [show ((112 : Int32) + (2 : Int32) * nI i) + (1 : Int32) = nI (113 + 2 * i) by rw [show (2 : Int32) * nI i = nI (2 * i) from pk_mul 2 i, show (112 : Int32) + nI (2 * i) = nI (112 + 2 * i) from nI_add 112 _, nI_1, show 112 + 2 * i + 1 = 113 + 2 * i by omega]]
        exact q_ald (by omega) (by omega)
      have e3 : g_ald 332 d ((113 : Int32) + (2 : Int32) * nI i) = some (d (113 + 2 * i)) := by
        rw [show (113 : Int32) + (2 : Int32) * nI i = nI (113 + 2 * i) by rw [show (2 : Int32) * nI i = nI (2 * i) from pk_mul 2 i]; exact nI_add 113 _]
        exact q_ald (by omega) (by omega)
      have s1 : m_X1_journalHolds_L28 d (nI n) y (pr1 b) (nI i) = if d (112 + 2 * i) < nI b then some (.inr (.inl 0)) else if d (112 + 2 * i) < (110 : Int32) then some (.inl (((y * (31 : Int32)) + d (112 + 2 * i)) * (31 : Int32) + d (113 + 2 * i), d (112 + 2 * i), nI (i + 1))) else some (.inr (.inl 0)) := by
        unfold m_X1_journalHolds_L28 m_X1_nextCheck
        rw [i_nle hi (by omega), e1, Option.bind_some, e2, Option.bind_some, Option.bind_some, show nI i + (1 : Int32) = nI (i + 1) from nI_1 i]
        by_cases c : d (112 + 2 * i) < nI b
        · rw [if_pos c, if_pos ((pr1_le (by omega)).mpr c)]
        · rw [if_neg c, if_neg (fun q => c ((pr1_le (by omega)).mp q))]
      have s2 : m_X5_holds_L27 d (nI n) y (pr1 b) (nI i) = if d (112 + 2 * i) < nI b then some (.inr (.inl 0)) else if d (112 + 2 * i) < (110 : Int32) then some (.inl (((y * (31 : Int32)) + d (112 + 2 * i)) * (31 : Int32) + d (113 + 2 * i), d (112 + 2 * i), nI (i + 1))) else some (.inr (.inl 0)) := by
        unfold m_X5_holds_L27
        rw [i_nle hi (by omega), e1, Option.bind_some, e3, Option.bind_some, pr1_1, r_within, Option.bind_some, i_bi, show nI i + (1 : Int32) = nI (i + 1) from nI_1 i]
        by_cases c : d (112 + 2 * i) < nI b
        · rw [if_pos c, decide_eq_false (fun q => q c)]; rfl
        · rw [if_neg c, decide_eq_true c, Bool.true_and]
          by_cases c2 : (109 : Int32) < d (112 + 2 * i)
          · rw [decide_eq_false (fun q => q c2), if_neg (by decide), if_neg (fun q => lt110.mp q c2)]
          · rw [decide_eq_true c2, if_pos rfl, if_pos (lt110.mpr c2)]
      show (∃ a' : Int32 × Nat, m_X1_journalHolds_L28 d (nI n) y (pr1 b) (nI i) = some (.inl (a'.1, pr1 a'.2, nI (i + 1))) ∧ m_X5_holds_L27 d (nI n) y (pr1 b) (nI i) = some (.inl (a'.1, pr1 a'.2, nI (i + 1))) ∧ _) ∨ ∃ r r', m_X1_journalHolds_L28 d (nI n) y (pr1 b) (nI i) = some (.inr r) ∧ m_X5_holds_L27 d (nI n) y (pr1 b) (nI i) = some (.inr r') ∧ _
      rw [s1, s2]
      by_cases c : d (112 + 2 * i) < nI b
      · rw [if_pos c]
        exact Or.inr ⟨_, _, rfl, rfl, rfl, Or.inl rfl⟩
      · rw [if_neg c]
        by_cases c2 : d (112 + 2 * i) < (110 : Int32)
        · rw [if_pos c2]
          have c5 : ¬ d (112 + 2 * i) < nI 0 := by
            intro q
            apply c
            rw [fa_lt] at q ⊢
            rw [nI_toInt (by omega)] at q ⊢
            omega
          obtain ⟨a, a1, a2⟩ := q_rng (n := 109) (by omega) c5 (lt110.mp c2)
          refine Or.inl ⟨(((y * (31 : Int32)) + d (112 + 2 * i)) * (31 : Int32) + d (113 + 2 * i), a + 1), ?_, ?_, by dsimp only; omega, fun k hk => ?_⟩
          · rw [pr1_s, a2]
          · rw [pr1_s, a2]
          · rcases Nat.lt_or_ge k i with z | z
            · exact hj k z
            · have : k = i := by omega
              subst this; exact ⟨a, by omega, a2⟩
        · rw [if_neg c2]
          exact Or.inr ⟨_, _, rfl, rfl, rfl, Or.inl rfl⟩)
    (by
      rintro ⟨y, b⟩ ⟨hb, hj⟩
      refine ⟨.inr y, .inr y, ?_, ?_, rfl, Or.inr ⟨y, rfl, hj⟩⟩
      · show m_X1_journalHolds_L28 d (nI n) y (pr1 b) (nI n) = _
        unfold m_X1_journalHolds_L28
        rw [i_le (Nat.le_refl _) (by omega)]
      · show m_X5_holds_L27 d (nI n) y (pr1 b) (nI n) = _
        unfold m_X5_holds_L27
        rw [i_le (Nat.le_refl _) (by omega)])
    n 0 (nI n, 0) 1000 (by omega) ⟨by dsimp only; omega, fun k hk => absurd hk (Nat.not_lt_zero _)⟩ (by omega)
theorem s_hold {d : Nat → Int32} : ∃ v : Bool, m_X1_journalHolds d = some (bi v) ∧ m_X5_holds d = some (bi v) ∧ (v = true → ∃ n, 1 ≤ n ∧ n ≤ 110 ∧ d 110 = nI n ∧ jok d n) := by
  unfold m_X1_journalHolds m_X5_holds
  have e0 : g_ald 332 d (110 : Int32) = some (d 110) := q_ald (j := 110) (by omega) (by omega)
  have e9 : g_ald 332 d (111 : Int32) = some (d 111) := q_ald (j := 111) (by omega) (by omega)
  rw [e0, Option.bind_some, Option.bind_some, r_within, Option.bind_some, i_bi]
  by_cases c1 : d 110 < (1 : Int32)
  · rw [if_pos c1, decide_eq_false (fun q => q c1), Bool.false_and]
    exact ⟨false, rfl, rfl, fun q => by cases q⟩
  · rw [if_neg c1, decide_eq_true c1, Bool.true_and]
    by_cases c2 : (110 : Int32) < d 110
    · have c3 : ¬ d 110 ≤ (110 : Int32) := by
        rw [fa_le]; rw [fa_lt] at c2; omega
      rw [if_neg c3, decide_eq_false (fun q => q c2)]
      exact ⟨false, rfl, rfl, fun q => by cases q⟩
    · have c3 : d 110 ≤ (110 : Int32) := by
        rw [fa_le]; rw [fa_lt] at c2; omega
      have c4 : ¬ d 110 < nI 0 := by
        intro q
        apply c1
        rw [fa_lt] at q ⊢
        have h1 : (1 : Int32).toInt = 1 := by decide
        have h2 : (nI 0).toInt = 0 := by decide
        omega
      obtain ⟨n, n1, n2⟩ := q_rng (n := 110) (by omega) c4 c2
      have n0 : 1 ≤ n := by
        rcases Nat.eq_zero_or_pos n with q | q
        · subst q; rw [n2] at c1; exact absurd (by decide) c1
        · exact q
      rw [if_pos c3, decide_eq_true c2, if_pos rfl, n2]
      obtain ⟨r, r', x1, x2, x3⟩ := s_holdL (d := d) n1
      rw [show (nI n, (-1 : Int32), (0 : Int32)) = (nI n, pr1 0, nI 0) from rfl]
      rw [x1, x2, x3.1]
      rcases x3.2 with q | ⟨z, q1, q2⟩
      · rw [q]
        exact ⟨false, rfl, rfl, fun q => by cases q⟩
      · rw [q1, q_sr, q_e1, e9, Option.bind_some]
        by_cases c5 : z = d 111
        · rw [if_pos c5]
          exact ⟨true, rfl, rfl, fun _ => ⟨n, n0, n1, rfl, q2⟩⟩
        · rw [if_neg c5]
          exact ⟨false, rfl, rfl, fun q => by cases q⟩
/-- the first k pairs of the journal put into a home -/
def rpl (d : Nat → Int32) : Nat → (Nat → Int32) → Nat → Int32
  | 0, f => f
  | k + 1, f => upd (rpl d k f) (cn d (112 + 2 * k)) (d (113 + 2 * k))
theorem rpl_cg {d f g : Nat → Int32} {j : Nat} (h : f j = g j) : ∀ {k : Nat}, rpl d k f j = rpl d k g j
  | 0 => h
  | k + 1 => by
    rw [rpl, rpl]
    by_cases c : j = cn d (112 + 2 * k)
    · subst c; rw [q_ul, q_ul]
    · rw [q_un c, q_un c]; exact rpl_cg h
theorem rpl_out {d f : Nat → Int32} {j : Nat} (hj : 110 ≤ j) : ∀ {k : Nat}, jok d k → rpl d k f j = f j
  | 0, _ => rfl
  | k + 1, h => by
    obtain ⟨a, a1, a2⟩ := h k (by omega)
    have : cn d (112 + 2 * k) = a := by unfold cn; rw [a2, nI_clamp (by omega)]
    rw [rpl, this, q_un (by omega)]
    exact rpl_out hj (fun i hi => h i (by omega))
theorem jok_cn {d : Nat → Int32} {n k : Nat} (h : jok d n) (hk : k < n) : d (112 + 2 * k) = nI (cn d (112 + 2 * k)) ∧ cn d (112 + 2 * k) < 110 := by
  obtain ⟨a, a1, a2⟩ := h k hk
  have : cn d (112 + 2 * k) = a := by unfold cn; rw [a2, nI_clamp (by omega)]
  rw [this]; exact ⟨a2, a1⟩
theorem a_112 (i : Nat) : (112 : Int32) + (2 : Int32) * nI i = nI (112 + 2 * i) := by rw [show (2 : Int32) * nI i = nI (2 * i) from pk_mul 2 i]; exact nI_add 112 _
theorem a_113 (i : Nat) : (113 : Int32) + (2 : Int32) * nI i = nI (113 + 2 * i) := by rw [show (2 : Int32) * nI i = nI (2 * i) from pk_mul 2 i]; exact nI_add 113 _
theorem a_1121 (i : Nat) : ((112 : Int32) + (2 : Int32) * nI i) + (1 : Int32) = nI (113 + 2 * i) := by rw [a_112, nI_1, show 112 + 2 * i + 1 = 113 + 2 * i by omega]
theorem s_replayS {d : Nat → Int32} {n : Nat} (hn : n ≤ 110) (hd : d 110 = nI n) (hj : jok d n) : m_X1_replayIntoS d = some (rpl d n d) := by
  unfold m_X1_replayIntoS
  have e0 : g_ald 332 d (110 : Int32) = some (d 110) := q_ald (j := 110) (by omega) (by omega)
  rw [e0, Option.bind_some, hd]
  obtain ⟨r, x1, x2⟩ := q_for (st := fun q => m_X1_replayIntoS_L10 (nI n) q.1 q.2) (fun i (a : Nat → Int32) => (nI i, a)) n (fun i a => a = rpl d i d) (fun r => r = rpl d n d)
    (by
      intro i a hi ha
      subst ha
      left
      obtain ⟨b1, b2⟩ := jok_cn hj hi
      have o : ∀ j, 110 ≤ j → rpl d i d j = d j := fun j h => rpl_out h (fun k hk => hj k (by omega))
      refine ⟨rpl d (i + 1) d, ?_, rfl⟩
      show m_X1_replayIntoS_L10 (nI n) (nI i) (rpl d i d) = _
      unfold m_X1_replayIntoS_L10
      rw [i_nle hi (by omega), a_1121, a_112, q_ald (by omega) (by omega), Option.bind_some, q_ald (by omega) (by omega), Option.bind_some, o _ (by omega), o _ (by omega), b1, q_ast (by omega) (by omega), Option.bind_some, show nI i + (1 : Int32) = nI (i + 1) from nI_1 i]
      rfl)
    (by
      intro a ha
      refine ⟨a, ?_, ha⟩
      show m_X1_replayIntoS_L10 (nI n) (nI n) a = _
      unfold m_X1_replayIntoS_L10
      rw [i_le (Nat.le_refl _) (by omega)])
    n 0 d 1000 (by omega) rfl (by omega)
  rw [show ((0 : Int32), d) = (nI 0, d) from rfl, x1, x2]
  rfl
theorem s_replay {d f : Nat → Int32} {n : Nat} (hn : n ≤ 110) (hd : d 110 = nI n) (hj : jok d n) : m_X1_replayInto d f = some (rpl d n f) := by
  unfold m_X1_replayInto
  have e0 : g_ald 332 d (110 : Int32) = some (d 110) := q_ald (j := 110) (by omega) (by omega)
  rw [e0, Option.bind_some, hd]
  obtain ⟨r, x1, x2⟩ := q_for (st := fun q => m_X1_replayInto_L10 d (nI n) q.1 q.2) (fun i (a : Nat → Int32) => (nI i, a)) n (fun i a => a = rpl d i f) (fun r => r = rpl d n f)
    (by
      intro i a hi ha
      subst ha
      left
      obtain ⟨b1, b2⟩ := jok_cn hj hi
      refine ⟨rpl d (i + 1) f, ?_, rfl⟩
      show m_X1_replayInto_L10 d (nI n) (nI i) (rpl d i f) = _
      unfold m_X1_replayInto_L10
      rw [i_nle hi (by omega), a_1121, a_112, q_ald (by omega) (by omega), Option.bind_some, q_ald (by omega) (by omega), Option.bind_some, b1, q_ast (by omega) (by omega), Option.bind_some, show nI i + (1 : Int32) = nI (i + 1) from nI_1 i]
      rfl)
    (by
      intro a ha
      refine ⟨a, ?_, ha⟩
      show m_X1_replayInto_L10 d (nI n) (nI n) a = _
      unfold m_X1_replayInto_L10
      rw [i_le (Nat.le_refl _) (by omega)])
    n 0 f 1000 (by omega) rfl (by omega)
  rw [show ((0 : Int32), f) = (nI 0, f) from rfl, x1, x2]
  rfl
/-- the first n cells of one row over another -/
def ovr (d f : Nat → Int32) (n : Nat) : Nat → Int32 := fun j => if j < n then d j else f j
theorem ovr_s {d f : Nat → Int32} {n : Nat} : upd (ovr d f n) n (d n) = ovr d f (n + 1) := by
  funext j
  by_cases c : j = n
  · subst c; rw [q_ul]; exact (if_pos (by omega)).symm
  · rw [q_un c]
    unfold ovr
    by_cases c2 : j < n
    · rw [if_pos c2, if_pos (by omega)]
    · rw [if_neg c2, if_neg (by omega)]
theorem ovr_in {d f : Nat → Int32} {n j : Nat} (h : j < n) : ovr d f n j = d j := if_pos h
theorem ovr_out {d f : Nat → Int32} {n j : Nat} (h : n ≤ j) : ovr d f n j = f j := if_neg (by omega)
theorem ovr_cpy {d f : Nat → Int32} : va_cpy d f 0 0 110 = ovr d f 110 := by
  funext j
  rcases Nat.lt_or_ge j 110 with z | z
  · rw [ovr_in z, pk_cpy_in (by omega) (by omega), show 0 + (j - 0) = j by omega]
  · rw [ovr_out z, pk_cpy_out (by omega)]
theorem s_copyFrom {f d : Nat → Int32} : m_X2_copyFrom f d = some (ovr d f 110) := by
  unfold m_X2_copyFrom
  rw [ovr_cpy]
  rfl
/-- a loop that copies the first n cells -/
theorem q_copy {R : Type} {st : Int32 × (Nat → Int32) → Option ((Int32 × (Nat → Int32)) ⊕ R)} (d f : Nat → Int32) (n : Nat) (fin : (Nat → Int32) → R) (hn : n < 1000)
    (hs : ∀ i a, i < n → st (nI i, a) = some (.inl (nI (i + 1), upd a i (d i)))) (hx : ∀ a, st (nI n, a) = some (.inr (fin a))) : g_loop st 1000 (nI 0, f) = some (fin (ovr d f n)) := by
  obtain ⟨r, x1, x2⟩ := q_for (st := st) (fun i (a : Nat → Int32) => (nI i, a)) n (fun i a => a = ovr d f i) (fun r => r = fin (ovr d f n))
    (by
      intro i a hi ha
      subst ha
      left
      exact ⟨_, (hs i _ hi).trans (by rw [ovr_s]), rfl⟩)
    (by
      intro a ha
      subst ha
      exact ⟨_, hx _, rfl⟩)
    n 0 f 1000 (by omega) (by funext j; exact (if_neg (Nat.not_lt_zero _)).symm) (by omega)
  rw [x1, x2]
theorem s_fetch {d ho : Nat → Int32} {v : Bool} {n : Nat} (hv : m_X5_holds d = some (bi v)) (hn : v = true → n ≤ 110 ∧ d 110 = nI n ∧ jok d n) : m_X5_fetch d ho = some (if v = true then rpl d n (ovr d ho 110) else ovr d ho 110) := by
  unfold m_X5_fetch
  have h1 := q_copy (st := fun q => m_X5_fetch_L2 d q.1 q.2) d ho 110 (fun a => a) (by omega)
    (by
      intro i a hi
      show m_X5_fetch_L2 d (nI i) a = _
      unfold m_X5_fetch_L2
      rw [show (110 : Int32) = nI 110 from rfl, i_nle hi (by omega), q_ald (by omega) (by omega), Option.bind_some, q_ast hi (by omega), Option.bind_some, show nI i + (1 : Int32) = nI (i + 1) from nI_1 i])
    (fun a => rfl)
  rw [show ((0 : Int32), ho) = (nI 0, ho) from rfl, h1, q_k1, hv, Option.bind_some, i_bi]
  cases v with
  | false => rfl
  | true =>
    obtain ⟨n1, n2, n3⟩ := hn rfl
    rw [if_pos rfl, if_pos rfl]
    obtain ⟨r, x1, x2⟩ := q_for (st := fun q => m_X5_fetch_L35 d q.1 q.2) (fun i (a : Nat → Int32) => (nI i, a)) n (fun i a => a = rpl d i (ovr d ho 110)) (fun r => r = rpl d n (ovr d ho 110))
      (by
        intro i a hi ha
        subst ha
        left
        obtain ⟨b1, b2⟩ := jok_cn n3 hi
        refine ⟨rpl d (i + 1) (ovr d ho 110), ?_, rfl⟩
        show m_X5_fetch_L35 d (nI i) (rpl d i (ovr d ho 110)) = _
        unfold m_X5_fetch_L35
        rw [show g_ald 332 d (110 : Int32) = some (nI n) from (q_ald (j := 110) (by omega) (by omega)).trans (by rw [n2]), Option.bind_some, i_nle hi (by omega), a_113, a_112, q_ald (by omega) (by omega), Option.bind_some, q_ald (by omega) (by omega), Option.bind_some, b1, q_ast (by omega) (by omega), Option.bind_some, show nI i + (1 : Int32) = nI (i + 1) from nI_1 i]
        rfl)
      (by
        intro a ha
        refine ⟨a, ?_, ha⟩
        show m_X5_fetch_L35 d (nI n) a = _
        unfold m_X5_fetch_L35
        rw [show g_ald 332 d (110 : Int32) = some (nI n) from (q_ald (j := 110) (by omega) (by omega)).trans (by rw [n2]), Option.bind_some, i_le (Nat.le_refl _) (by omega)])
      n 0 (ovr d ho 110) 1000 (by omega) rfl (by omega)
    rw [show ((0 : Int32), ovr d ho 110) = (nI 0, ovr d ho 110) from rfl, x1, x2]
    rfl
