/-! the checker: the eight clauses, read by both in the same way -/
def allB (p : Nat → Bool) : Nat → Nat → Bool
  | _, 0 => true
  | i, d + 1 => p i && allB p (i + 1) d
theorem allB_iff {p : Nat → Bool} : ∀ {d i : Nat}, allB p i d = true ↔ ∀ k, i ≤ k → k < i + d → p k = true
  | 0, i => ⟨fun _ k h1 h2 => absurd h2 (by omega), fun _ => rfl⟩
  | d + 1, i => by
    rw [allB, Bool.and_eq_true, allB_iff]
    constructor
    · rintro ⟨h1, h2⟩ k h3 h4
      rcases Nat.lt_or_ge i k with q | q
      · exact h2 k q (by omega)
      · have : k = i := by omega
        subst this; exact h1
    · intro h
      exact ⟨h i (Nat.le_refl _) (by omega), fun k h3 h4 => h k (by omega) (by omega)⟩
theorem allB_0 {p : Nat → Bool} {n : Nat} : allB p 0 n = true ↔ ∀ k, k < n → p k = true := by
  rw [allB_iff]
  exact ⟨fun h k hk => h k (Nat.zero_le _) (by omega), fun h k _ hk => h k (by omega)⟩
theorem bool_eq {a b : Bool} (h : a = true ↔ b = true) : a = b := by
  cases a <;> cases b <;> simp_all
theorem q_all {S V : Type} {st : S → Option (S ⊕ (V ⊕ Unit))} (mk : Nat → S) (p : Nat → Bool) (v : V) (e : Nat)
    (hs : ∀ i, i < e → st (mk i) = if p i = true then some (.inl (mk (i + 1))) else some (.inr (.inl v))) (hx : st (mk e) = some (.inr (.inr ()))) :
    ∀ (d i N : Nat), i + d = e → d < N → g_loop st N (mk i) = some (if allB p i d = true then .inr () else .inl v) := by
  intro d
  induction d with
  | zero =>
    intro i N h1 h2
    obtain ⟨N, rfl⟩ : ∃ k, N = k + 1 := ⟨N - 1, by omega⟩
    have : i = e := by omega
    subst this
    exact q_inr hx
  | succ d ih =>
    intro i N h1 h2
    obtain ⟨N, rfl⟩ : ∃ k, N = k + 1 := ⟨N - 1, by omega⟩
    have h3 := hs i (by omega)
    rw [allB]
    cases c : p i with
    | true =>
      rw [c, if_pos rfl] at h3
      rw [q_inl h3, Bool.true_and]
      exact ih (i + 1) N (by omega) (by omega)
    | false =>
      rw [c] at h3
      rw [Bool.false_and]
      exact q_inr h3
/-- a loop that keeps a truth value beside its counter -/
theorem q_acc {S R : Type} {st : S → Option (S ⊕ R)} (mk : Nat → Int32 → S) (p : Nat → Bool) (fin : Int32 → R) (e : Nat)
    (hs : ∀ i a, i < e → st (mk i (bi a)) = some (.inl (mk (i + 1) (bi (a && p i))))) (hx : ∀ a, st (mk e a) = some (.inr (fin a))) :
    ∀ (d i N : Nat) (a : Bool), i + d = e → d < N → g_loop st N (mk i (bi a)) = some (fin (bi (a && allB p i d))) := by
  intro d
  induction d with
  | zero =>
    intro i N a h1 h2
    obtain ⟨N, rfl⟩ : ∃ k, N = k + 1 := ⟨N - 1, by omega⟩
    have : i = e := by omega
    subst this
    rw [allB, Bool.and_true]
    exact q_inr (hx _)
  | succ d ih =>
    intro i N a h1 h2
    obtain ⟨N, rfl⟩ : ∃ k, N = k + 1 := ⟨N - 1, by omega⟩
    rw [q_inl (hs i a (by omega)), allB, ← Bool.and_assoc]
    exact ih (i + 1) N _ (by omega) (by omega)
theorem s_nameOf {f : Nat → Int32} {s : Nat} (hs : s < 6) : m_X2_nameOf f (nI s) = some (f (7 * s)) := by
  unfold m_X2_nameOf
  simp only [q_c0, q_c1, q_c2, q_c3, q_c4, q_c5, q_c6, q_c7, q_c31, q_c32, q_c42, q_c44, q_c45, q_c46, q_c63, q_c64, q_c99, q_c109, q_c110, q_c111, q_c112, q_c113, q_c192, q_c331, q_c332, nI_add, pk_mul]
  rw [q_ald (by omega) (by omega), Option.bind_some]
def rngB (x : Int32) (n : Nat) : Bool := decide (¬ x < nI 0) && decide (¬ nI n < x)
theorem s_rng {x : Int32} (n : Nat) : m_X5_within x (nI 0) (nI n) = some (bi (rngB x n)) := r_within x (nI 0) (nI n)
def zB (f : Nat → Int32) (a : Nat) (i : Nat) : Bool := decide (f (a + i) = 0)
def c1B (f : Nat → Int32) (s : Nat) : Bool := rngB (f (7 * s)) 99 && (rngB (f (7 * s + 1)) 2 && (rngB (f (7 * s + 2)) 64 && (decide (¬ f (7 * s) = 0) || allB (zB f (7 * s)) 0 7)))
theorem s_allZero {f : Nat → Int32} {s : Nat} (hs : s < 6) : m_X0_isAllZero f (nI s) = some (bi (allB (zB f (7 * s)) 0 7)) := by
  unfold m_X0_isAllZero
  have h := q_all (st := fun q => m_X0_isAllZero_L2 (nI s) f q) (fun i => nI i) (zB f (7 * s)) (0 : Int32) 7
    (by
      intro i hi
      show m_X0_isAllZero_L2 (nI s) f (nI i) = _
      unfold m_X0_isAllZero_L2 zB
      rw [show (7 : Int32) = nI 7 from rfl, i_nle hi (by omega), pk_mul, nI_add, q_ald (by omega) (by omega), Option.bind_some, show nI i + (1 : Int32) = nI (i + 1) from nI_1 i]
      by_cases c : f (7 * s + i) = 0
      · rw [if_pos c, if_pos (decide_eq_true c)]
      · rw [if_neg c, if_neg (by simpa using c)])
    rfl 7 0 1000 rfl (by omega)
  rw [show (0 : Int32) = nI 0 from rfl, h]
  cases allB (zB f (7 * s)) 0 7 <;> rfl
theorem s_slots2 (f : Nat → Int32) : m_X0_slotsAreInRange f = some (bi (allB (c1B f) 0 6)) := by
  unfold m_X0_slotsAreInRange
  have h := q_all (st := fun q => m_X0_slotsAreInRange_L2 f q) (fun i => nI i) (c1B f) (0 : Int32) 6
    (by
      intro i hi
      show m_X0_slotsAreInRange_L2 f (nI i) = _
      unfold m_X0_slotsAreInRange_L2 c1B
      rw [show (6 : Int32) = nI 6 from rfl, i_nle hi (by omega), s_nameOf hi, Option.bind_some, e_isIn, show m_X5_within (f (7 * i)) (0 : Int32) (99 : Int32) = some (bi (rngB (f (7 * i)) 99)) from s_rng 99, Option.bind_some, i_bi]
      cases rngB (f (7 * i)) 99 with
      | false => rfl
      | true =>
        rw [if_pos rfl, Bool.true_and, s_ownerOf hi, Option.bind_some, show m_X5_within (f (7 * i + 1)) (0 : Int32) (2 : Int32) = some (bi (rngB (f (7 * i + 1)) 2)) from s_rng 2, Option.bind_some, i_bi]
        cases rngB (f (7 * i + 1)) 2 with
        | false => rfl
        | true =>
          rw [if_pos rfl, Bool.true_and, s_lengthOf hi, Option.bind_some, show m_X5_within (f (7 * i + 2)) (0 : Int32) (64 : Int32) = some (bi (rngB (f (7 * i + 2)) 64)) from s_rng 64, Option.bind_some, i_bi]
          cases rngB (f (7 * i + 2)) 64 with
          | false => rfl
          | true =>
            rw [if_pos rfl, Bool.true_and, Option.bind_some, show nI i + (1 : Int32) = nI (i + 1) from nI_1 i]
            by_cases c : f (7 * i) = 0
            · rw [if_pos c, s_allZero hi, Option.bind_some, i_bi, decide_eq_false (fun q => q c), Bool.false_or]
            · rw [if_neg c, decide_eq_true c, Bool.true_or, if_pos rfl])
    rfl 6 0 1000 rfl (by omega)
  rw [show (0 : Int32) = nI 0 from rfl, h]
  cases allB (c1B f) 0 6 <;> rfl
theorem s_slots5 (f : Nat → Int32) : m_X5_slotsRight f = some (bi (allB (c1B f) 0 6)) := by
  unfold m_X5_slotsRight
  have h := q_all (st := fun q => m_X5_slotsRight_L2 f q) (fun i => nI i) (c1B f) (0 : Int32) 6
    (by
      intro i hi
      show m_X5_slotsRight_L2 f (nI i) = _
      unfold m_X5_slotsRight_L2 c1B
      have h2 := q_all (st := fun q => m_X5_slotsRight_L65 f (nI i) q) (fun i => nI i) (fun k => decide (¬ f (7 * i) = 0) || zB f (7 * i) k) (0 : Int32) 7
        (by
          intro k hk
          show m_X5_slotsRight_L65 f (nI i) (nI k) = _
          unfold m_X5_slotsRight_L65 zB
          rw [show (7 : Int32) = nI 7 from rfl, i_nle hk (by omega), pk_mul, nI_add, q_ald (by omega) (by omega), Option.bind_some, q_ald (by omega) (by omega), Option.bind_some, show nI k + (1 : Int32) = nI (k + 1) from nI_1 k]
          by_cases c : f (7 * i) = 0
          · rw [if_pos c, decide_eq_false (fun q => q c), Bool.false_or]
            by_cases c2 : f (7 * i + k) = 0
            · rw [if_pos c2, if_pos (decide_eq_true c2)]
            · rw [if_neg c2, if_neg (by simpa using c2)]
          · rw [if_neg c, decide_eq_true c, Bool.true_or, if_pos rfl])
        rfl 6 1 1000 rfl (by omega)
      have e : allB (fun k => decide (¬ f (7 * i) = 0) || zB f (7 * i) k) 1 6 = (decide (¬ f (7 * i) = 0) || allB (zB f (7 * i)) 0 7) := by
        by_cases c : f (7 * i) = 0
        · rw [decide_eq_false (fun q => q c), Bool.false_or]
          show _ = (zB f (7 * i) 0 && allB (zB f (7 * i)) 1 6)
          have : zB f (7 * i) 0 = true := decide_eq_true c
          rw [this, Bool.true_and]
          rfl
        · rw [decide_eq_true c, Bool.true_or]
          rfl
      rw [e] at h2
      rw [show (6 : Int32) = nI 6 from rfl, i_nle hi (by omega), show (7 : Int32) = nI 7 from rfl, pk_mul, q_ald (by omega) (by omega), Option.bind_some, show m_X5_within (f (7 * i)) (0 : Int32) (99 : Int32) = some (bi (rngB (f (7 * i)) 99)) from s_rng 99, Option.bind_some, i_bi]
      cases rngB (f (7 * i)) 99 with
      | false => rfl
      | true =>
        rw [if_pos rfl, Bool.true_and, show nI (7 * i) + (1 : Int32) = nI (7 * i + 1) from nI_1 _, q_ald (by omega) (by omega), Option.bind_some, show m_X5_within (f (7 * i + 1)) (0 : Int32) (2 : Int32) = some (bi (rngB (f (7 * i + 1)) 2)) from s_rng 2, Option.bind_some, i_bi]
        cases rngB (f (7 * i + 1)) 2 with
        | false => rfl
        | true =>
          rw [if_pos rfl, Bool.true_and, show nI (7 * i) + (2 : Int32) = nI (7 * i + 2) from nI_add _ 2, q_ald (by omega) (by omega), Option.bind_some, show m_X5_within (f (7 * i + 2)) (0 : Int32) (64 : Int32) = some (bi (rngB (f (7 * i + 2)) 64)) from s_rng 64, Option.bind_some, i_bi]
          cases rngB (f (7 * i + 2)) 64 with
          | false => rfl
          | true =>
            rw [if_pos rfl, Bool.true_and, show (1 : Int32) = nI 1 from rfl, h2, nI_add]
            cases (decide (¬ f (7 * i) = 0) || allB (zB f (7 * i)) 0 7) <;> rfl)
    rfl 6 0 1000 rfl (by omega)
  rw [show (0 : Int32) = nI 0 from rfl, h]
  cases allB (c1B f) 0 6 <;> rfl
def c2B (f : Nat → Int32) (s : Nat) : Bool := allB (fun t => decide (f (7 * s) = 0) || decide (¬ f (7 * s) = f (7 * t))) 0 s
theorem s_nd2 {f : Nat → Int32} {s : Nat} (hs : s < 6) : g_loop (fun q => m_X0_namesDiffer_L10 f (nI s) q) 1000 (nI 0) = some (if c2B f s = true then .inr () else .inl 0) := by
  refine q_all (st := fun q => m_X0_namesDiffer_L10 f (nI s) q) (fun i => nI i) (fun t => decide (f (7 * s) = 0) || decide (¬ f (7 * s) = f (7 * t))) (0 : Int32) s ?_ ?_ s 0 1000 (by omega) (by omega)
  · intro i hi
    show m_X0_namesDiffer_L10 f (nI s) (nI i) = _
    unfold m_X0_namesDiffer_L10
    rw [i_nle hi (by omega), s_nameOf hs, Option.bind_some, s_nameOf (by omega), Option.bind_some, Option.bind_some, show nI i + (1 : Int32) = nI (i + 1) from nI_1 i]
    by_cases c : f (7 * s) = 0
    · rw [if_pos c, decide_eq_true c, Bool.true_or, if_pos rfl]
    · rw [if_neg c, decide_eq_false c, Bool.false_or]
      by_cases c2 : f (7 * s) = f (7 * i)
      · rw [if_pos c2, if_neg (by simpa using c2)]
      · rw [if_neg c2, if_pos (decide_eq_true c2)]
  · show m_X0_namesDiffer_L10 f (nI s) (nI s) = _
    unfold m_X0_namesDiffer_L10
    rw [i_le (Nat.le_refl _) (by omega)]
theorem e_nd10 : m_X5_namesRight_L10 = m_X0_namesDiffer_L10 := by
  funext f s t
  unfold m_X5_namesRight_L10 m_X0_namesDiffer_L10 m_X2_nameOf
  cases g_ald 110 f ((7 : Int32) * s) with
  | none => rfl
  | some x => cases g_ald 110 f ((7 : Int32) * t) <;> rfl
theorem s_names2 (f : Nat → Int32) : m_X0_namesDiffer f = some (bi (allB (c2B f) 0 6)) := by
  unfold m_X0_namesDiffer
  have h := q_all (st := fun q => m_X0_namesDiffer_L2 f q) (fun i => nI i) (c2B f) (0 : Int32) 6
    (by
      intro i hi
      show m_X0_namesDiffer_L2 f (nI i) = _
      unfold m_X0_namesDiffer_L2
      rw [show (6 : Int32) = nI 6 from rfl, i_nle hi (by omega), show (0 : Int32) = nI 0 from rfl, s_nd2 hi, show nI i + (1 : Int32) = nI (i + 1) from nI_1 i]
      cases c2B f i <;> rfl)
    rfl 5 1 1000 rfl (by omega)
  have e : allB (c2B f) 0 6 = allB (c2B f) 1 5 := by
    show (c2B f 0 && allB (c2B f) 1 5) = _
    have : c2B f 0 = true := rfl
    rw [this, Bool.true_and]
  rw [show (1 : Int32) = nI 1 from rfl, h, e]
  cases allB (c2B f) 1 5 <;> rfl
theorem s_names5 (f : Nat → Int32) : m_X5_namesRight f = some (bi (allB (c2B f) 0 6)) := by
  unfold m_X5_namesRight
  have h := q_all (st := fun q => m_X5_namesRight_L2 f q) (fun i => nI i) (c2B f) (0 : Int32) 6
    (by
      intro i hi
      show m_X5_namesRight_L2 f (nI i) = _
      unfold m_X5_namesRight_L2
      rw [e_nd10, show (6 : Int32) = nI 6 from rfl, i_nle hi (by omega), show (0 : Int32) = nI 0 from rfl, s_nd2 hi, show nI i + (1 : Int32) = nI (i + 1) from nI_1 i]
      cases c2B f i <;> rfl)
    rfl 6 0 1000 rfl (by omega)
  rw [show (0 : Int32) = nI 0 from rfl, h]
  cases allB (c2B f) 0 6 <;> rfl
