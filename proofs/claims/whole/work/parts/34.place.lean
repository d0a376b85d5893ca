/-! free runs, and which one is taken -/
def frR (m : Int32) (b : Nat) : Nat → Bool
  | 0 => true
  | n + 1 => frR m b n && !(bt m (b + n))
theorem frR_iff {m : Int32} {b : Nat} : ∀ {n : Nat}, frR m b n = true ↔ ∀ k, k < n → bt m (b + k) = false
  | 0 => ⟨fun _ k h => absurd h (Nat.not_lt_zero _), fun _ => rfl⟩
  | n + 1 => by
    rw [frR, Bool.and_eq_true, frR_iff]
    constructor
    · rintro ⟨h1, h2⟩ k hk
      rcases Nat.lt_or_ge k n with q | q
      · exact h1 k q
      · have : k = n := by omega
        subst this
        simpa using h2
    · intro h
      exact ⟨fun k hk => h k (by omega), by rw [h n (by omega)]; rfl⟩
def isFr (m : Int32) (b r : Nat) : Bool := frR m b (2 ^ r) && (decide (r = 5) || !(frR m (b - b % 2 ^ (r + 1)) (2 ^ (r + 1))))
theorem r_and {m : Int32} {e : Nat} (h0 : 0 < e) (h : okE e = true) : ((m &&& mbE e) = 0) ↔ frR m (stN e) (szN e) = true := by
  have h1 := ok_lt h
  have h2 := r_ok e h1 h
  rw [frR_iff]
  constructor
  · intro q k hk
    have q1 : bt (m &&& mbE e) (stN e + k) = bt 0 (stN e + k) := by rw [q]
    rw [b_and, b_0, r_bit e h1 h _ (by omega)] at q1
    have : inE e (stN e + k) = true := by
      unfold inE
      simp only [Bool.and_eq_true, decide_eq_true_eq]
      omega
    rw [this, Bool.and_true] at q1
    exact q1
  · intro q
    apply b_ext
    intro i hi
    rw [b_and, b_0, r_bit e h1 h i hi]
    by_cases c : inE e i = true
    · have c2 := c
      unfold inE at c2
      simp only [Bool.and_eq_true, decide_eq_true_eq] at c2
      have := q (i - stN e) (by omega)
      rw [show stN e + (i - stN e) = i by omega] at this
      rw [this, Bool.false_and]
    · rw [Bool.not_eq_true] at c
      rw [c, Bool.and_false]
theorem r_shl1 : ∀ r, r < 6 → g_shl (1 : Int32) (nI r) = nI (2 ^ r) := by decide +kernel
theorem r_mask2 : ∀ b, b < 32 → ∀ r, r < 5 → nI b &&& (-(g_shl (2 : Int32) (nI r))) = nI (b - b % 2 ^ (r + 1)) := by decide +kernel
theorem r_shr32 : ∀ q, q < 6 → g_shr (32 : Int32) (nI q) = nI (2 ^ (5 - q)) := by decide +kernel
theorem r_shlj : ∀ j, j < 32 → ∀ q, q < 6 → g_shl (nI j) (nI q) = nI (j * 2 ^ q) := by decide +kernel
theorem r_div2 : ∀ b, b < 32 → ∀ r, r < 5 → g_div (nI b) (g_shl (2 : Int32) (nI r)) = some (nI (b / 2 ^ (r + 1))) ∧ nI (b / 2 ^ (r + 1)) * g_shl (2 : Int32) (nI r) = nI (b - b % 2 ^ (r + 1)) := by decide +kernel
theorem r_al : ∀ b, b < 32 → ∀ r, r < 5 → (b - b % 2 ^ (r + 1)) % 2 ^ (r + 1) = 0 ∧ b - b % 2 ^ (r + 1) < 32 := by decide +kernel
theorem bi_0 (b : Bool) : (bi b = (0 : Int32)) ↔ b = false := by cases b <;> decide
theorem i_bi {α : Type} {b : Bool} {x y : α} : (if bi b = (0 : Int32) then x else y) = if b = true then y else x := by
  cases b
  · rfl
  · rfl
theorem s_isFree2 {f : Nat → Int32} {b r : Nat} (hb : b < 32) (hr : r < 6) (ha : b % 2 ^ r = 0) : m_X2_isFreeRun f (nI b) (nI r) = some (bi (isFr (f 45) b r)) := by
  unfold m_X2_isFreeRun
  rw [show (45 : Int32) = nI 45 from rfl, q_ald (by omega) (by omega), Option.bind_some, r_mapBits b hb r hr ha, Option.bind_some]
  have hc := r_cell b hb r hr ha
  have h1 := r_and (m := f 45) (e := 1 + b + 32 * r) (by omega) hc.1
  rw [hc.2.1, hc.2.2.1] at h1
  unfold isFr
  by_cases c : f 45 &&& mbE (1 + b + 32 * r) = 0
  · rw [if_pos c, h1.mp c, Bool.true_and]
    by_cases c5 : r = 5
    · subst c5
      rfl
    · rw [show (5 : Int32) = nI 5 from rfl, i_ne c5 (by omega) (by omega), r_mask2 b hb r (by omega)]
      have ha2 := r_al b hb r (by omega)
      rw [show nI r + (1 : Int32) = nI (r + 1) from nI_1 r, r_mapBits _ ha2.2 (r + 1) (by omega) ha2.1, Option.bind_some]
      have hc2 := r_cell _ ha2.2 (r + 1) (by omega) ha2.1
      have h2 := r_and (m := f 45) (e := 1 + (b - b % 2 ^ (r + 1)) + 32 * (r + 1)) (by omega) hc2.1
      rw [hc2.2.1, hc2.2.2.1] at h2
      rw [decide_eq_false c5, Bool.false_or]
      by_cases c3 : f 45 &&& mbE (1 + (b - b % 2 ^ (r + 1)) + 32 * (r + 1)) = 0
      · rw [if_pos c3, h2.mp c3]; rfl
      · rw [if_neg c3]
        have : frR (f 45) (b - b % 2 ^ (r + 1)) (2 ^ (r + 1)) = false := by
          rw [← Bool.not_eq_true]; exact fun q => c3 (h2.mpr q)
        rw [this]; rfl
  · rw [if_neg c]
    have : frR (f 45) b (2 ^ r) = false := by
      rw [← Bool.not_eq_true]; exact fun q => c (h1.mpr q)
    rw [this]; rfl
theorem s_allFree {m : Int32} {b r : Nat} (hr : r < 6) (hb : b + 2 ^ r ≤ 32) : m_X5_allFree m (nI b) (nI r) = some (bi (frR m b (2 ^ r))) := by
  unfold m_X5_allFree
  have h := q_for (st := fun q => m_X5_allFree_L5 m (nI b) (nI r) q.1 q.2) (fun i (a : Int32) => (a, nI (b + i))) (2 ^ r) (fun i a => a = bi (frR m b i)) (fun v => v = bi (frR m b (2 ^ r)))
    (by
      intro i a hi ha
      left
      subst ha
      refine ⟨bi (frR m b (i + 1)), ?_, rfl⟩
      show m_X5_allFree_L5 m (nI b) (nI r) (bi (frR m b i)) (nI (b + i)) = _
      unfold m_X5_allFree_L5
      rw [r_shl1 r hr, nI_add, i_nle (by omega) (by omega), i_bi, show nI (b + i) + (1 : Int32) = nI (b + (i + 1)) from nI_1 _, frR]
      cases c : frR m b i with
      | false => rfl
      | true =>
        rw [if_pos rfl]
        by_cases c2 : bt m (b + i) = false
        · rw [if_pos (Eq.mpr (b_test m (b + i) (by omega)) c2), c2]; rfl
        · rw [if_neg (fun q => c2 (Eq.mp (b_test m (b + i) (by omega)) q))]
          rw [Bool.not_eq_false] at c2
          rw [c2]; rfl)
    (by
      intro a ha
      subst ha
      refine ⟨_, ?_, rfl⟩
      show m_X5_allFree_L5 m (nI b) (nI r) (bi (frR m b (2 ^ r))) (nI (b + 2 ^ r)) = _
      unfold m_X5_allFree_L5
      rw [r_shl1 r hr, nI_add, i_le (Nat.le_refl _) (by omega)])
    (2 ^ r) 0 1 1000 (Nat.zero_add _) rfl (by omega)
  obtain ⟨v, h1, h2⟩ := h
  show (g_loop _ 1000 ((1 : Int32), nI b)).bind _ = _
  rw [Nat.add_zero] at h1
  rw [h1, h2, Option.bind_some]
  show (g_bool (bi (frR m b (2 ^ r)))).bind _ = _
  cases frR m b (2 ^ r) <;> rfl
theorem s_isFree5 {m : Int32} {b r : Nat} (hb : b < 32) (hr : r < 6) (ha : b % 2 ^ r = 0) : m_X5_isFree m (nI b) (nI r) = some (bi (isFr m b r)) := by
  have hc := r_cell b hb r hr ha
  unfold m_X5_isFree
  rw [s_allFree hr hc.2.2.2.2, Option.bind_some, i_bi]
  unfold isFr
  cases c : frR m b (2 ^ r) with
  | false => rfl
  | true =>
    rw [if_pos rfl, Bool.true_and]
    by_cases c5 : r = 5
    · subst c5; rfl
    · have ha2 := r_al b hb r (by omega)
      have hc2 := r_cell _ ha2.2 (r + 1) (by omega) ha2.1
      have hd := r_div2 b hb r (by omega)
      rw [show (5 : Int32) = nI 5 from rfl, i_ne c5 (by omega) (by omega), hd.1, Option.bind_some, hd.2, show nI r + (1 : Int32) = nI (r + 1) from nI_1 r, s_allFree (by omega) hc2.2.2.2.2, Option.bind_some, i_bi, decide_eq_false c5, Bool.false_or]
      cases frR m (b - b % 2 ^ (r + 1)) (2 ^ (r + 1)) <;> rfl
/-- the first free run of order q from the j-th on -/
def fsq (m : Int32) (q : Nat) : Nat → Nat → Option Nat
  | 0, _ => none
  | d + 1, j => if isFr m (j * 2 ^ q) q then some (j * 2 ^ q) else fsq m q d (j + 1)
def plc (m : Int32) : Nat → Nat → Option Nat
  | 0, _ => none
  | d + 1, q => match fsq m q (2 ^ (5 - q)) 0 with
    | some b => some b
    | none => plc m d (q + 1)
theorem r_pow : ∀ q, q < 6 → 2 ^ (5 - q) * 2 ^ q = 32 ∧ 2 ^ q ≤ 32 ∧ 2 ^ (5 - q) ≤ 32 ∧ 0 < 2 ^ q := by decide +kernel
theorem fsq_some {m : Int32} {q b : Nat} : ∀ {d j : Nat}, fsq m q d j = some b → ∃ i, j ≤ i ∧ i < j + d ∧ b = i * 2 ^ q ∧ isFr m b q = true
  | 0, j, h => by rw [fsq] at h; cases h
  | d + 1, j, h => by
    rw [fsq] at h
    by_cases c : isFr m (j * 2 ^ q) q = true
    · rw [if_pos c] at h
      cases h
      exact ⟨j, Nat.le_refl _, by omega, rfl, c⟩
    · rw [if_neg c] at h
      obtain ⟨i, h1, h2, h3⟩ := fsq_some h
      exact ⟨i, by omega, by omega, h3⟩
theorem r_mul_lt {q j : Nat} (hq : q < 6) (hj : j < 2 ^ (5 - q)) : j * 2 ^ q < 32 ∧ (j + 1) * 2 ^ q ≤ 32 := by
  have h := r_pow q hq
  have h1 : (j + 1) * 2 ^ q ≤ 2 ^ (5 - q) * 2 ^ q := Nat.mul_le_mul_right _ hj
  have h2 : (j + 1) * 2 ^ q = j * 2 ^ q + 2 ^ q := Nat.succ_mul _ _
  omega
theorem s_inner5 {m : Int32} {q : Nat} (hq : q < 6) : ∀ (d j N : Nat), j + d = 2 ^ (5 - q) → d < N → g_loop (fun z => m_X5_place_L9 m (nI q) z) N (nI (j * 2 ^ q)) = some (match fsq m q d j with | some b => .inl (nI b) | none => .inr ()) := by
  intro d
  induction d with
  | zero =>
    intro j N h1 h2
    obtain ⟨N, rfl⟩ : ∃ k, N = k + 1 := ⟨N - 1, by omega⟩
    refine q_inr ?_
    show m_X5_place_L9 m (nI q) (nI (j * 2 ^ q)) = _
    unfold m_X5_place_L9
    have h3 := r_pow q hq
    rw [show j = 2 ^ (5 - q) by omega, h3.1]
    rfl
  | succ d ih =>
    intro j N h1 h2
    obtain ⟨N, rfl⟩ : ∃ k, N = k + 1 := ⟨N - 1, by omega⟩
    have h3 := r_mul_lt hq (show j < 2 ^ (5 - q) by omega)
    have e : m_X5_place_L9 m (nI q) (nI (j * 2 ^ q)) = if isFr m (j * 2 ^ q) q = true then some (.inr (.inl (nI (j * 2 ^ q)))) else some (.inl (nI ((j + 1) * 2 ^ q))) := by
      unfold m_X5_place_L9
      rw [show (32 : Int32) = nI 32 from rfl, i_nle h3.1 (by omega), s_isFree5 h3.1 hq (Nat.mul_mod_left _ _), Option.bind_some, i_bi, r_shl1 q hq, nI_add, Nat.succ_mul]
    rw [fsq]
    by_cases c : isFr m (j * 2 ^ q) q = true
    · rw [if_pos c]
      rw [if_pos c] at e
      exact q_inr e
    · rw [if_neg c]
      rw [if_neg c] at e
      rw [q_inl e]
      exact ih (j + 1) N (by omega) (by omega)
theorem s_outer5 {m : Int32} : ∀ (d q N : Nat), q + d = 6 → d < N → g_loop (fun z => m_X5_place_L2 m z) N (nI q) = some (match plc m d q with | some b => .inl (nI b) | none => .inr ()) := by
  intro d
  induction d with
  | zero =>
    intro q N h1 h2
    obtain ⟨N, rfl⟩ : ∃ k, N = k + 1 := ⟨N - 1, by omega⟩
    have : q = 6 := by omega
    subst this
    exact q_inr rfl
  | succ d ih =>
    intro q N h1 h2
    obtain ⟨N, rfl⟩ : ∃ k, N = k + 1 := ⟨N - 1, by omega⟩
    have h3 := r_pow q (by omega)
    have e : m_X5_place_L2 m (nI q) = match fsq m q (2 ^ (5 - q)) 0 with | some b => some (.inr (.inl (nI b))) | none => some (.inl (nI (q + 1))) := by
      unfold m_X5_place_L2
      have h4 := s_inner5 (m := m) (q := q) (by omega) (2 ^ (5 - q)) 0 1000 (by omega) (by omega)
      rw [Nat.zero_mul] at h4
      rw [show (5 : Int32) = nI 5 from rfl, i_nlt (by omega) (by omega), show (0 : Int32) = nI 0 from rfl, h4, Option.bind_some, show nI q + (1 : Int32) = nI (q + 1) from nI_1 q]
      cases fsq m q (2 ^ (5 - q)) 0 <;> rfl
    rw [plc]
    cases c : fsq m q (2 ^ (5 - q)) 0 with
    | some b =>
      rw [c] at e
      exact q_inr e
    | none =>
      rw [c] at e
      rw [q_inl e]
      exact ih (q + 1) N (by omega) (by omega)
theorem s_place {m : Int32} {r : Nat} (hr : r < 6) : m_X5_place m (nI r) = some (match plc m (6 - r) r with | some b => nI b | none => -1) := by
  unfold m_X5_place
  rw [s_outer5 (6 - r) r 1000 (by omega) (by omega), Option.bind_some]
  cases plc m (6 - r) r <;> rfl
theorem plc_some {m : Int32} {b : Nat} : ∀ {d q : Nat}, q + d = 6 → plc m d q = some b → ∃ q', q ≤ q' ∧ q' < 6 ∧ b < 32 ∧ b % 2 ^ q' = 0 ∧ isFr m b q' = true := by
  intro d
  induction d with
  | zero => intro q _ h; rw [plc] at h; cases h
  | succ d ih =>
    intro q h1 h
    rw [plc] at h
    cases c : fsq m q (2 ^ (5 - q)) 0 with
    | some b' =>
      rw [c] at h
      cases h
      obtain ⟨i, h2, h3, h4, h5⟩ := fsq_some c
      have := r_mul_lt (q := q) (j := i) (by omega) (by omega)
      exact ⟨q, Nat.le_refl _, by omega, by omega, by rw [h4]; exact Nat.mul_mod_left _ _, h5⟩
    | none =>
      rw [c] at h
      obtain ⟨q', h2, h3⟩ := ih (by omega) h
      exact ⟨q', by omega, h3⟩
theorem r_down : ∀ b, b < 32 → ∀ q, q < 6 → b % 2 ^ q = 0 → ∀ r, r ≤ q → b % 2 ^ r = 0 ∧ 2 ^ r ≤ 2 ^ q := by decide +kernel
/-- what is placed is aligned, and all of it is free -/
theorem plc_ok {m : Int32} {b r : Nat} (hr : r < 6) (h : plc m (6 - r) r = some b) : b < 32 ∧ b % 2 ^ r = 0 ∧ ∀ k, k < 2 ^ r → bt m (b + k) = false := by
  obtain ⟨q, h1, h2, h3, h4, h5⟩ := plc_some (by omega) h
  have h6 := r_down b h3 q h2 h4 r h1
  refine ⟨h3, h6.1, fun k hk => ?_⟩
  unfold isFr at h5
  rw [Bool.and_eq_true, frR_iff] at h5
  exact h5.1 k (by omega)

/-- what a take does to the map -/
def tkm (f : Nat → Int32) (b r : Nat) : Nat → Int32 := upd f 45 (f 45 ||| mbE (1 + b + 32 * r))
theorem s_take_in {f : Nat → Int32} {q r : Nat} (hq : q < 6) (hr : r ≤ q) : ∀ (d j N : Nat), j + d = 2 ^ (5 - q) → d < N → g_loop (fun z => m_X2_takeRun_L9 (nI r) f (nI q) z) N (nI j) = some (match fsq (f 45) q d j with | some b => .inl (nI (1 + b + 32 * r), tkm f b r) | none => .inr ()) := by
  intro d
  induction d with
  | zero =>
    intro j N h1 h2
    obtain ⟨N, rfl⟩ : ∃ k, N = k + 1 := ⟨N - 1, by omega⟩
    refine q_inr ?_
    show m_X2_takeRun_L9 (nI r) f (nI q) (nI j) = _
    unfold m_X2_takeRun_L9
    have h3 := r_pow q hq
    rw [r_shr32 q hq, i_le (show 2 ^ (5 - q) ≤ j by omega) (by omega)]
    rfl
  | succ d ih =>
    intro j N h1 h2
    obtain ⟨N, rfl⟩ : ∃ k, N = k + 1 := ⟨N - 1, by omega⟩
    have h3 := r_mul_lt hq (show j < 2 ^ (5 - q) by omega)
    have h4 := r_down (j * 2 ^ q) h3.1 q hq (Nat.mul_mod_left _ _) r hr
    have h5 := r_pow q hq
    have e : m_X2_takeRun_L9 (nI r) f (nI q) (nI j) = if isFr (f 45) (j * 2 ^ q) q = true then some (.inr (.inl (nI (1 + j * 2 ^ q + 32 * r), tkm f (j * 2 ^ q) r))) else some (.inl (nI (j + 1))) := by
      unfold m_X2_takeRun_L9
      rw [r_shr32 q hq, i_nle (show j < 2 ^ (5 - q) by omega) (by omega), r_shlj j (by omega) q hq, s_isFree2 h3.1 hq (Nat.mul_mod_left _ _), Option.bind_some, i_bi, show nI j + (1 : Int32) = nI (j + 1) from nI_1 j, show (45 : Int32) = nI 45 from rfl, q_ald (by omega) (by omega), Option.bind_some, r_mapBits _ h3.1 r (by omega) h4.1, Option.bind_some, q_ast (by omega) (by omega), Option.bind_some, r_cellOf, Option.bind_some]
      rfl
    rw [fsq]
    by_cases c : isFr (f 45) (j * 2 ^ q) q = true
    · rw [if_pos c]
      rw [if_pos c] at e
      exact q_inr e
    · rw [if_neg c]
      rw [if_neg c] at e
      rw [q_inl e]
      exact ih (j + 1) N (by omega) (by omega)
theorem s_take_out {f : Nat → Int32} {r : Nat} : ∀ (d q N : Nat), r ≤ q → q + d = 6 → d < N → g_loop (fun z => m_X2_takeRun_L2 (nI r) f z) N (nI q) = some (match plc (f 45) d q with | some b => .inl (nI (1 + b + 32 * r), tkm f b r) | none => .inr ()) := by
  intro d
  induction d with
  | zero =>
    intro q N h0 h1 h2
    obtain ⟨N, rfl⟩ : ∃ k, N = k + 1 := ⟨N - 1, by omega⟩
    have : q = 6 := by omega
    subst this
    exact q_inr rfl
  | succ d ih =>
    intro q N h0 h1 h2
    obtain ⟨N, rfl⟩ : ∃ k, N = k + 1 := ⟨N - 1, by omega⟩
    have h3 := r_pow q (by omega)
    have e : m_X2_takeRun_L2 (nI r) f (nI q) = match fsq (f 45) q (2 ^ (5 - q)) 0 with | some b => some (.inr (.inl (nI (1 + b + 32 * r), tkm f b r))) | none => some (.inl (nI (q + 1))) := by
      unfold m_X2_takeRun_L2
      have h4 := s_take_in (f := f) (q := q) (r := r) (by omega) h0 (2 ^ (5 - q)) 0 1000 (by omega) (by omega)
      rw [show (5 : Int32) = nI 5 from rfl, i_nlt (by omega) (by omega), show (0 : Int32) = nI 0 from rfl, h4, Option.bind_some, show nI q + (1 : Int32) = nI (q + 1) from nI_1 q]
      cases fsq (f 45) q (2 ^ (5 - q)) 0 <;> rfl
    rw [plc]
    cases c : fsq (f 45) q (2 ^ (5 - q)) 0 with
    | some b =>
      rw [c] at e
      exact q_inr e
    | none =>
      rw [c] at e
      rw [q_inl e]
      exact ih (q + 1) N (by omega) (by omega) (by omega)
theorem s_takeRun {f : Nat → Int32} {r : Nat} (hr : r < 6) : m_X2_takeRun f (nI r) = some (match plc (f 45) (6 - r) r with | some b => (nI (1 + b + 32 * r), tkm f b r) | none => (0, f)) := by
  unfold m_X2_takeRun
  rw [s_take_out (6 - r) r 1000 (Nat.le_refl _) (by omega) (by omega), Option.bind_some]
  cases plc (f 45) (6 - r) r <;> rfl
/-- the run taken: its order at most r - 1, the greatest for which there is one -/
def chs (m : Int32) : Nat → Option (Nat × Nat)
  | 0 => none
  | r + 1 => match plc m (6 - r) r with
    | some b => some (b, r)
    | none => chs m r
def ordN (n : Nat) : Nat := if n ≤ 1 then 0 else if n ≤ 2 then 1 else if n ≤ 4 then 2 else if n ≤ 8 then 3 else if n ≤ 16 then 4 else 5
theorem ordN_lt (n : Nat) : ordN n < 6 := by unfold ordN; split <;> (try omega) <;> split <;> (try omega) <;> split <;> (try omega) <;> split <;> (try omega) <;> split <;> omega
theorem s_orderFor : ∀ n, n < 33 → m_X2_orderFor (nI n) = some (nI (ordN n)) := by decide +kernel
theorem s_ord5 : ∀ n, n < 33 → g_loop (fun q => if nI n ≤ g_shl (1 : Int32) q then (some (.inr q) : Option (Int32 ⊕ Int32)) else some (.inl (q + (1 : Int32)))) 1000 (nI 0) = some (nI (ordN n)) := by decide +kernel
theorem chs_ok {m : Int32} {b r : Nat} : ∀ {n : Nat}, n ≤ 6 → chs m n = some (b, r) → r < n ∧ r < 6 ∧ b < 32 ∧ b % 2 ^ r = 0 ∧ ∀ k, k < 2 ^ r → bt m (b + k) = false
  | 0, _, h => by rw [chs] at h; cases h
  | n + 1, hn, h => by
    rw [chs] at h
    cases c : plc m (6 - n) n with
    | some b' =>
      rw [c] at h
      cases h
      have := plc_ok (by omega) c
      exact ⟨by omega, by omega, this⟩
    | none =>
      rw [c] at h
      have := chs_ok (n := n) (by omega) h
      exact ⟨by omega, this.2⟩
theorem nI_mm (n : Nat) : nI (n + 1) + (-1 : Int32) = nI n := pk_m1 n
theorem s_tkF {f : Nat → Int32} : ∀ (n N : Nat), n ≤ 6 → n < N → g_loop (fun q => m_X2_takeRunFor_L5 q.1 q.2) N (nI n + (-1 : Int32), f) = some (match chs (f 45) n with | some (b, r) => .inl (nI (1 + b + 32 * r), tkm f b r) | none => .inr f) := by
  intro n
  induction n with
  | zero =>
    intro N h1 h2
    obtain ⟨N, rfl⟩ : ∃ k, N = k + 1 := ⟨N - 1, by omega⟩
    exact q_inr rfl
  | succ n ih =>
    intro N h1 h2
    obtain ⟨N, rfl⟩ : ∃ k, N = k + 1 := ⟨N - 1, by omega⟩
    have e : m_X2_takeRunFor_L5 (nI n) f = match plc (f 45) (6 - n) n with | some b => some (.inr (.inl (nI (1 + b + 32 * n), tkm f b n))) | none => some (.inl (nI n + (-1 : Int32), f)) := by
      unfold m_X2_takeRunFor_L5
      rw [show (0 : Int32) = nI 0 from rfl, i_nlt (Nat.zero_le _) (by omega), s_takeRun (by omega), Option.bind_some]
      cases c : plc (f 45) (6 - n) n with
      | none => rfl
      | some b =>
        have := plc_ok (by omega) c
        show (if nI (1 + b + 32 * n) = nI 0 then _ else _) = _
        rw [i_ne (by omega) (by omega) (by omega)]
    rw [nI_mm, chs]
    cases c : plc (f 45) (6 - n) n with
    | some b =>
      rw [c] at e
      exact q_inr e
    | none =>
      rw [c] at e
      rw [q_inl (s' := (nI n + (-1 : Int32), f)) e]
      exact ih N (by omega) (by omega)
theorem s_takeRunFor {f : Nat → Int32} {n : Nat} (hn : n < 33) : m_X2_takeRunFor f (nI n) = some (match chs (f 45) (ordN n + 1) with | some (b, r) => (nI (1 + b + 32 * r), tkm f b r) | none => (0, f)) := by
  unfold m_X2_takeRunFor
  have h := ordN_lt n
  have h1 := s_tkF (f := f) (ordN n + 1) 1000 (by omega) (by omega)
  rw [nI_mm] at h1
  rw [s_orderFor n hn, Option.bind_some, h1, Option.bind_some]
  cases chs (f 45) (ordN n + 1) <;> rfl
/-- the reference's search for an order: -1 when no block is free -/
theorem s_ser {m : Int32} : ∀ (n N : Nat), n ≤ 6 → n < N → g_loop (fun q => m_X5_tryGrow_L88 m q) N (nI n + (-1 : Int32)) = some (match chs m n with | some (_, r) => nI r | none => -1) := by
  intro n
  induction n with
  | zero =>
    intro N h1 h2
    obtain ⟨N, rfl⟩ : ∃ k, N = k + 1 := ⟨N - 1, by omega⟩
    exact q_inr rfl
  | succ n ih =>
    intro N h1 h2
    obtain ⟨N, rfl⟩ : ∃ k, N = k + 1 := ⟨N - 1, by omega⟩
    have e : m_X5_tryGrow_L88 m (nI n) = match plc m (6 - n) n with | some b => some (.inr (nI n)) | none => some (.inl (nI n + (-1 : Int32))) := by
      unfold m_X5_tryGrow_L88
      rw [show (0 : Int32) = nI 0 from rfl, i_nlt (Nat.zero_le _) (by omega), s_place (by omega), Option.bind_some]
      cases c : plc m (6 - n) n with
      | none => rfl
      | some b =>
        have := plc_ok (by omega) c
        show (if nI 0 ≤ nI b then _ else _) = _
        rw [i_le (Nat.zero_le _) (by omega)]
    rw [nI_mm, chs]
    cases c : plc m (6 - n) n with
    | some b =>
      rw [c] at e
      exact q_inr e
    | none =>
      rw [c] at e
      rw [q_inl (s' := nI n + (-1 : Int32)) e]
      exact ih N (by omega) (by omega)
theorem chs_plc {m : Int32} {b r : Nat} : ∀ {n : Nat}, n ≤ 6 → chs m n = some (b, r) → plc m (6 - r) r = some b
  | 0, _, h => by rw [chs] at h; cases h
  | n + 1, hn, h => by
    rw [chs] at h
    cases c : plc m (6 - n) n with
    | some b' =>
      rw [c] at h
      cases h
      exact c
    | none =>
      rw [c] at h
      exact chs_plc (n := n) (by omega) h
