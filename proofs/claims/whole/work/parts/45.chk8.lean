/-! clause 8 -/
def bl (x : Int64) (i : Nat) : Bool := x.toBitVec.getLsbD i
theorem bl_or (x y : Int64) (i : Nat) : bl (x ||| y) i = (bl x i || bl y i) := by unfold bl; rw [Int64.toBitVec_or, BitVec.getLsbD_or]
theorem bl_and (x y : Int64) (i : Nat) : bl (x &&& y) i = (bl x i && bl y i) := by unfold bl; rw [Int64.toBitVec_and, BitVec.getLsbD_and]
theorem bl_0 (i : Nat) : bl 0 i = false := by
  show (0#64).getLsbD i = false
  exact BitVec.getLsbD_zero
theorem bl_one : ∀ k, k < 64 → (g_lshl (1 : Int64) (nI k)).toBitVec = BitVec.twoPow 64 k := by decide +kernel
theorem bl_sh (k i : Nat) (hk : k < 64) : bl (g_lshl (1 : Int64) (nI k)) i = decide (i = k) := by
  unfold bl
  rw [bl_one k hk, BitVec.getLsbD_twoPow]
  by_cases c : i = k
  · subst c; simp [hk]
  · have c2 : ¬ k = i := fun q => c q.symm
    simp [c, c2]
theorem bl_1 (i : Nat) : bl 1 i = decide (i = 0) := by
  unfold bl
  rw [show (1 : Int64).toBitVec = BitVec.twoPow 64 0 by decide, BitVec.getLsbD_twoPow]
  by_cases c : i = 0
  · subst c; rfl
  · have c2 : ¬ 0 = i := fun q => c q.symm
    simp [c, c2]
theorem bl_ext {x y : Int64} (h : ∀ i, i < 64 → bl x i = bl y i) : x = y := Int64.toBitVec_inj.mp (BitVec.eq_of_getLsbD_eq (fun i hi => h i hi))
theorem sl_u : ∀ n, n < 64 → (((nI n).toInt64.toUInt64 &&& Int64.toUInt64 63).toBitVec % 64).toNat = n := by decide +kernel
theorem bl_ushr (n : Nat) (hn : n < 64) (x : Int64) (i : Nat) : bl (g_lushr x (nI n)) i = bl x (n + i) := by
  show (x.toUInt64 >>> ((nI n).toInt64.toUInt64 &&& Int64.toUInt64 63)).toBitVec.getLsbD i = x.toUInt64.toBitVec.getLsbD (n + i)
  rw [UInt64.toBitVec_shiftRight]
  show (x.toUInt64.toBitVec >>> (((nI n).toInt64.toUInt64 &&& Int64.toUInt64 63).toBitVec % 64).toNat).getLsbD i = _
  rw [sl_u n hn, BitVec.getLsbD_ushiftRight]
theorem lg_cmp0 (a : Int64) : lg_cmp a 0 = 0 ↔ a = 0 := by
  unfold lg_cmp
  by_cases h : a > 0
  · rw [if_pos h]
    constructor
    · intro q; exact absurd q (by decide)
    · intro q; subst q; exact absurd h (by decide)
  · rw [if_neg h]
    by_cases c : a = 0
    · rw [if_pos c]; exact ⟨fun _ => c, fun _ => rfl⟩
    · rw [if_neg c]; exact ⟨fun q => absurd q (by decide), fun q => absurd q c⟩
theorem bl_test (x : Int64) (k : Nat) (hk : k < 64) : (lg_cmp (g_lushr x (nI k) &&& (1 : Int64)) (0 : Int64) = (0 : Int32)) = (bl x k = false) := by
  apply propext
  rw [lg_cmp0]
  constructor
  · intro h
    have h0 : bl (g_lushr x (nI k) &&& (1 : Int64)) 0 = bl (0 : Int64) 0 := by rw [h]
    rw [bl_and, bl_ushr k hk, bl_1, bl_0] at h0
    simpa using h0
  · intro h
    apply bl_ext
    intro i hi
    rw [bl_and, bl_ushr k hk, bl_1, bl_0]
    by_cases e : i = 0
    · subst e; simp [h]
    · simp [e]
theorem nI_nm {w : Nat} (h : w < 2 ^ 31) : ¬ nI w = (-1 : Int32) := by
  intro q
  rw [fa_eq, nI_toInt h] at q
  have : (-1 : Int32).toInt = -1 := by decide
  omega
theorem s_bw {f : Nat → Int32} {s n o l r : Nat} {E : Nat → Nat} (hS : Slo f s n o l r E) (hs : s < 6) : ∃ B : Int64, m_X0_bitsOfWords f (nI s) = some B ∧ ∀ w, w < 64 → (bl B w = true ↔ ∃ p, p < l ∧ idx E 4 0 p = some w) := by
  obtain ⟨⟨h1, h2, h3, h4⟩, ⟨h5, h6, h7, h8⟩, h9, h10, h11⟩ := hS
  have h := q_for (st := fun q => m_X0_bitsOfWords_L12 (nI s) f (nI l) q.1 q.2) (fun i (a : Int64) => (a, nI i)) l (fun i a => ∀ w, w < 64 → (bl a w = true ↔ ∃ p, p < i ∧ idx E 4 0 p = some w)) (fun r => ∀ w, w < 64 → (bl r w = true ↔ ∃ p, p < l ∧ idx E 4 0 p = some w))
    (by
      intro i a hi ha
      left
      have e : m_X0_bitsOfWords_L12 (nI s) f (nI l) a (nI i) = some (.inl (match idx E 4 0 i with | some w => a ||| g_lshl (1 : Int64) (nI w) | none => a, nI (i + 1))) := by
        unfold m_X0_bitsOfWords_L12
        rw [i_nle hi (by omega), s_wordIndex hs h4 h9 (by omega), Option.bind_some, show nI i + (1 : Int32) = nI (i + 1) from nI_1 i]
        cases h : idx E 4 0 i with
        | none => rfl
        | some w =>
          have hw := idx_lt h9 h
          show (if nI w = (-1 : Int32) then _ else _) = _
          rw [if_neg (nI_nm (by omega))]
      refine ⟨_, e, fun w hw => ?_⟩
      cases h : idx E 4 0 i with
      | none =>
        show bl a w = true ↔ _
        rw [ha w hw]
        constructor
        · rintro ⟨p, p1, p2⟩; exact ⟨p, by omega, p2⟩
        · rintro ⟨p, p1, p2⟩
          rcases Nat.lt_or_ge p i with z | z
          · exact ⟨p, z, p2⟩
          · have : p = i := by omega
            subst this; rw [h] at p2; cases p2
      | some v =>
        have hv := idx_lt h9 h
        show bl (a ||| g_lshl (1 : Int64) (nI v)) w = true ↔ _
        rw [bl_or, bl_sh v w (by omega), Bool.or_eq_true, ha w hw, decide_eq_true_eq]
        constructor
        · rintro (⟨p, p1, p2⟩ | z)
          · exact ⟨p, by omega, p2⟩
          · subst z; exact ⟨i, by omega, h⟩
        · rintro ⟨p, p1, p2⟩
          rcases Nat.lt_or_ge p i with z | z
          · exact Or.inl ⟨p, z, p2⟩
          · have : p = i := by omega
            subst this; rw [h] at p2; cases p2; exact Or.inr rfl)
    (by
      intro a ha
      refine ⟨a, ?_, ha⟩
      show m_X0_bitsOfWords_L12 (nI s) f (nI l) a (nI l) = _
      unfold m_X0_bitsOfWords_L12
      rw [i_le (Nat.le_refl _) (by omega)])
    l 0 (0 : Int64) 1000 (by omega) (fun w hw => ⟨fun q => (by rw [bl_0] at q; cases q), fun ⟨p, p1, _⟩ => absurd p1 (Nat.not_lt_zero _)⟩) (by omega)
  obtain ⟨B, x1, x2⟩ := h
  refine ⟨B, ?_, x2⟩
  unfold m_X0_bitsOfWords
  rw [s_lengthOf hs, Option.bind_some, h3]
  rw [show ((0 : Int64), (0 : Int32)) = ((0 : Int64), nI 0) from rfl, x1]
  rfl
theorem s_loose2 {f : Nat → Int32} {N O L R : Nat → Nat} {E : Nat → Nat → Nat} (hS : ∀ s, s < 6 → Slo f s (N s) (O s) (L s) (R s) (E s)) : ∃ v : Bool, m_X0_looseWordsAreZero f = some (bi v) ∧ (v = true ↔ ∀ w, w < 64 → (∃ s, s < 6 ∧ ∃ p, p < L s ∧ idx (E s) 4 0 p = some w) ∨ f (46 + w) = 0) := by
  obtain ⟨B, b1, b2⟩ := q_for (st := fun q => m_X0_looseWordsAreZero_L4 f q.1 q.2) (fun i (a : Int64) => (a, nI i)) 6 (fun i a => ∀ w, w < 64 → (bl a w = true ↔ ∃ s, s < i ∧ ∃ p, p < L s ∧ idx (E s) 4 0 p = some w)) (fun r => ∀ w, w < 64 → (bl r w = true ↔ ∃ s, s < 6 ∧ ∃ p, p < L s ∧ idx (E s) 4 0 p = some w))
    (by
      intro i a hi ha
      left
      obtain ⟨B, b1, b2⟩ := s_bw (hS i hi) hi
      refine ⟨a ||| B, ?_, fun w hw => ?_⟩
      · show m_X0_looseWordsAreZero_L4 f a (nI i) = _
        unfold m_X0_looseWordsAreZero_L4
        rw [show (6 : Int32) = nI 6 from rfl, i_nle hi (by omega), b1, Option.bind_some, show nI i + (1 : Int32) = nI (i + 1) from nI_1 i]
      · rw [bl_or, Bool.or_eq_true, ha w hw, b2 w hw]
        constructor
        · rintro (⟨s, s1, s2⟩ | z)
          · exact ⟨s, by omega, s2⟩
          · exact ⟨i, by omega, z⟩
        · rintro ⟨s, s1, s2⟩
          rcases Nat.lt_or_ge s i with z | z
          · exact Or.inl ⟨s, z, s2⟩
          · have : s = i := by omega
            subst this; exact Or.inr s2)
    (by
      intro a ha
      exact ⟨a, rfl, ha⟩)
    6 0 (0 : Int64) 1000 rfl (fun w hw => ⟨fun q => (by rw [bl_0] at q; cases q), fun ⟨s, s1, _⟩ => absurd s1 (Nat.not_lt_zero _)⟩) (by omega)
  have h := q_all (st := fun q => m_X0_looseWordsAreZero_L26 f B q) (fun i => nI i) (fun i => bl B i || decide (f (46 + i) = 0)) (0 : Int32) 64
    (by
      intro i hi
      show m_X0_looseWordsAreZero_L26 f B (nI i) = _
      unfold m_X0_looseWordsAreZero_L26
      rw [show (64 : Int32) = nI 64 from rfl, i_nle hi (by omega), show (46 : Int32) + nI i = nI (46 + i) from nI_add 46 i, show nI i + (1 : Int32) = nI (i + 1) from nI_1 i]
      cases c : bl B i with
      | true =>
        rw [if_neg (by rw [bl_test B i hi, c]; decide)]
        rfl
      | false =>
        rw [if_pos (by rw [bl_test B i hi, c]), q_ald (by omega) (by omega), Option.bind_some, Bool.false_or]
        by_cases c2 : f (46 + i) = 0
        · rw [if_pos c2, if_pos (decide_eq_true c2)]
        · rw [if_neg c2, if_neg (by simpa using c2)])
    rfl 64 0 1000 rfl (by omega)
  refine ⟨allB (fun i => bl B i || decide (f (46 + i) = 0)) 0 64, ?_, ?_⟩
  · unfold m_X0_looseWordsAreZero
    have h : g_loop (fun q => m_X0_looseWordsAreZero_L26 f B q) 1000 (0 : Int32) = _ := h
    rw [show ((0 : Int64), (0 : Int32)) = ((0 : Int64), nI 0) from rfl, b1, q_k1, h]
    cases allB (fun i => bl B i || decide (f (46 + i) = 0)) 0 64 <;> rfl
  · rw [allB_0]
    constructor
    · intro q w hw
      have := q w hw
      rw [Bool.or_eq_true, b2 w hw, decide_eq_true_eq] at this
      exact this
    · intro q w hw
      rw [Bool.or_eq_true, b2 w hw, decide_eq_true_eq]
      exact q w hw
theorem s_w66 {e m : Nat} (he : okE e = true) (hm : m ≤ 64) (t0 : Nat → Int32) : ∃ r, g_loop (fun q => m_X5_wordsRight_L66 (nI e) q.1 q.2.1 q.2.2) 1000 (nI (m - 0), nI 0, t0) = some r ∧ r.1 = nI (m - 2 * szN e) ∧ ∀ w, w < 64 → (r.2 w ≠ 0 ↔ t0 w ≠ 0 ∨ ∃ q, q < 2 * szN e ∧ q < m ∧ w = 2 * stN e + q) := by
  have h1 := ok_lt he
  have h2 := r_ok e h1 he
  refine q_for (st := fun q => m_X5_wordsRight_L66 (nI e) q.1 q.2.1 q.2.2) (fun i (a : Nat → Int32) => (nI (m - i), nI i, a)) (min (2 * szN e) m) (fun i a => ∀ w, w < 64 → (a w ≠ 0 ↔ t0 w ≠ 0 ∨ ∃ q, q < i ∧ w = 2 * stN e + q)) (fun r => r.1 = nI (m - 2 * szN e) ∧ ∀ w, w < 64 → (r.2 w ≠ 0 ↔ t0 w ≠ 0 ∨ ∃ q, q < 2 * szN e ∧ q < m ∧ w = 2 * stN e + q)) ?_ ?_ (min (2 * szN e) m) 0 t0 1000 (by omega) (fun w _ => ⟨fun q => Or.inl q, fun q => q.elim id (fun ⟨_, q1, _⟩ => absurd q1 (Nat.not_lt_zero _))⟩) (by omega)
  · intro i a hi ha
    left
    have h0 : 0 < e := by
      rcases Nat.eq_zero_or_pos e with q | q
      · subst q
        have : szN 0 = 0 := rfl
        omega
      · exact q
    refine ⟨upd a (2 * stN e + i) 1, ?_, fun w hw => ?_⟩
    · show m_X5_wordsRight_L66 (nI e) (nI (m - i)) (nI i) a = some (.inl (nI (m - (i + 1)), nI (i + 1), upd a (2 * stN e + i) 1))
      unfold m_X5_wordsRight_L66
      rw [r_size _ (by omega), Option.bind_some, show (2 : Int32) * nI (szN e) = nI (2 * szN e) from pk_mul 2 _, i_nle (by omega) (by omega), show (0 : Int32) = nI 0 from rfl, i_nle (by omega) (by omega), r_start _ (by omega) h0, Option.bind_some, show (2 : Int32) * nI (stN e) = nI (2 * stN e) from pk_mul 2 _, nI_add, q_ast (by omega) (by omega), Option.bind_some, show nI i + (1 : Int32) = nI (i + 1) from nI_1 i, show m - i = (m - (i + 1)) + 1 by omega, nI_mm]
    · by_cases c : w = 2 * stN e + i
      · subst c
        rw [q_ul]
        exact ⟨fun _ => Or.inr ⟨i, by omega, rfl⟩, fun _ => by decide⟩
      · rw [q_un c, ha w hw]
        constructor
        · rintro (q | ⟨q, q1, q2⟩)
          · exact Or.inl q
          · exact Or.inr ⟨q, by omega, q2⟩
        · rintro (q | ⟨q, q1, q2⟩)
          · exact Or.inl q
          · exact Or.inr ⟨q, by omega, q2⟩
  · intro a ha
    refine ⟨(nI (m - min (2 * szN e) m), a), ?_, ?_, fun w hw => ?_⟩
    · show m_X5_wordsRight_L66 (nI e) (nI (m - min (2 * szN e) m)) (nI (min (2 * szN e) m)) a = _
      unfold m_X5_wordsRight_L66
      rw [r_size _ (by omega), Option.bind_some, show (2 : Int32) * nI (szN e) = nI (2 * szN e) from pk_mul 2 _]
      rcases Nat.lt_or_ge m (2 * szN e) with z | z
      · rw [i_nle (by omega) (by omega), show (0 : Int32) = nI 0 from rfl, i_le (by omega) (by omega)]
      · rw [i_le (by omega) (by omega)]
    · show nI (m - min (2 * szN e) m) = nI (m - 2 * szN e)
      rw [show m - min (2 * szN e) m = m - 2 * szN e by omega]
    · show a w ≠ 0 ↔ _
      rw [ha w hw]
      constructor
      · rintro (q | ⟨q, q1, q2⟩)
        · exact Or.inl q
        · exact Or.inr ⟨q, by omega, by omega, q2⟩
      · rintro (q | ⟨q, q1, q2, q3⟩)
        · exact Or.inl q
        · exact Or.inr ⟨q, by omega, q3⟩
/-- the words of a file that lie in its first k runs -/
def mkw (E : Nat → Nat) (l k w : Nat) : Prop := ∃ j, j < k ∧ ∃ p, p < l ∧ 2 * pre E j ≤ p ∧ p < 2 * pre E (j + 1) ∧ w = 2 * stN (E j) + (p - 2 * pre E j)
theorem mkw_4 {E : Nat → Nat} {l w : Nat} : mkw E l 4 w ↔ ∃ p, p < l ∧ idx E 4 0 p = some w := by
  constructor
  · rintro ⟨j, j1, p, p1, p2, p3, p4⟩
    exact ⟨p, p1, idx_iff.mpr ⟨j, j1, p2, p3, p4⟩⟩
  · rintro ⟨p, p1, p2⟩
    obtain ⟨j, j1, j2, j3, j4⟩ := idx_iff.mp p2
    exact ⟨j, j1, p, p1, j2, j3, j4⟩
theorem mkw_k {E : Nat → Nat} {l k w : Nat} : mkw E l (k + 1) w ↔ mkw E l k w ∨ ∃ q, q < 2 * szN (E k) ∧ q < l - 2 * pre E k ∧ w = 2 * stN (E k) + q := by
  have hp : pre E (k + 1) = pre E k + szN (E k) := rfl
  constructor
  · rintro ⟨j, j1, p, p1, p2, p3, p4⟩
    rcases Nat.lt_or_ge j k with z | z
    · exact Or.inl ⟨j, z, p, p1, p2, p3, p4⟩
    · have : j = k := by omega
      subst this
      exact Or.inr ⟨p - 2 * pre E j, by omega, by omega, p4⟩
  · rintro (⟨j, j1, j2⟩ | ⟨q, q1, q2, q3⟩)
    · exact ⟨j, by omega, j2⟩
    · exact ⟨k, by omega, q + 2 * pre E k, by omega, by omega, by omega, by omega⟩
theorem s_w43 {f : Nat → Int32} {s n o l r : Nat} {E : Nat → Nat} (hS : Slo f s n o l r E) (hs : s < 6) (t0 : Nat → Int32) : ∃ t, g_loop (fun q => m_X5_wordsRight_L43 f (nI s) q.1 q.2.1 q.2.2) 1000 (nI (l - 2 * pre E 0), nI 0, t0) = some t ∧ ∀ w, w < 64 → (t w ≠ 0 ↔ t0 w ≠ 0 ∨ mkw E l 4 w) := by
  obtain ⟨⟨h1, h2, h3, h4⟩, ⟨h5, h6, h7, h8⟩, h9, h10, h11⟩ := hS
  refine q_for (st := fun q => m_X5_wordsRight_L43 f (nI s) q.1 q.2.1 q.2.2) (fun k (a : Nat → Int32) => (nI (l - 2 * pre E k), nI k, a)) 4 (fun k a => ∀ w, w < 64 → (a w ≠ 0 ↔ t0 w ≠ 0 ∨ mkw E l k w)) (fun t => ∀ w, w < 64 → (t w ≠ 0 ↔ t0 w ≠ 0 ∨ mkw E l 4 w)) ?_ ?_ 4 0 t0 1000 rfl (fun w _ => ⟨fun q => Or.inl q, fun q => q.elim id (fun ⟨_, q1, _⟩ => absurd q1 (Nat.not_lt_zero _))⟩) (by omega)
  · intro k a hk ha
    left
    obtain ⟨⟨r1, r2⟩, x1, x2, x3⟩ := s_w66 (e := E k) (m := l - 2 * pre E k) (h9 k hk) (by omega) a
    dsimp only at x2 x3
    rw [Nat.sub_zero] at x1
    refine ⟨r2, ?_, fun w hw => ?_⟩
    · show m_X5_wordsRight_L43 f (nI s) (nI (l - 2 * pre E k)) (nI k) a = some (.inl (nI (l - 2 * pre E (k + 1)), nI (k + 1), r2))
      unfold m_X5_wordsRight_L43
      have e1 : g_ald 110 f ((((7 : Int32) * nI s) + (3 : Int32)) + nI k) = some (nI (E k)) := by
        simp only [q_c0, q_c1, q_c2, q_c3, q_c4, q_c5, q_c6, q_c7, q_c31, q_c32, q_c42, q_c44, q_c45, q_c46, q_c63, q_c64, q_c99, q_c109, q_c110, q_c111, q_c112, q_c113, q_c192, q_c331, q_c332, nI_add, pk_mul]
        rw [q_ald (by omega) (by omega), h4 k hk]
      have hp : pre E (k + 1) = pre E k + szN (E k) := rfl
      rw [show (4 : Int32) = nI 4 from rfl, i_nle hk (by omega), e1, Option.bind_some, show (0 : Int32) = nI 0 from rfl, x1, q_k2, x2, show nI k + (1 : Int32) = nI (k + 1) from nI_1 k, show l - 2 * pre E k - 2 * szN (E k) = l - 2 * pre E (k + 1) by omega]
    · rw [x3 w hw, ha w hw, mkw_k, or_assoc]
  · intro a ha
    refine ⟨a, ?_, ha⟩
    show m_X5_wordsRight_L43 f (nI s) (nI (l - 2 * pre E 4)) (nI 4) a = _
    unfold m_X5_wordsRight_L43
    rw [show (4 : Int32) = nI 4 from rfl, i_le (Nat.le_refl _) (by omega)]
theorem s_w23 {f : Nat → Int32} {N O L R : Nat → Nat} {E : Nat → Nat → Nat} (hS : ∀ s, s < 6 → Slo f s (N s) (O s) (L s) (R s) (E s)) (t0 : Nat → Int32) (ht : ∀ w, w < 64 → t0 w = 0) : ∃ t, g_loop (fun q => m_X5_wordsRight_L23 f q.1 q.2) 1000 (nI 0, t0) = some t ∧ ∀ w, w < 64 → (t w ≠ 0 ↔ ∃ s, s < 6 ∧ ∃ p, p < L s ∧ idx (E s) 4 0 p = some w) := by
  refine q_for (st := fun q => m_X5_wordsRight_L23 f q.1 q.2) (fun s (a : Nat → Int32) => (nI s, a)) 6 (fun s a => ∀ w, w < 64 → (a w ≠ 0 ↔ ∃ s', s' < s ∧ ∃ p, p < L s' ∧ idx (E s') 4 0 p = some w)) (fun t => ∀ w, w < 64 → (t w ≠ 0 ↔ ∃ s, s < 6 ∧ ∃ p, p < L s ∧ idx (E s) 4 0 p = some w)) ?_ ?_ 6 0 t0 1000 rfl (fun w hw => ⟨fun q => absurd (ht w hw) q, fun ⟨s, s1, _⟩ => absurd s1 (Nat.not_lt_zero _)⟩) (by omega)
  · intro s a hs ha
    left
    obtain ⟨t, x1, x2⟩ := s_w43 (hS s hs) hs a
    obtain ⟨⟨h1, h2, h3, h4⟩, ⟨h5, h6, h7, h8⟩, h9, h10, h11⟩ := hS s hs
    refine ⟨t, ?_, fun w hw => ?_⟩
    · show m_X5_wordsRight_L23 f (nI s) a = _
      unfold m_X5_wordsRight_L23
      have e1 : g_ald 110 f (((7 : Int32) * nI s) + (2 : Int32)) = some (nI (L s)) := by
        simp only [q_c0, q_c1, q_c2, q_c3, q_c4, q_c5, q_c6, q_c7, q_c31, q_c32, q_c42, q_c44, q_c45, q_c46, q_c63, q_c64, q_c99, q_c109, q_c110, q_c111, q_c112, q_c113, q_c192, q_c331, q_c332, nI_add, pk_mul]
        rw [q_ald (by omega) (by omega), h3]
      rw [show (6 : Int32) = nI 6 from rfl, i_nle hs (by omega), e1, Option.bind_some, show (0 : Int32) = nI 0 from rfl, show nI (L s) = nI (L s - 2 * pre (E s) 0) from rfl, x1, q_k1, show nI s + (1 : Int32) = nI (s + 1) from nI_1 s]
    · rw [x2 w hw, ha w hw, mkw_4]
      constructor
      · rintro (⟨s', s1, s2⟩ | z)
        · exact ⟨s', by omega, s2⟩
        · exact ⟨s, by omega, z⟩
      · rintro ⟨s', s1, s2⟩
        rcases Nat.lt_or_ge s' s with z | z
        · exact Or.inl ⟨s', z, s2⟩
        · have : s' = s := by omega
          subst this; exact Or.inr s2
  · intro a ha
    exact ⟨a, rfl, ha⟩
theorem s_loose5 {f : Nat → Int32} {N O L R : Nat → Nat} {E : Nat → Nat → Nat} (hS : ∀ s, s < 6 → Slo f s (N s) (O s) (L s) (R s) (E s)) (be : Nat → Int32) : ∃ (v : Bool) (be' : Nat → Int32), m_X5_wordsRight f be = some (bi v, be') ∧ (v = true ↔ ∀ w, w < 64 → (∃ s, s < 6 ∧ ∃ p, p < L s ∧ idx (E s) 4 0 p = some w) ∨ f (46 + w) = 0) := by
  obtain ⟨t0, y1, y2⟩ := q_for (st := fun q => m_X5_wordsRight_L2 q.1 q.2) (fun i (a : Nat → Int32) => (nI i, a)) 64 (fun i a => ∀ w, w < i → a w = 0) (fun t => ∀ w, w < 64 → t w = 0)
    (by
      intro i a hi ha
      left
      refine ⟨upd a i 0, ?_, fun w hw => ?_⟩
      · show m_X5_wordsRight_L2 (nI i) a = _
        unfold m_X5_wordsRight_L2
        rw [show (64 : Int32) = nI 64 from rfl, i_nle hi (by omega), q_ast hi (by omega), Option.bind_some, show nI i + (1 : Int32) = nI (i + 1) from nI_1 i]
      · by_cases c : w = i
        · subst c; exact q_ul
        · rw [q_un c]; exact ha w (by omega))
    (by intro a ha; exact ⟨a, rfl, ha⟩)
    64 0 be 1000 rfl (fun w hw => absurd hw (Nat.not_lt_zero _)) (by omega)
  obtain ⟨t, z1, z2⟩ := s_w23 (f := f) hS t0 y2
  have h := q_acc (st := fun q => m_X5_wordsRight_L123 f t q.1 q.2) (fun i a => (a, nI i)) (fun i => decide (t i ≠ 0) || decide (f (46 + i) = 0)) (fun a => a) 64
    (by
      intro i a hi
      show m_X5_wordsRight_L123 f t (bi a) (nI i) = _
      unfold m_X5_wordsRight_L123
      rw [show (64 : Int32) = nI 64 from rfl, i_nle hi (by omega), i_bi, show (46 : Int32) + nI i = nI (46 + i) from nI_add 46 i, show nI i + (1 : Int32) = nI (i + 1) from nI_1 i]
      cases a with
      | false => rfl
      | true =>
        rw [if_pos rfl, q_ald hi (by omega), Option.bind_some, Bool.true_and]
        by_cases c : t i = 0
        · rw [if_pos c, q_ald (by omega) (by omega), Option.bind_some, decide_eq_false (fun q => q c), Bool.false_or]
          by_cases c2 : f (46 + i) = 0
          · rw [if_pos c2, decide_eq_true c2]; rfl
          · rw [if_neg c2, decide_eq_false c2]; rfl
        · rw [if_neg c, decide_eq_true c, Bool.true_or]; rfl)
    (fun a => rfl) 64 0 1000 true rfl (by omega)
  refine ⟨allB (fun i => decide (t i ≠ 0) || decide (f (46 + i) = 0)) 0 64, t, ?_, ?_⟩
  · unfold m_X5_wordsRight
    rw [show ((0 : Int32), be) = (nI 0, be) from rfl, y1, q_k1, show ((0 : Int32), t0) = (nI 0, t0) from rfl, z1, q_k1, show ((1 : Int32), (0 : Int32)) = (bi true, nI 0) from rfl, h, q_k1, Bool.true_and]
    cases allB (fun i => decide (t i ≠ 0) || decide (f (46 + i) = 0)) 0 64 <;> rfl
  · rw [allB_0]
    constructor
    · intro q w hw
      have := q w hw
      rw [Bool.or_eq_true, decide_eq_true_eq, decide_eq_true_eq, z2 w hw] at this
      exact this
    · intro q w hw
      rw [Bool.or_eq_true, decide_eq_true_eq, decide_eq_true_eq, z2 w hw]
      exact q w hw
