/-! what files use; the words of a file; free runs -/
def Slo (f : Nat → Int32) (s n o l r : Nat) (E : Nat → Nat) : Prop :=
  (f (7 * s) = nI n ∧ f (7 * s + 1) = nI o ∧ f (7 * s + 2) = nI l ∧ ∀ k, k < 4 → f (7 * s + 3 + k) = nI (E k)) ∧ (n ≤ 99 ∧ o ≤ 2 ∧ l ≤ 64 ∧ r ≤ 4) ∧ (∀ k, k < 4 → okE (E k) = true) ∧ (∀ k, k < 4 → (E k ≠ 0 ↔ k < r)) ∧ (n = 0 → o = 0 ∧ l = 0 ∧ r = 0)
theorem usg_le {O : Nat → Nat} {E : Nat → Nat → Nat} {o n : Nat} (h : ∀ s, s < n → ∀ k, k < 4 → okE (E s k) = true) : sm (fun s => if O s = o then pre (E s) 4 else 0) n ≤ n * 128 :=
  sm_le (fun s hs => by
    have := pre_le (k := 4) (h s hs)
    by_cases c : O s = o
    · rw [if_pos c]; omega
    · rw [if_neg c]; omega)
theorem Slo.pre0 {f : Nat → Int32} {s n o l r : Nat} {E : Nat → Nat} (h : Slo f s n o l r E) (hn : n = 0) : pre E 4 = 0 := by
  obtain ⟨-, -, -, hz, h0⟩ := h
  refine sm_nil (fun k hk => ?_)
  have h1 := hz k hk
  have h2 := (h0 hn).2.2
  have : E k = 0 := by
    rcases Nat.eq_zero_or_pos (E k) with q | q
    · exact q
    · have := h1.mp (by omega); omega
  show szN (E k) = 0
  rw [this]; rfl
theorem s_used {f : Nat → Int32} {N O L R : Nat → Nat} {E : Nat → Nat → Nat} (hS : ∀ s, s < 6 → Slo f s (N s) (O s) (L s) (R s) (E s)) {o : Nat} (ho : o ≤ 2) : m_X5_used f (nI o) = some (nI (usg O E o)) := by
  unfold m_X5_used
  have hO : ∀ s, s < 6 → ∀ k, k < 4 → okE (E s k) = true := fun s hs => (hS s hs).2.2.1
  have h := q_for (st := fun q => m_X5_used_L4 (nI o) f q.1 q.2) (fun i (a : Int32) => (a, nI i)) 6 (fun i a => a = nI (sm (fun s => if O s = o then pre (E s) 4 else 0) i)) (fun r => r = nI (usg O E o))
    (by
      intro i a hi ha
      left
      subst ha
      have hb := usg_le (O := O) (o := o) (n := i) (fun s hs => hO s (by omega))
      refine ⟨nI (sm (fun s => if O s = o then pre (E s) 4 else 0) (i + 1)), ?_, rfl⟩
      show m_X5_used_L4 (nI o) f (nI _) (nI i) = _
      unfold m_X5_used_L4
      have hs := hS i hi
      obtain ⟨⟨h1, h2, -, h4⟩, ⟨h5, h6, -⟩, h7, -⟩ := id hs
      simp only [q_c0, q_c1, q_c2, q_c3, q_c4, q_c5, q_c6, q_c7, q_c31, q_c32, q_c42, q_c44, q_c45, q_c46, q_c63, q_c64, q_c99, q_c109, q_c110, q_c111, q_c112, q_c113, q_c192, q_c331, q_c332, nI_add, pk_mul]
      rw [i_nle (by omega) (by omega), q_ald (by omega) (by omega), Option.bind_some, h1]
      rw [sm]
      by_cases c : N i = 0
      · rw [i_le (by omega) (by omega)]
        have : (if O i = o then pre (E i) 4 else 0) = 0 := by rw [hs.pre0 c]; exact ite_self 0
        rw [this]
        rfl
      · rw [i_nle (by omega) (by omega), q_ald (by omega) (by omega), Option.bind_some, h2]
        by_cases c2 : O i = o
        · rw [i_eq c2, s_blocks hi h4 h7, Option.bind_some, if_pos c2]
          simp only [q_c0, q_c1, q_c2, q_c3, q_c4, q_c5, q_c6, q_c7, q_c31, q_c32, q_c42, q_c44, q_c45, q_c46, q_c63, q_c64, q_c99, q_c109, q_c110, q_c111, q_c112, q_c113, q_c192, q_c331, q_c332, nI_add, pk_mul]
        · rw [i_ne c2 (by omega) (by omega), if_neg c2]
          rfl)
    (by
      intro a ha
      subst ha
      refine ⟨_, ?_, rfl⟩
      show m_X5_used_L4 (nI o) f (nI _) (nI 6) = _
      unfold m_X5_used_L4
      simp only [q_c0, q_c1, q_c2, q_c3, q_c4, q_c5, q_c6, q_c7, q_c31, q_c32, q_c42, q_c44, q_c45, q_c46, q_c63, q_c64, q_c99, q_c109, q_c110, q_c111, q_c112, q_c113, q_c192, q_c331, q_c332, nI_add, pk_mul]
      rw [i_le (by omega) (by omega)]
      rfl)
    6 0 (nI 0) 1000 rfl rfl (by omega)
  obtain ⟨r, h1, h2⟩ := h
  show (g_loop _ 1000 (nI 0, nI 0)).bind _ = _
  rw [h1, h2]
  rfl
theorem s_usage {f : Nat → Int32} {N O L R : Nat → Nat} {E : Nat → Nat → Nat} (hS : ∀ s, s < 6 → Slo f s (N s) (O s) (L s) (R s) (E s)) {o : Nat} (ho : o ≤ 2) : m_X2_usageOf f (nI o) = some (nI (usg O E o)) := by
  unfold m_X2_usageOf
  have hO : ∀ s, s < 6 → ∀ k, k < 4 → okE (E s k) = true := fun s hs => (hS s hs).2.2.1
  have h := q_for (st := fun q => m_X2_usageOf_L4 (nI o) f q.1 q.2) (fun i (a : Int32) => (a, nI i)) 6 (fun i a => a = nI (sm (fun s => if O s = o then pre (E s) 4 else 0) i)) (fun r => r = nI (usg O E o))
    (by
      intro i a hi ha
      left
      subst ha
      refine ⟨nI (sm (fun s => if O s = o then pre (E s) 4 else 0) (i + 1)), ?_, rfl⟩
      show m_X2_usageOf_L4 (nI o) f (nI _) (nI i) = _
      unfold m_X2_usageOf_L4 m_X2_ownerOf
      have hs := hS i hi
      obtain ⟨⟨h1, h2, -, h4⟩, ⟨h5, h6, -⟩, h7, -⟩ := id hs
      simp only [q_c0, q_c1, q_c2, q_c3, q_c4, q_c5, q_c6, q_c7, q_c31, q_c32, q_c42, q_c44, q_c45, q_c46, q_c63, q_c64, q_c99, q_c109, q_c110, q_c111, q_c112, q_c113, q_c192, q_c331, q_c332, nI_add, pk_mul]
      rw [i_nle (by omega) (by omega), q_ald (by omega) (by omega), Option.bind_some, Option.bind_some, h2]
      rw [sm]
      by_cases c2 : O i = o
      · rw [i_eq c2, e_blocks, s_blocks hi h4 h7, Option.bind_some, if_pos c2]
        simp only [q_c0, q_c1, q_c2, q_c3, q_c4, q_c5, q_c6, q_c7, q_c31, q_c32, q_c42, q_c44, q_c45, q_c46, q_c63, q_c64, q_c99, q_c109, q_c110, q_c111, q_c112, q_c113, q_c192, q_c331, q_c332, nI_add, pk_mul]
      · rw [i_ne c2 (by omega) (by omega), if_neg c2]
        rfl)
    (by
      intro a ha
      subst ha
      refine ⟨_, ?_, rfl⟩
      show m_X2_usageOf_L4 (nI o) f (nI _) (nI 6) = _
      unfold m_X2_usageOf_L4
      simp only [q_c0, q_c1, q_c2, q_c3, q_c4, q_c5, q_c6, q_c7, q_c31, q_c32, q_c42, q_c44, q_c45, q_c46, q_c63, q_c64, q_c99, q_c109, q_c110, q_c111, q_c112, q_c113, q_c192, q_c331, q_c332, nI_add, pk_mul]
      rw [i_le (by omega) (by omega)]
      rfl)
    6 0 (nI 0) 1000 rfl rfl (by omega)
  obtain ⟨r, h1, h2⟩ := h
  show (g_loop _ 1000 (nI 0, nI 0)).bind _ = _
  rw [h1, h2]
  rfl
theorem s_wordIndex {f : Nat → Int32} {s p : Nat} {E : Nat → Nat} (hs : s < 6) (hE : ∀ k, k < 4 → f (7 * s + 3 + k) = nI (E k)) (hO : ∀ k, k < 4 → okE (E k) = true) (hp : p ≤ 1000) : m_X2_wordIndex f (nI s) (nI p) = some (match idx E 4 0 p with | some w => nI w | none => -1) := by
  unfold m_X2_wordIndex
  have h := q_for (st := fun q => m_X2_wordIndex_L5 (nI s) f q.1 q.2) (fun i (a : Nat) => (nI a, nI i)) 4 (fun i a => a ≤ p ∧ idx E (4 - i) i a = idx E 4 0 p) (fun r => r = (match idx E 4 0 p with | some w => .inl (nI w) | none => .inr ()))
    (by
      intro i a hi ha
      obtain ⟨ha, hx⟩ := ha
      obtain ⟨d, hd⟩ : ∃ d, 4 - i = d + 1 := ⟨3 - i, by omega⟩
      have h1 := ok_lt (hO i hi)
      have h2 := sz_le (E i) (by omega)
      have h3 := r_ok (E i) h1 (hO i hi)
      have e : m_X2_wordIndex_L5 (nI s) f (nI a) (nI i) = if nI (2 * szN (E i)) ≤ nI a then some (.inl (nI a - nI (2 * szN (E i)), nI (i + 1))) else some (.inr (.inl (nI (2 * stN (E i) + a)))) := by
        unfold m_X2_wordIndex_L5
        rw [e_extentOf, s_extentOf hs hi, hE i hi, Option.bind_some, r_blocksOf _ (by omega), Option.bind_some]
        simp only [q_c0, q_c1, q_c2, q_c3, q_c4, q_c5, q_c6, q_c7, q_c31, q_c32, q_c42, q_c44, q_c45, q_c46, q_c63, q_c64, q_c99, q_c109, q_c110, q_c111, q_c112, q_c113, q_c192, q_c331, q_c332, nI_add, pk_mul]
        rw [i_nle (by omega) (by omega)]
        by_cases c : 2 * szN (E i) ≤ a
        · rw [i_le c (by omega), i_le c (by omega)]
        · rw [i_nle (by omega) (by omega), i_nle (by omega) (by omega)]
          have h0 : 0 < E i := by
            rcases Nat.eq_zero_or_pos (E i) with q | q
            · rw [q] at c; exact absurd (Nat.zero_le a) c
            · exact q
          rw [r_firstOf _ (by omega) h0, Option.bind_some]
          simp only [q_c0, q_c1, q_c2, q_c3, q_c4, q_c5, q_c6, q_c7, q_c31, q_c32, q_c42, q_c44, q_c45, q_c46, q_c63, q_c64, q_c99, q_c109, q_c110, q_c111, q_c112, q_c113, q_c192, q_c331, q_c332, nI_add, pk_mul]
      rw [hd, idx] at hx
      show (∃ a' : Nat, m_X2_wordIndex_L5 (nI s) f (nI a) (nI i) = some (.inl (nI a', nI (i + 1))) ∧ _) ∨ ∃ r, m_X2_wordIndex_L5 (nI s) f (nI a) (nI i) = some (.inr r) ∧ _
      rw [e]
      by_cases c : a < 2 * szN (E i)
      · right
        rw [if_pos c] at hx
        rw [i_nle c (by omega), ← hx]
        exact ⟨_, rfl, rfl⟩
      · left
        rw [if_neg c] at hx
        rw [i_le (by omega) (by omega)]
        refine ⟨a - 2 * szN (E i), by rw [pk_sub (by omega)], by omega, ?_⟩
        rw [show 4 - (i + 1) = d by omega]
        exact hx)
    (by
      intro a ha
      obtain ⟨ha, hx⟩ := ha
      refine ⟨.inr (), ?_, ?_⟩
      · show m_X2_wordIndex_L5 (nI s) f (nI a) (nI 4) = _
        unfold m_X2_wordIndex_L5
        simp only [q_c0, q_c1, q_c2, q_c3, q_c4, q_c5, q_c6, q_c7, q_c31, q_c32, q_c42, q_c44, q_c45, q_c46, q_c63, q_c64, q_c99, q_c109, q_c110, q_c111, q_c112, q_c113, q_c192, q_c331, q_c332, nI_add, pk_mul]
        rw [i_le (by omega) (by omega)]
      · rw [← hx]
        rfl)
    4 0 p 1000 rfl ⟨Nat.le_refl _, rfl⟩ (by omega)
  obtain ⟨r, h1, h2⟩ := h
  show (g_loop _ 1000 (nI p, nI 0)).bind _ = _
  rw [h1, h2]
  cases idx E 4 0 p <;> rfl
theorem s_wordCell {f : Nat → Int32} {s p : Nat} {E : Nat → Nat} (hs : s < 6) (hE : ∀ k, k < 4 → f (7 * s + 3 + k) = nI (E k)) (hO : ∀ k, k < 4 → okE (E k) = true) (hp : p ≤ 1000) : m_X5_wordCell f (nI s) (nI p) = some (match idx E 4 0 p with | some w => nI (46 + w) | none => 46) := by
  unfold m_X5_wordCell
  have h := q_for (st := fun q => m_X5_wordCell_L5 (nI s) f q.1 q.2) (fun i (a : Nat) => (nI a, nI i)) 4 (fun i a => a ≤ p ∧ idx E (4 - i) i a = idx E 4 0 p) (fun r => r = (match idx E 4 0 p with | some w => .inl (nI (46 + w)) | none => .inr ()))
    (by
      intro i a hi ha
      obtain ⟨ha, hx⟩ := ha
      obtain ⟨d, hd⟩ : ∃ d, 4 - i = d + 1 := ⟨3 - i, by omega⟩
      have h1 := ok_lt (hO i hi)
      have h2 := sz_le (E i) (by omega)
      have h3 := r_ok (E i) h1 (hO i hi)
      have e : m_X5_wordCell_L5 (nI s) f (nI a) (nI i) = if nI (2 * szN (E i)) ≤ nI a then some (.inl (nI a - nI (2 * szN (E i)), nI (i + 1))) else some (.inr (.inl (nI (46 + (2 * stN (E i) + a))))) := by
        unfold m_X5_wordCell_L5
        rw [s_extentOf hs hi, hE i hi, Option.bind_some, r_size _ (by omega), Option.bind_some]
        simp only [q_c0, q_c1, q_c2, q_c3, q_c4, q_c5, q_c6, q_c7, q_c31, q_c32, q_c42, q_c44, q_c45, q_c46, q_c63, q_c64, q_c99, q_c109, q_c110, q_c111, q_c112, q_c113, q_c192, q_c331, q_c332, nI_add, pk_mul]
        rw [i_nle (by omega) (by omega)]
        by_cases c : 2 * szN (E i) ≤ a
        · rw [i_le c (by omega), i_le c (by omega)]
        · rw [i_nle (by omega) (by omega), i_nle (by omega) (by omega)]
          have h0 : 0 < E i := by
            rcases Nat.eq_zero_or_pos (E i) with q | q
            · rw [q] at c; exact absurd (Nat.zero_le a) c
            · exact q
          rw [r_start _ (by omega) h0, Option.bind_some]
          simp only [q_c0, q_c1, q_c2, q_c3, q_c4, q_c5, q_c6, q_c7, q_c31, q_c32, q_c42, q_c44, q_c45, q_c46, q_c63, q_c64, q_c99, q_c109, q_c110, q_c111, q_c112, q_c113, q_c192, q_c331, q_c332, nI_add, pk_mul, Nat.add_assoc]
      rw [hd, idx] at hx
      show (∃ a' : Nat, m_X5_wordCell_L5 (nI s) f (nI a) (nI i) = some (.inl (nI a', nI (i + 1))) ∧ _) ∨ ∃ r, m_X5_wordCell_L5 (nI s) f (nI a) (nI i) = some (.inr r) ∧ _
      rw [e]
      by_cases c : a < 2 * szN (E i)
      · right
        rw [if_pos c] at hx
        rw [i_nle c (by omega), ← hx]
        exact ⟨_, rfl, rfl⟩
      · left
        rw [if_neg c] at hx
        rw [i_le (by omega) (by omega)]
        refine ⟨a - 2 * szN (E i), by rw [pk_sub (by omega)], by omega, ?_⟩
        rw [show 4 - (i + 1) = d by omega]
        exact hx)
    (by
      intro a ha
      obtain ⟨ha, hx⟩ := ha
      refine ⟨.inr (), ?_, ?_⟩
      · show m_X5_wordCell_L5 (nI s) f (nI a) (nI 4) = _
        unfold m_X5_wordCell_L5
        simp only [q_c0, q_c1, q_c2, q_c3, q_c4, q_c5, q_c6, q_c7, q_c31, q_c32, q_c42, q_c44, q_c45, q_c46, q_c63, q_c64, q_c99, q_c109, q_c110, q_c111, q_c112, q_c113, q_c192, q_c331, q_c332, nI_add, pk_mul]
        rw [i_le (by omega) (by omega)]
      · rw [← hx]
        rfl)
    4 0 p 1000 rfl ⟨Nat.le_refl _, rfl⟩ (by omega)
  obtain ⟨r, h1, h2⟩ := h
  show (g_loop _ 1000 (nI p, nI 0)).bind _ = _
  rw [h1, h2]
  cases idx E 4 0 p <;> rfl
theorem idx_gen {E : Nat → Nat} {w : Nat} : ∀ (d k p : Nat), 2 * pre E k ≤ p → (idx E d k (p - 2 * pre E k) = some w ↔ ∃ j, k ≤ j ∧ j < k + d ∧ 2 * pre E j ≤ p ∧ p < 2 * pre E (j + 1) ∧ w = 2 * stN (E j) + (p - 2 * pre E j)) := by
  intro d
  induction d with
  | zero =>
    intro k p h
    rw [idx]
    constructor
    · intro q; cases q
    · rintro ⟨j, h1, h2, -⟩; omega
  | succ d ih =>
    intro k p h
    have hp : pre E (k + 1) = pre E k + szN (E k) := rfl
    rw [idx]
    by_cases c : p - 2 * pre E k < 2 * szN (E k)
    · rw [if_pos c]
      constructor
      · intro q
        cases q
        exact ⟨k, Nat.le_refl _, by omega, h, by omega, rfl⟩
      · rintro ⟨j, h1, h2, h3, h4, h5⟩
        have : j = k := by
          rcases Nat.lt_or_ge k j with q | q
          · have := sm_mono (g := fun i => szN (E i)) (m := k + 1) (n := j) (by omega)
            have : pre E (k + 1) ≤ pre E j := this
            omega
          · omega
        subst this
        rw [h5]
    · rw [if_neg c]
      have := ih (k + 1) p (by omega)
      rw [show p - 2 * pre E k - 2 * szN (E k) = p - 2 * pre E (k + 1) by omega, this]
      constructor
      · rintro ⟨j, h1, h2, h3⟩
        exact ⟨j, by omega, by omega, h3⟩
      · rintro ⟨j, h1, h2, h3, h4, h5⟩
        refine ⟨j, ?_, by omega, h3, h4, h5⟩
        rcases Nat.lt_or_ge k j with q | q
        · exact q
        · have : j = k := by omega
          subst this
          omega
theorem idx_iff {E : Nat → Nat} {p w : Nat} : idx E 4 0 p = some w ↔ ∃ j, j < 4 ∧ 2 * pre E j ≤ p ∧ p < 2 * pre E (j + 1) ∧ w = 2 * stN (E j) + (p - 2 * pre E j) := by
  have := idx_gen (E := E) (w := w) 4 0 p (Nat.zero_le _)
  rw [show p - 2 * pre E 0 = p from rfl] at this
  rw [this]
  constructor
  · rintro ⟨j, -, h2, h3⟩; exact ⟨j, by omega, h3⟩
  · rintro ⟨j, h2, h3⟩; exact ⟨j, Nat.zero_le _, by omega, h3⟩
theorem idx_ex {E : Nat → Nat} : ∀ {n p : Nat}, p < 2 * pre E n → ∃ j, j < n ∧ 2 * pre E j ≤ p ∧ p < 2 * pre E (j + 1) := by
  intro n
  induction n with
  | zero => intro p h; exact absurd h (Nat.not_lt_zero _)
  | succ n ih =>
    intro p h
    rcases Nat.lt_or_ge p (2 * pre E n) with q | q
    · obtain ⟨j, h1, h2⟩ := ih q
      exact ⟨j, by omega, h2⟩
    · exact ⟨n, by omega, q, h⟩
theorem idx_some {E : Nat → Nat} {p : Nat} (h : p < 2 * pre E 4) : ∃ w, idx E 4 0 p = some w := by
  obtain ⟨j, h1, h2, h3⟩ := idx_ex h
  exact ⟨_, idx_iff.mpr ⟨j, h1, h2, h3, rfl⟩⟩
theorem idx_lt {E : Nat → Nat} {p w : Nat} (hO : ∀ k, k < 4 → okE (E k) = true) (h : idx E 4 0 p = some w) : w < 64 ∧ p < 2 * pre E 4 := by
  obtain ⟨j, h1, h2, h3, h4⟩ := idx_iff.mp h
  have h5 := r_ok (E j) (ok_lt (hO j h1)) (hO j h1)
  have h6 : pre E (j + 1) = pre E j + szN (E j) := rfl
  have h7 : pre E (j + 1) ≤ pre E 4 := sm_mono (by omega)
  omega
