/-! a slot: its seven cells -/
def pre (E : Nat → Nat) (k : Nat) : Nat := sm (fun i => szN (E i)) k
def usg (O : Nat → Nat) (E : Nat → Nat → Nat) (o : Nat) : Nat := sm (fun s => if O s = o then pre (E s) 4 else 0) 6
def idx (E : Nat → Nat) : Nat → Nat → Nat → Option Nat
  | 0, _, _ => none
  | d + 1, k, p => if p < 2 * szN (E k) then some (2 * stN (E k) + p) else idx E d (k + 1) (p - 2 * szN (E k))
theorem pre_le {E : Nat → Nat} {k : Nat} (h : ∀ i, i < k → okE (E i) = true) : pre E k ≤ k * 32 := sm_le (fun i hi => (r_ok _ (ok_lt (h i hi)) (h i hi)).2.1)
theorem s_extentOf {f : Nat → Int32} {s k : Nat} (hs : s < 6) (hk : k < 4) : m_X5_extentOf f (nI s) (nI k) = some (f (7 * s + 3 + k)) := by
  unfold m_X5_extentOf
  simp only [q_c0, q_c1, q_c2, q_c3, q_c4, q_c5, q_c6, q_c7, q_c31, q_c32, q_c42, q_c44, q_c45, q_c46, q_c63, q_c64, q_c99, q_c109, q_c110, q_c111, q_c112, q_c113, q_c192, q_c331, q_c332, nI_add, pk_mul]
  rw [q_ald (by omega) (by omega), Option.bind_some]
theorem s_blocks {f : Nat → Int32} {s : Nat} {E : Nat → Nat} (hs : s < 6) (hE : ∀ k, k < 4 → f (7 * s + 3 + k) = nI (E k)) (hO : ∀ k, k < 4 → okE (E k) = true) : m_X5_blocks f (nI s) = some (nI (pre E 4)) := by
  unfold m_X5_blocks
  have h := q_for (st := fun q => m_X5_blocks_L4 (nI s) f q.1 q.2) (fun i (a : Int32) => (a, nI i)) 4 (fun i a => a = nI (pre E i)) (fun r => r = nI (pre E 4))
    (by
      intro i a hi ha
      left
      subst ha
      refine ⟨nI (pre E (i + 1)), ?_, rfl⟩
      show m_X5_blocks_L4 (nI s) f (nI (pre E i)) (nI i) = _
      unfold m_X5_blocks_L4
      have h1 := ok_lt (hO i hi)
      simp only [q_c0, q_c1, q_c2, q_c3, q_c4, q_c5, q_c6, q_c7, q_c31, q_c32, q_c42, q_c44, q_c45, q_c46, q_c63, q_c64, q_c99, q_c109, q_c110, q_c111, q_c112, q_c113, q_c192, q_c331, q_c332, nI_add, pk_mul]
      rw [i_nle (by omega) (by omega), s_extentOf hs hi, Option.bind_some, hE i hi, r_size _ (by omega), Option.bind_some]
      simp only [q_c0, q_c1, q_c2, q_c3, q_c4, q_c5, q_c6, q_c7, q_c31, q_c32, q_c42, q_c44, q_c45, q_c46, q_c63, q_c64, q_c99, q_c109, q_c110, q_c111, q_c112, q_c113, q_c192, q_c331, q_c332, nI_add, pk_mul]
      rfl)
    (by
      intro a ha
      subst ha
      refine ⟨_, ?_, rfl⟩
      show m_X5_blocks_L4 (nI s) f (nI (pre E 4)) (nI 4) = _
      unfold m_X5_blocks_L4
      simp only [q_c0, q_c1, q_c2, q_c3, q_c4, q_c5, q_c6, q_c7, q_c31, q_c32, q_c42, q_c44, q_c45, q_c46, q_c63, q_c64, q_c99, q_c109, q_c110, q_c111, q_c112, q_c113, q_c192, q_c331, q_c332, nI_add, pk_mul]
      rw [if_pos (nI_le (by omega) (by omega))])
    4 0 (nI 0) 1000 rfl rfl (by omega)
  obtain ⟨r, h1, h2⟩ := h
  show (g_loop _ 1000 (nI 0, nI 0)).bind _ = _
  rw [h1, h2]
  rfl
theorem s_runs2 {f : Nat → Int32} {s r : Nat} {E : Nat → Nat} (hs : s < 6) (hE : ∀ k, k < 4 → f (7 * s + 3 + k) = nI (E k)) (hO : ∀ k, k < 4 → okE (E k) = true) (hr : r ≤ 4) (hz : ∀ k, k < 4 → (E k ≠ 0 ↔ k < r)) : m_X2_runsOf f (nI s) = some (nI r) := by
  unfold m_X2_runsOf
  have h := q_for (st := fun q => m_X2_runsOf_L4 (nI s) f q.1 q.2) (fun i (a : Int32) => (a, nI i)) 4 (fun i a => a = nI (min i r)) (fun v => v = nI r)
    (by
      intro i a hi ha
      left
      subst ha
      have h1 := ok_lt (hO i hi)
      have h2 := hz i hi
      refine ⟨nI (min (i + 1) r), ?_, rfl⟩
      show m_X2_runsOf_L4 (nI s) f (nI (min i r)) (nI i) = _
      unfold m_X2_runsOf_L4
      rw [e_extentOf, s_extentOf hs hi, hE i hi]
      simp only [q_c0, q_c1, q_c2, q_c3, q_c4, q_c5, q_c6, q_c7, q_c31, q_c32, q_c42, q_c44, q_c45, q_c46, q_c63, q_c64, q_c99, q_c109, q_c110, q_c111, q_c112, q_c113, q_c192, q_c331, q_c332, nI_add, pk_mul, Option.bind_some]
      rw [i_nle (by omega) (by omega)]
      by_cases c : E i = 0
      · rw [i_eq c]
        have : min (i + 1) r = min i r := by omega
        rw [this]
      · rw [i_ne c (by omega) (by omega)]
        have : min (i + 1) r = min i r + 1 := by have := h2.mp c; omega
        rw [this])
    (by
      intro a ha
      subst ha
      refine ⟨_, ?_, rfl⟩
      show m_X2_runsOf_L4 (nI s) f (nI (min 4 r)) (nI 4) = _
      unfold m_X2_runsOf_L4
      simp only [q_c0, q_c1, q_c2, q_c3, q_c4, q_c5, q_c6, q_c7, q_c31, q_c32, q_c42, q_c44, q_c45, q_c46, q_c63, q_c64, q_c99, q_c109, q_c110, q_c111, q_c112, q_c113, q_c192, q_c331, q_c332, nI_add, pk_mul]
      rw [if_pos (nI_le (by omega) (by omega)), show min 4 r = r by omega])
    4 0 (nI 0) 1000 rfl (by rw [show min 0 r = 0 by omega]) (by omega)
  obtain ⟨v, h1, h2⟩ := h
  show (g_loop _ 1000 (nI 0, nI 0)).bind _ = _
  rw [h1, h2]
  rfl
theorem s_runs5 {f : Nat → Int32} {s r : Nat} {E : Nat → Nat} (hs : s < 6) (hE : ∀ k, k < 4 → f (7 * s + 3 + k) = nI (E k)) (hO : ∀ k, k < 4 → okE (E k) = true) (hr : r ≤ 4) (hz : ∀ k, k < 4 → (E k ≠ 0 ↔ k < r)) : m_X5_runs f (nI s) = some (nI r) := by
  unfold m_X5_runs
  have h := q_for (st := fun q => m_X5_runs_L2 (nI s) f q) (fun i (_ : Unit) => nI i) 4 (fun i _ => i ≤ r) (fun v => v = nI r)
    (by
      intro i a hi ha
      have h1 := ok_lt (hO i hi)
      have h2 := hz i hi
      show (∃ a', m_X5_runs_L2 (nI s) f (nI i) = some (.inl (nI (i + 1))) ∧ _) ∨ ∃ v, m_X5_runs_L2 (nI s) f (nI i) = some (.inr v) ∧ _
      unfold m_X5_runs_L2
      rw [s_extentOf hs hi, hE i hi]
      simp only [q_c0, q_c1, q_c2, q_c3, q_c4, q_c5, q_c6, q_c7, q_c31, q_c32, q_c42, q_c44, q_c45, q_c46, q_c63, q_c64, q_c99, q_c109, q_c110, q_c111, q_c112, q_c113, q_c192, q_c331, q_c332, nI_add, pk_mul, Option.bind_some]
      rw [i_nle (by omega) (by omega)]
      by_cases c : E i = 0
      · rw [i_le (by omega) (by omega)]
        right
        refine ⟨_, rfl, ?_⟩
        have : i = r := by
          have : ¬ i < r := fun q => (h2.mpr q) c
          omega
        rw [this]
      · rw [i_nle (by omega) (by omega)]
        left
        exact ⟨(), rfl, h2.mp c⟩)
    (by
      intro a ha
      refine ⟨nI 4, ?_, by rw [show r = 4 by omega]⟩
      show m_X5_runs_L2 (nI s) f (nI 4) = _
      unfold m_X5_runs_L2
      simp only [q_c0, q_c1, q_c2, q_c3, q_c4, q_c5, q_c6, q_c7, q_c31, q_c32, q_c42, q_c44, q_c45, q_c46, q_c63, q_c64, q_c99, q_c109, q_c110, q_c111, q_c112, q_c113, q_c192, q_c331, q_c332, nI_add, pk_mul]
      rw [if_pos (nI_le (by omega) (by omega))])
    4 0 () 1000 rfl (Nat.zero_le _) (by omega)
  obtain ⟨v, h1, h2⟩ := h
  show (g_loop _ 1000 (nI 0)).bind _ = _
  rw [h1, h2]
  rfl
