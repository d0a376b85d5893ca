/-! the reference's sync -/
theorem s_l14 {d m : Nat → Int32} : ∀ (k c n : Nat) (ch : Nat → Int32) (N : Nat), c + k = 110 → n ≤ c → k < N → ∃ ch', g_loop (fun q => m_X5_sync_L14 d m q.1 q.2.1 q.2.2) N (nI n, nI c, ch) = some (nI (n + (chg d m k c).length), ch') ∧ (∀ i, i < n → ch' i = ch i) ∧ ∀ i, i < (chg d m k c).length → ch' (n + i) = nI ((chg d m k c).getD i 0) := by
  intro k
  induction k with
  | zero =>
    intro c n ch N h1 h2 h3
    obtain ⟨N, rfl⟩ : ∃ z, N = z + 1 := ⟨N - 1, by omega⟩
    have : c = 110 := by omega
    subst this
    exact ⟨ch, q_inr rfl, fun _ _ => rfl, fun i hi => absurd hi (Nat.not_lt_zero _)⟩
  | succ k ih =>
    intro c n ch N h1 h2 h3
    obtain ⟨N, rfl⟩ : ∃ z, N = z + 1 := ⟨N - 1, by omega⟩
    have s1 : m_X5_sync_L14 d m (nI n) (nI c) ch = if d c = m c then some (.inl (nI n, nI (c + 1), ch)) else some (.inl (nI (n + 1), nI (c + 1), upd ch n (nI c))) := by
      unfold m_X5_sync_L14
      rw [show (110 : Int32) = nI 110 from rfl, i_nle (by omega) (by omega), q_ald (by omega) (by omega), Option.bind_some, q_ald (by omega) (by omega), Option.bind_some, q_ast (by omega) (by omega), Option.bind_some, show nI c + (1 : Int32) = nI (c + 1) from nI_1 c, show nI n + (1 : Int32) = nI (n + 1) from nI_1 n]
    by_cases e : d c = m c
    · rw [if_pos e] at s1
      rw [chg_e e, q_inl (s' := (nI n, nI (c + 1), ch)) s1]
      exact ih (c + 1) n ch N (by omega) (by omega) (by omega)
    · rw [if_neg e] at s1
      rw [chg_n e, q_inl (s' := (nI (n + 1), nI (c + 1), upd ch n (nI c))) s1]
      obtain ⟨ch', x1, x2, x3⟩ := ih (c + 1) (n + 1) (upd ch n (nI c)) N (by omega) (by omega) (by omega)
      refine ⟨ch', ?_, fun i hi => ?_, fun i hi => ?_⟩
      · rw [x1, List.length_cons, show n + 1 + (chg d m k (c + 1)).length = n + ((chg d m k (c + 1)).length + 1) by omega]
      · rw [x2 i (by omega), q_un (by omega)]
      · cases i with
        | zero =>
          show ch' n = nI c
          rw [x2 n (by omega), q_ul]
        | succ i =>
          rw [List.length_cons] at hi
          rw [show n + (i + 1) = n + 1 + i by omega, x3 i (by omega), List.getD_cons_succ]
theorem s_d64 {m ch : Nat → Int32} {z5 y z u f : Int32} {d h : Nat → Int32} {N : Nat} : g_loop (fun q => m_X5_sync_L64 m z5 ch q.1 q.2.1 q.2.2.1 q.2.2.2.1 q.2.2.2.2.1 q.2.2.2.2.2.1 q.2.2.2.2.2.2) (N + 1) (y, (0 : Int32), z, d, h, u, f) = some (y, (0 : Int32), d, h, u, f) := by
  refine q_inr ?_
  show m_X5_sync_L64 m z5 ch y 0 z d h u f = _
  unfold m_X5_sync_L64
  by_cases c : z5 ≤ z
  · rw [if_pos c]
  · rw [if_neg c, if_pos rfl]
theorem s_d184 {m ch : Nat → Int32} {z5 z u f : Int32} {d h : Nat → Int32} {N : Nat} : g_loop (fun q => m_X5_sync_L184 m z5 ch q.1 q.2.1 q.2.2.1 q.2.2.2.1 q.2.2.2.2.1 q.2.2.2.2.2) (N + 1) ((0 : Int32), z, d, h, u, f) = some ((0 : Int32), d, h, u, f) := by
  refine q_inr ?_
  show m_X5_sync_L184 m z5 ch 0 z d h u f = _
  unfold m_X5_sync_L184
  by_cases c : z5 ≤ z
  · rw [if_pos c]
  · rw [if_neg c, if_pos rfl]
theorem s_j5 {m ch ha : Nat → Int32} {up : Int32} {n : Nat} (hn : n ≤ 110) : ∀ (l : List Nat) (k : Nat) (y : Int32) (d : Nat → Int32) (f : Int32) (N : Nat), k + l.length = n → (∀ i, i < l.length → ch (k + i) = nI (l.getD i 0)) → (∀ a, a ∈ l → a < 110) → l.length + 1 < N →
    ∃ z, g_loop (fun q => m_X5_sync_L64 m (nI n) ch q.1 q.2.1 q.2.2.1 q.2.2.2.1 q.2.2.2.2.1 q.2.2.2.2.2.1 q.2.2.2.2.2.2) N (y, (1 : Int32), nI k, d, ha, up, f) = some (if (wsq (jl m k l) d f).1 = true then (ckf m y l, (1 : Int32), (wsq (jl m k l) d f).2.1, ha, up, (wsq (jl m k l) d f).2.2) else (z, (0 : Int32), (wsq (jl m k l) d f).2.1, hz ha, (0 : Int32), (-1 : Int32))) := by
  intro l
  induction l with
  | nil =>
    intro k y d f N h1 h2 h3 h4
    obtain ⟨N, rfl⟩ : ∃ z, N = z + 1 := ⟨N - 1, by omega⟩
    refine ⟨0, q_inr ?_⟩
    show m_X5_sync_L64 m (nI n) ch y 1 (nI k) d ha up f = _
    unfold m_X5_sync_L64
    rw [i_le (by rw [List.length_nil] at h1; omega) (by omega)]
    rfl
  | cons c l ih =>
    intro k y d f N h1 h2 h3 h4
    rw [List.length_cons] at h1 h4
    obtain ⟨N, rfl⟩ : ∃ z, N = z + 2 := ⟨N - 2, by omega⟩
    have hc := h3 c List.mem_cons_self
    have hk : ch k = nI c := h2 0 (by rw [List.length_cons]; omega)
    have s1 : m_X5_sync_L64 m (nI n) ch y 1 (nI k) d ha up f = if f = 0 then some (.inl (((y * (31 : Int32)) + nI c) * (31 : Int32) + m c, 0, nI (k + 1), d, hz ha, 0, -1)) else if fd f = 0 then some (.inl (((y * (31 : Int32)) + nI c) * (31 : Int32) + m c, 0, nI (k + 1), upd d (112 + 2 * k) (nI c), hz ha, 0, -1)) else some (.inl (((y * (31 : Int32)) + nI c) * (31 : Int32) + m c, 1, nI (k + 1), upd (upd d (112 + 2 * k) (nI c)) (113 + 2 * k) (m c), ha, up, fd (fd f))) := by
      unfold m_X5_sync_L64
      rw [i_nle (by omega) (by omega), if_neg (by decide), q_ald (by omega) (by omega), Option.bind_some, hk, q_ald hc (by omega), Option.bind_some, a_112, s_put (by omega), a_113, show nI k + (1 : Int32) = nI (k + 1) from nI_1 k]
      by_cases c1 : f = 0
      · rw [if_pos c1, if_pos c1]; rfl
      · rw [if_neg c1, if_neg c1, q_k5, if_neg (by decide), Option.bind_some, s_put (by omega)]
        by_cases c2 : fd f = 0
        · rw [if_pos c2, if_pos c2]; rfl
        · rw [if_neg c2, if_neg c2]; rfl
    rw [jl]
    by_cases c1 : f = 0
    · rw [if_pos c1] at s1
      rw [wsq_0 c1, q_inl (s' := (((y * (31 : Int32)) + nI c) * (31 : Int32) + m c, (0 : Int32), nI (k + 1), d, hz ha, (0 : Int32), (-1 : Int32))) s1]
      exact ⟨_, s_d64⟩
    · rw [if_neg c1] at s1
      rw [wsq_1 c1]
      by_cases c2 : fd f = 0
      · rw [if_pos c2] at s1
        rw [wsq_0 c2, q_inl (s' := (((y * (31 : Int32)) + nI c) * (31 : Int32) + m c, (0 : Int32), nI (k + 1), upd d (112 + 2 * k) (nI c), hz ha, (0 : Int32), (-1 : Int32))) s1]
        exact ⟨_, s_d64⟩
      · rw [if_neg c2] at s1
        rw [wsq_1 c2, q_inl (s' := (((y * (31 : Int32)) + nI c) * (31 : Int32) + m c, (1 : Int32), nI (k + 1), upd (upd d (112 + 2 * k) (nI c)) (113 + 2 * k) (m c), ha, up, fd (fd f))) s1]
        refine ih (k + 1) _ _ _ (N + 1) (by omega) (fun i hi => ?_) (fun a h => h3 a (List.mem_cons_of_mem _ h)) (by omega)
        rw [show k + 1 + i = k + (i + 1) by omega, h2 (i + 1) (by rw [List.length_cons]; omega), List.getD_cons_succ]
theorem s_h5 {m ch ha : Nat → Int32} {up : Int32} {n : Nat} (hn : n ≤ 110) : ∀ (l : List Nat) (k : Nat) (d : Nat → Int32) (f : Int32) (N : Nat), k + l.length = n → (∀ i, i < l.length → ch (k + i) = nI (l.getD i 0)) → (∀ a, a ∈ l → a < 110) → l.length + 1 < N →
    g_loop (fun q => m_X5_sync_L184 m (nI n) ch q.1 q.2.1 q.2.2.1 q.2.2.2.1 q.2.2.2.2.1 q.2.2.2.2.2) N ((1 : Int32), nI k, d, ha, up, f) = some (if (wsq (hl m l) d f).1 = true then ((1 : Int32), (wsq (hl m l) d f).2.1, ha, up, (wsq (hl m l) d f).2.2) else ((0 : Int32), (wsq (hl m l) d f).2.1, hz ha, (0 : Int32), (-1 : Int32))) := by
  intro l
  induction l with
  | nil =>
    intro k d f N h1 h2 h3 h4
    obtain ⟨N, rfl⟩ : ∃ z, N = z + 1 := ⟨N - 1, by omega⟩
    refine q_inr ?_
    show m_X5_sync_L184 m (nI n) ch 1 (nI k) d ha up f = _
    unfold m_X5_sync_L184
    rw [i_le (by rw [List.length_nil] at h1; omega) (by omega)]
    rfl
  | cons c l ih =>
    intro k d f N h1 h2 h3 h4
    rw [List.length_cons] at h1 h4
    obtain ⟨N, rfl⟩ : ∃ z, N = z + 2 := ⟨N - 2, by omega⟩
    have hc := h3 c List.mem_cons_self
    have hk : ch k = nI c := h2 0 (by rw [List.length_cons]; omega)
    have s1 : m_X5_sync_L184 m (nI n) ch 1 (nI k) d ha up f = if f = 0 then some (.inl (0, nI (k + 1), d, hz ha, 0, -1)) else some (.inl (1, nI (k + 1), upd d c (m c), ha, up, fd f)) := by
      unfold m_X5_sync_L184
      rw [i_nle (by omega) (by omega), if_neg (by decide), q_ald (by omega) (by omega), Option.bind_some, Option.bind_some, hk, q_ald hc (by omega), Option.bind_some, s_put (by omega), show nI k + (1 : Int32) = nI (k + 1) from nI_1 k]
      by_cases c1 : f = 0
      · rw [if_pos c1, if_pos c1]; rfl
      · rw [if_neg c1, if_neg c1]; rfl
    have e0 : hl m (c :: l) = (c, m c) :: hl m l := rfl
    rw [e0]
    by_cases c1 : f = 0
    · rw [if_pos c1] at s1
      rw [wsq_0 c1, q_inl (s' := ((0 : Int32), nI (k + 1), d, hz ha, (0 : Int32), (-1 : Int32))) s1]
      exact s_d184
    · rw [if_neg c1] at s1
      rw [wsq_1 c1, q_inl (s' := ((1 : Int32), nI (k + 1), upd d c (m c), ha, up, fd f)) s1]
      refine ih (k + 1) _ _ (N + 1) (by omega) (fun i hi => ?_) (fun a h => h3 a (List.mem_cons_of_mem _ h)) (by omega)
      rw [show k + 1 + i = k + (i + 1) by omega, h2 (i + 1) (by rw [List.length_cons]; omega), List.getD_cons_succ]
theorem s_sync5 {d m ha ch : Nat → Int32} {f : Int32} : ∃ ch', m_X5_sync d m ha ch 1 f = some (if chg d m 110 0 = [] then (0, d, ha, ch', 1, f) else if (wsq (tl m (chg d m 110 0)) d f).1 = true then (nI (chg d m 110 0).length, (wsq (tl m (chg d m 110 0)) d f).2.1, ha, ch', 1, (wsq (tl m (chg d m 110 0)) d f).2.2) else (-11, (wsq (tl m (chg d m 110 0)) d f).2.1, hz ha, ch', 0, -1)) := by
  unfold m_X5_sync
  obtain ⟨ch', x1, -, x3⟩ := s_l14 (d := d) (m := m) 110 0 0 ch 1000 rfl (Nat.le_refl _) (by omega)
  refine ⟨ch', ?_⟩
  rw [if_neg (by decide), show ((0 : Int32), (0 : Int32), ch) = (nI 0, nI 0, ch) from rfl, x1, q_k2, Nat.zero_add]
  have hlen := chg_len (d := d) (m := m) (k := 110) (c := 0)
  have hmem : ∀ a, a ∈ chg d m 110 0 → a < 110 := fun a h => by have := chg_mem h; omega
  have x4 : ∀ i, i < (chg d m 110 0).length → ch' (0 + i) = nI ((chg d m 110 0).getD i 0) := x3
  generalize hl0 : chg d m 110 0 = l at *
  cases l with
  | nil => rfl
  | cons a l' =>
    have hne : ¬ (a :: l' = ([] : List Nat)) := fun q => by cases q
    rw [if_neg hne]
    generalize hle : a :: l' = l at *
    have hn : 1 ≤ l.length := by rw [← hle, List.length_cons]; omega
    rw [if_neg (nI_ne0 hn (by omega))]
    obtain ⟨z, y1⟩ := s_j5 (m := m) (ch := ch') (ha := ha) (up := 1) (n := l.length) hlen l 0 (nI l.length) d f 1000 (Nat.zero_add _) x4 hmem (by omega)
    rw [show (nI l.length, (1 : Int32), (0 : Int32), d, ha, (1 : Int32), f) = (nI l.length, (1 : Int32), nI 0, d, ha, (1 : Int32), f) from rfl, y1]
    unfold tl
    rw [wsq_app]
    generalize wsq (jl m 0 l) d f = A at *
    obtain ⟨A1, Ad, Af⟩ := A
    dsimp only
    cases A1 with
    | false =>
      rw [if_neg Bool.false_ne_true, if_neg Bool.false_ne_true, q_k6, if_pos rfl, q_k5, s_d184, q_k5, if_pos rfl]
      rfl
    | true =>
      rw [if_pos rfl, if_pos rfl, q_k6, if_neg (by decide), show (111 : Int32) = nI 111 from rfl, s_put (by omega)]
      by_cases c1 : Af = 0
      · rw [if_pos c1, wsq_0 c1, q_k5, if_pos rfl, q_k5, s_d184, q_k5, if_pos rfl]
        rfl
      · rw [if_neg c1, wsq_1 c1, q_k5, if_neg (by decide), show (110 : Int32) = nI 110 from rfl, s_put (by omega)]
        by_cases c2 : fd Af = 0
        · rw [if_pos c2, wsq_0 c2, q_k5, if_pos rfl, q_k5, s_d184, q_k5, if_pos rfl]
          rfl
        · rw [if_neg c2, wsq_1 c2, q_k5, if_neg (by decide), q_k5]
          have hh := s_h5 (m := m) (ch := ch') (ha := ha) (up := 1) (n := l.length) hlen l 0 (upd (upd Ad 111 (ckf m (nI l.length) l)) 110 (nI l.length)) (fd (fd Af)) 1000 (Nat.zero_add _) x4 hmem (by omega)
          rw [show ((1 : Int32), (0 : Int32), upd (upd Ad 111 (ckf m (nI l.length) l)) 110 (nI l.length), ha, (1 : Int32), fd (fd Af)) = ((1 : Int32), nI 0, upd (upd Ad 111 (ckf m (nI l.length) l)) 110 (nI l.length), ha, (1 : Int32), fd (fd Af)) from rfl, hh]
          dsimp only
          rw [wsq_app]
          generalize wsq (hl m l) (upd (upd Ad 111 (ckf m (nI l.length) l)) 110 (nI l.length)) (fd (fd Af)) = B at *
          obtain ⟨B1, Bd, Bf⟩ := B
          dsimp only
          cases B1 with
          | false =>
            rw [if_neg Bool.false_ne_true, if_neg Bool.false_ne_true, q_k5, if_pos rfl]
            rfl
          | true =>
            rw [if_pos rfl, if_pos rfl, q_k5, if_neg (by decide), s_put (by omega)]
            by_cases c3 : Bf = 0
            · rw [if_pos c3, wsq_0 c3]; rfl
            · rw [if_neg c3, wsq_1 c3]; rfl
