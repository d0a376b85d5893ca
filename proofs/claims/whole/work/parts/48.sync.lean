/-! sync: the cells written, one by one, as long as the fuse bears them -/
def fd (f : Int32) : Int32 := if f ≤ 0 then f else f - 1
def wsq : List (Nat × Int32) → (Nat → Int32) → Int32 → Bool × (Nat → Int32) × Int32
  | [], d, f => (true, d, f)
  | q :: l, d, f => if f = 0 then (false, d, f) else wsq l (upd d q.1 q.2) (fd f)
theorem wsq_app : ∀ {l1 l2 : List (Nat × Int32)} {d : Nat → Int32} {f : Int32}, wsq (l1 ++ l2) d f = if (wsq l1 d f).1 = true then wsq l2 (wsq l1 d f).2.1 (wsq l1 d f).2.2 else wsq l1 d f
  | [], l2, d, f => (if_pos rfl).symm
  | q :: l1, l2, d, f => by
    rw [List.cons_append, wsq, wsq]
    by_cases c : f = 0
    · rw [if_pos c, if_pos c]; rfl
    · rw [if_neg c, if_neg c]; exact wsq_app
theorem wsq_0 {q : Nat × Int32} {l : List (Nat × Int32)} {d : Nat → Int32} {f : Int32} (h : f = 0) : wsq (q :: l) d f = (false, d, f) := by rw [wsq, if_pos h]
theorem wsq_1 {q : Nat × Int32} {l : List (Nat × Int32)} {d : Nat → Int32} {f : Int32} (h : ¬ f = 0) : wsq (q :: l) d f = wsq l (upd d q.1 q.2) (fd f) := by rw [wsq, if_neg h]
theorem wsq_out {j : Nat} : ∀ {l : List (Nat × Int32)} {d : Nat → Int32} {f : Int32}, (∀ q, q ∈ l → q.1 ≠ j) → (wsq l d f).2.1 j = d j
  | [], d, f, _ => rfl
  | q :: l, d, f, h => by
    by_cases c : f = 0
    · rw [wsq_0 c]
    · rw [wsq_1 c, wsq_out (fun x hx => h x (List.mem_cons_of_mem _ hx)), q_un (fun z => h q List.mem_cons_self z.symm)]
theorem s_wc {d : Nat → Int32} {f w : Int32} {a : Nat} (ha : a < 332) : m_X4_writeCell d f (nI a) w = some (if f = 0 then (0, d, f) else (1, upd d a w, fd f)) := by
  unfold m_X4_writeCell fd
  rw [q_ast ha (by omega), Option.bind_some, Option.bind_some]
  by_cases c : f = 0
  · rw [if_pos c, if_pos c]
  · rw [if_neg c, if_neg c]
    by_cases c2 : f ≤ 0
    · rw [if_pos c2, if_pos c2]
    · rw [if_neg c2, if_neg c2]
def hz (ha : Nat → Int32) : Nat → Int32 := ovr (fun _ => 0) ha 4
theorem s_put {d ha : Nat → Int32} {up f w : Int32} {a : Nat} (h : a < 332) : m_X5_put d ha up f (nI a) w = some (if f = 0 then (0, d, hz ha, 0, -1) else (1, upd d a w, ha, up, fd f)) := by
  have e := q_copy (st := fun q => m_X5_put_L19 q.1 q.2) (fun _ => 0) ha 4 (fun a => a) (by omega)
    (by
      intro i a hi
      show m_X5_put_L19 (nI i) a = _
      unfold m_X5_put_L19
      rw [show (4 : Int32) = nI 4 from rfl, i_nle hi (by omega), q_ast hi (by omega), Option.bind_some, show nI i + (1 : Int32) = nI (i + 1) from nI_1 i])
    (fun a => rfl)
  unfold m_X5_put fd
  rw [q_ast h (by omega), Option.bind_some, Option.bind_some]
  by_cases c : f = 0
  · rw [if_pos c, if_pos c]
    rw [show ((0 : Int32), ha) = (nI 0, ha) from rfl, e, q_k1]
    rfl
  · rw [if_neg c, if_neg c]
    by_cases c2 : f ≤ 0
    · rw [if_pos c2, if_pos c2]
    · rw [if_neg c2, if_neg c2]
theorem s_chd {d m : Nat → Int32} {c : Nat} (hc : c < 110) : m_X4_isChanged d m (nI c) = some (bi (decide (¬ d c = m c))) := by
  unfold m_X4_isChanged
  rw [q_ald (by omega) (by omega), Option.bind_some, q_ald hc (by omega), Option.bind_some]
  by_cases e : d c = m c
  · rw [if_pos e, decide_eq_false (fun q => q e)]; rfl
  · rw [if_neg e, decide_eq_true e]; rfl
/-- the cells from c on, k of them, that differ -/
def chg (d m : Nat → Int32) : Nat → Nat → List Nat
  | 0, _ => []
  | k + 1, c => if d c = m c then chg d m k (c + 1) else c :: chg d m k (c + 1)
theorem chg_e {d m : Nat → Int32} {k c : Nat} (h : d c = m c) : chg d m (k + 1) c = chg d m k (c + 1) := by rw [chg, if_pos h]
theorem chg_n {d m : Nat → Int32} {k c : Nat} (h : ¬ d c = m c) : chg d m (k + 1) c = c :: chg d m k (c + 1) := by rw [chg, if_neg h]
theorem chg_len {d m : Nat → Int32} : ∀ {k c : Nat}, (chg d m k c).length ≤ k
  | 0, _ => Nat.le_refl _
  | k + 1, c => by
    have := chg_len (d := d) (m := m) (k := k) (c := c + 1)
    by_cases h : d c = m c
    · rw [chg_e h]; omega
    · rw [chg_n h, List.length_cons]; omega
theorem chg_mem {d m : Nat → Int32} {a : Nat} : ∀ {k c : Nat}, a ∈ chg d m k c → c ≤ a ∧ a < c + k
  | 0, _, h => by cases h
  | k + 1, c, h => by
    by_cases e : d c = m c
    · rw [chg_e e] at h
      have := chg_mem h; omega
    · rw [chg_n e, List.mem_cons] at h
      rcases h with q | q
      · omega
      · have := chg_mem q; omega
theorem chg_cg {d d' m : Nat → Int32} : ∀ {k c : Nat}, (∀ j, c ≤ j → j < c + k → d j = d' j) → chg d m k c = chg d' m k c
  | 0, _, _ => rfl
  | k + 1, c, h => by
    have ih := chg_cg (d := d) (d' := d') (m := m) (k := k) (c := c + 1) (fun j h1 h2 => h j (by omega) (by omega))
    rw [chg, chg, ih, h c (by omega) (by omega)]
theorem s_count {d m : Nat → Int32} : m_X4_countChanges d m = some (nI (chg d m 110 0).length) := by
  unfold m_X4_countChanges
  obtain ⟨r, x1, x2⟩ := q_for (st := fun q => m_X4_countChanges_L4 d m q.1 q.2) (fun i (a : Nat) => (nI a, nI i)) 110 (fun i a => a + (chg d m (110 - i) i).length = (chg d m 110 0).length) (fun r => r = nI (chg d m 110 0).length)
    (by
      intro i a hi ha
      left
      rw [show 110 - i = (110 - (i + 1)) + 1 by omega] at ha
      have e : m_X4_countChanges_L4 d m (nI a) (nI i) = if d i = m i then some (.inl (nI a, nI (i + 1))) else some (.inl (nI (a + 1), nI (i + 1))) := by
        unfold m_X4_countChanges_L4
        rw [show (110 : Int32) = nI 110 from rfl, i_nle hi (by omega), s_chd hi, Option.bind_some, i_bi, show nI i + (1 : Int32) = nI (i + 1) from nI_1 i, show nI a + (1 : Int32) = nI (a + 1) from nI_1 a]
        by_cases c : d i = m i
        · rw [decide_eq_false (fun q => q c), if_neg (by decide), if_pos c]
        · rw [decide_eq_true c, if_pos rfl, if_neg c]
      by_cases c : d i = m i
      · rw [chg_e c] at ha
        exact ⟨a, e.trans (if_pos c), ha⟩
      · rw [chg_n c, List.length_cons] at ha
        exact ⟨a + 1, e.trans (if_neg c), by omega⟩)
    (by
      intro a ha
      refine ⟨nI a, ?_, ?_⟩
      · show m_X4_countChanges_L4 d m (nI a) (nI 110) = _
        rfl
      · have : (chg d m (110 - 110) 110).length = 0 := rfl
        rw [← ha, this]; rfl)
    110 0 0 1000 rfl (Nat.zero_add _) (by omega)
  rw [show ((0 : Int32), (0 : Int32)) = (nI 0, nI 0) from rfl, x1, x2]
  rfl
/-- the pairs of the journal; its check; the cells of home -/
def jl (m : Nat → Int32) : Nat → List Nat → List (Nat × Int32)
  | _, [] => []
  | i, c :: l => (112 + 2 * i, nI c) :: (113 + 2 * i, m c) :: jl m (i + 1) l
def ckf (m : Nat → Int32) : Int32 → List Nat → Int32
  | y, [] => y
  | y, c :: l => ckf m (((y * (31 : Int32)) + nI c) * (31 : Int32) + m c) l
def hl (m : Nat → Int32) (l : List Nat) : List (Nat × Int32) := l.map (fun c => (c, m c))
theorem jl_out {m : Nat → Int32} {j : Nat} (hj : j < 110) : ∀ {l : List Nat} {i : Nat} {q : Nat × Int32}, q ∈ jl m i l → q.1 ≠ j
  | [], _, q, h => by cases h
  | c :: l, i, q, h => by
    rw [jl, List.mem_cons, List.mem_cons] at h
    rcases h with h | h | h
    · rw [h]; show 112 + 2 * i ≠ j; omega
    · rw [h]; show 113 + 2 * i ≠ j; omega
    · exact jl_out hj h
theorem s_wj {m : Nat → Int32} : ∀ (k c i : Nat) (y : Int32) (d : Nat → Int32) (f : Int32) (N : Nat), c + k = 110 → i ≤ c → k < N →
    g_loop (fun q => m_X4_writeJournal_L8 m q.1 q.2.1 q.2.2.1 q.2.2.2.1 q.2.2.2.2) N (y, nI (112 + 2 * i), nI c, d, f) = some (if (wsq (jl m i (chg d m k c)) d f).1 = true then .inr (ckf m y (chg d m k c), (wsq (jl m i (chg d m k c)) d f).2.1, (wsq (jl m i (chg d m k c)) d f).2.2) else .inl (0, (wsq (jl m i (chg d m k c)) d f).2.1, (wsq (jl m i (chg d m k c)) d f).2.2)) := by
  intro k
  induction k with
  | zero =>
    intro c i y d f N h1 h2 h3
    obtain ⟨N, rfl⟩ : ∃ z, N = z + 1 := ⟨N - 1, by omega⟩
    have : c = 110 := by omega
    subst this
    exact q_inr rfl
  | succ k ih =>
    intro c i y d f N h1 h2 h3
    obtain ⟨N, rfl⟩ : ∃ z, N = z + 1 := ⟨N - 1, by omega⟩
    by_cases e : d c = m c
    · rw [chg_e e]
      have s1 : m_X4_writeJournal_L8 m y (nI (112 + 2 * i)) (nI c) d f = some (.inl (y, nI (112 + 2 * i), nI (c + 1), d, f)) := by
        unfold m_X4_writeJournal_L8
        rw [show (110 : Int32) = nI 110 from rfl, i_nle (by omega) (by omega), s_chd (by omega), Option.bind_some, i_bi, decide_eq_false (fun q => q e), if_neg (by decide), show nI c + (1 : Int32) = nI (c + 1) from nI_1 c]
      rw [q_inl (s' := (y, nI (112 + 2 * i), nI (c + 1), d, f)) s1]
      exact ih (c + 1) i y d f N (by omega) (by omega) (by omega)
    · rw [chg_n e, jl]
      have s1 : m_X4_writeJournal_L8 m y (nI (112 + 2 * i)) (nI c) d f = if f = 0 then some (.inr (.inl (0, d, f))) else if fd f = 0 then some (.inr (.inl (0, upd d (112 + 2 * i) (nI c), fd f))) else some (.inl (((y * (31 : Int32)) + nI c) * (31 : Int32) + m c, nI (112 + 2 * (i + 1)), nI (c + 1), upd (upd d (112 + 2 * i) (nI c)) (113 + 2 * i) (m c), fd (fd f))) := by
        unfold m_X4_writeJournal_L8 m_X1_nextCheck
        rw [show (110 : Int32) = nI 110 from rfl, i_nle (by omega) (by omega), s_chd (by omega), Option.bind_some, i_bi, decide_eq_true e, if_pos rfl, q_ald (by omega) (by omega), Option.bind_some, s_wc (by omega), show nI c + (1 : Int32) = nI (c + 1) from nI_1 c, show nI (112 + 2 * i) + (1 : Int32) = nI (113 + 2 * i) from (nI_1 _).trans (by rw [show 112 + 2 * i + 1 = 113 + 2 * i by omega]), show nI (112 + 2 * i) + (2 : Int32) = nI (112 + 2 * (i + 1)) from (nI_add _ 2).trans (by rw [show 112 + 2 * i + 2 = 112 + 2 * (i + 1) by omega])]
        by_cases c1 : f = 0
        · rw [if_pos c1, if_pos c1]; rfl
        · rw [if_neg c1, if_neg c1, q_k3, if_neg (by decide), s_wc (by omega)]
          by_cases c2 : fd f = 0
          · rw [if_pos c2, if_pos c2]; rfl
          · rw [if_neg c2, if_neg c2, q_k3, if_neg (by decide)]; rfl
      by_cases c1 : f = 0
      · rw [if_pos c1] at s1
        rw [wsq_0 c1]
        exact q_inr s1
      · rw [if_neg c1] at s1
        rw [wsq_1 c1]
        by_cases c2 : fd f = 0
        · rw [if_pos c2] at s1
          rw [wsq_0 c2]
          exact q_inr s1
        · rw [if_neg c2] at s1
          rw [wsq_1 c2]
          rw [q_inl (s' := (((y * (31 : Int32)) + nI c) * (31 : Int32) + m c, nI (112 + 2 * (i + 1)), nI (c + 1), upd (upd d (112 + 2 * i) (nI c)) (113 + 2 * i) (m c), fd (fd f))) s1]
          have e2 : chg d m k (c + 1) = chg (upd (upd d (112 + 2 * i) (nI c)) (113 + 2 * i) (m c)) m k (c + 1) := chg_cg (fun j h1 h2 => by rw [q_un (by omega), q_un (by omega)])
          rw [e2]
          exact ih (c + 1) (i + 1) _ _ _ N (by omega) (by omega) (by omega)
theorem s_wh {m : Nat → Int32} : ∀ (k c : Nat) (d : Nat → Int32) (f : Int32) (N : Nat), c + k = 110 → k < N →
    g_loop (fun q => m_X4_writeHome_L2 m q.1 q.2.1 q.2.2) N (nI c, d, f) = some (if (wsq (hl m (chg d m k c)) d f).1 = true then .inr ((wsq (hl m (chg d m k c)) d f).2.1, (wsq (hl m (chg d m k c)) d f).2.2) else .inl (0, (wsq (hl m (chg d m k c)) d f).2.1, (wsq (hl m (chg d m k c)) d f).2.2)) := by
  intro k
  induction k with
  | zero =>
    intro c d f N h1 h3
    obtain ⟨N, rfl⟩ : ∃ z, N = z + 1 := ⟨N - 1, by omega⟩
    have : c = 110 := by omega
    subst this
    exact q_inr rfl
  | succ k ih =>
    intro c d f N h1 h3
    obtain ⟨N, rfl⟩ : ∃ z, N = z + 1 := ⟨N - 1, by omega⟩
    by_cases e : d c = m c
    · rw [chg_e e]
      have s1 : m_X4_writeHome_L2 m (nI c) d f = some (.inl (nI (c + 1), d, f)) := by
        unfold m_X4_writeHome_L2
        rw [show (110 : Int32) = nI 110 from rfl, i_nle (by omega) (by omega), s_chd (by omega), Option.bind_some, i_bi, decide_eq_false (fun q => q e), if_neg (by decide), show nI c + (1 : Int32) = nI (c + 1) from nI_1 c]
      rw [q_inl (s' := (nI (c + 1), d, f)) s1]
      exact ih (c + 1) d f N (by omega) (by omega)
    · rw [chg_n e]
      have s1 : m_X4_writeHome_L2 m (nI c) d f = if f = 0 then some (.inr (.inl (0, d, f))) else some (.inl (nI (c + 1), upd d c (m c), fd f)) := by
        unfold m_X4_writeHome_L2
        rw [show (110 : Int32) = nI 110 from rfl, i_nle (by omega) (by omega), s_chd (by omega), Option.bind_some, i_bi, decide_eq_true e, if_pos rfl, q_ald (by omega) (by omega), Option.bind_some, s_wc (by omega), show nI c + (1 : Int32) = nI (c + 1) from nI_1 c]
        by_cases c1 : f = 0
        · rw [if_pos c1, if_pos c1]; rfl
        · rw [if_neg c1, if_neg c1]; rfl
      show g_loop _ _ _ = some (if (wsq ((c, m c) :: hl m (chg d m k (c + 1))) d f).1 = true then Sum.inr ((wsq ((c, m c) :: hl m (chg d m k (c + 1))) d f).2.1, (wsq ((c, m c) :: hl m (chg d m k (c + 1))) d f).2.2) else Sum.inl (0, (wsq ((c, m c) :: hl m (chg d m k (c + 1))) d f).2.1, (wsq ((c, m c) :: hl m (chg d m k (c + 1))) d f).2.2))
      by_cases c1 : f = 0
      · rw [if_pos c1] at s1
        rw [wsq_0 c1]
        exact q_inr s1
      · rw [if_neg c1] at s1
        rw [wsq_1 c1, q_inl (s' := (nI (c + 1), upd d c (m c), fd f)) s1]
        have e2 : chg d m k (c + 1) = chg (upd d c (m c)) m k (c + 1) := chg_cg (fun j h1 h2 => by rw [q_un (by omega)])
        rw [e2]
        exact ih (c + 1) _ _ N (by omega) (by omega)
/-- all that is written -/
def tl (m : Nat → Int32) (l : List Nat) : List (Nat × Int32) := jl m 0 l ++ ((111, ckf m (nI l.length) l) :: (110, nI l.length) :: (hl m l ++ [(110, 0)]))
theorem s_sync4 {d m : Nat → Int32} {f : Int32} : m_X4_sync d m 1 f = some (if chg d m 110 0 = [] then (0, d, 1, f) else if (wsq (tl m (chg d m 110 0)) d f).1 = true then (nI (chg d m 110 0).length, (wsq (tl m (chg d m 110 0)) d f).2.1, 1, (wsq (tl m (chg d m 110 0)) d f).2.2) else (-11, (wsq (tl m (chg d m 110 0)) d f).2.1, 0, (wsq (tl m (chg d m 110 0)) d f).2.2)) := by
  unfold m_X4_sync
  rw [if_neg (by decide), s_count, Option.bind_some]
  have hlen := chg_len (d := d) (m := m) (k := 110) (c := 0)
  have hj := s_wj (m := m) 110 0 0 (nI (chg d m 110 0).length) d f 1000 rfl (Nat.le_refl _) (by omega)
  have hout : ∀ j, j < 110 → (wsq (jl m 0 (chg d m 110 0)) d f).2.1 j = d j := fun j hj => wsq_out (fun q hq => jl_out hj hq)
  generalize hl0 : chg d m 110 0 = l at *
  cases l with
  | nil => rfl
  | cons a l' =>
    have hne : ¬ (a :: l' = ([] : List Nat)) := fun q => by cases q
    rw [if_neg hne]
    generalize hle : a :: l' = l at *
    have hn : 1 ≤ l.length := by rw [← hle, List.length_cons]; omega
    rw [if_neg (nI_ne0 hn (by omega))]
    unfold m_X4_writeJournal
    rw [show ((nI l.length), (112 : Int32), (0 : Int32), d, f) = (nI l.length, nI (112 + 2 * 0), nI 0, d, f) from rfl, hj]
    unfold tl
    rw [wsq_app]
    generalize wsq (jl m 0 l) d f = A at *
    obtain ⟨A1, Ad, Af⟩ := A
    dsimp only at hout ⊢
    cases A1 with
    | false => rfl
    | true =>
      rw [if_pos rfl, if_pos rfl, q_sr, q_e3, show (111 : Int32) = nI 111 from rfl, s_wc (by omega)]
      by_cases c1 : Af = 0
      · rw [if_pos c1, wsq_0 c1]; rfl
      · rw [if_neg c1, wsq_1 c1, q_k3, if_neg (by decide), show (110 : Int32) = nI 110 from rfl, s_wc (by omega)]
        by_cases c2 : fd Af = 0
        · rw [if_pos c2, wsq_0 c2]; rfl
        · rw [if_neg c2, wsq_1 c2, q_k3, if_neg (by decide), q_k3, if_neg (by decide)]
          unfold m_X4_writeHome
          have e2 : chg (upd (upd Ad 111 (ckf m (nI l.length) l)) 110 (nI l.length)) m 110 0 = l := by
            rw [← hl0]
            exact chg_cg (fun j h1 h2 => by rw [q_un (by omega), q_un (by omega)]; exact hout j (by omega))
          have hh := s_wh (m := m) 110 0 (upd (upd Ad 111 (ckf m (nI l.length) l)) 110 (nI l.length)) (fd (fd Af)) 1000 rfl (by omega)
          rw [e2] at hh
          rw [show ((0 : Int32), upd (upd Ad 111 (ckf m (nI l.length) l)) 110 (nI l.length), fd (fd Af)) = (nI 0, upd (upd Ad 111 (ckf m (nI l.length) l)) 110 (nI l.length), fd (fd Af)) from rfl, hh]
          dsimp only
          rw [wsq_app]
          generalize wsq (hl m l) (upd (upd Ad 111 (ckf m (nI l.length) l)) 110 (nI l.length)) (fd (fd Af)) = B at *
          obtain ⟨B1, Bd, Bf⟩ := B
          dsimp only
          cases B1 with
          | false => rfl
          | true =>
            rw [if_pos rfl, if_pos rfl, q_sr, q_e2, q_k3, if_neg (by decide), s_wc (by omega)]
            by_cases c3 : Bf = 0
            · rw [if_pos c3, wsq_0 c3]; rfl
            · rw [if_neg c3, wsq_1 c3]; rfl
