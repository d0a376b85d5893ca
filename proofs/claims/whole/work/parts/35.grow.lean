/-! growing: the runs taken, one after the other -/
def gro : Nat → Int32 → Nat → Nat → Int32 × List Nat × Nat
  | 0, m, bl, _ => (m, [], bl)
  | k + 1, m, bl, nd => if nd ≤ bl then (m, [], bl) else match chs m (ordN (nd - bl) + 1) with
    | none => (m, [], bl)
    | some (b, r) => ((gro k (m ||| mbE (1 + b + 32 * r)) (bl + 2 ^ r) nd).1, (1 + b + 32 * r) :: (gro k (m ||| mbE (1 + b + 32 * r)) (bl + 2 ^ r) nd).2.1, (gro k (m ||| mbE (1 + b + 32 * r)) (bl + 2 ^ r) nd).2.2)
def putL (f : Nat → Int32) (a : Nat) : List Nat → Nat → Int32
  | [] => f
  | e :: L => putL (upd f a (nI e)) (a + 1) L
theorem upd_same {f : Nat → Int32} {k : Nat} : upd f k (f k) = f := by
  funext j
  by_cases h : j = k
  · subst h; exact q_ul
  · exact q_un h
theorem upd_upd {f : Nat → Int32} {k : Nat} {x y : Int32} : upd (upd f k x) k y = upd f k y := by
  funext j
  by_cases h : j = k
  · subst h; rw [q_ul, q_ul]
  · rw [q_un h, q_un h, q_un h]
theorem upd_ext {f g : Nat → Int32} {k : Nat} {x : Int32} (h : ∀ j, j ≠ k → f j = g j) : upd f k x = upd g k x := by
  funext j
  by_cases e : j = k
  · subst e; rw [q_ul, q_ul]
  · rw [q_un e, q_un e, h j e]
theorem putL_at : ∀ {L : List Nat} {f : Nat → Int32} {a j : Nat}, putL f a L j = if a ≤ j ∧ j < a + L.length then nI (L.getD (j - a) 0) else f j
  | [], f, a, j => by
    rw [putL, if_neg (by simp only [List.length_nil]; omega)]
  | e :: L, f, a, j => by
    rw [putL, putL_at, List.length_cons]
    by_cases c : j = a
    · subst c
      rw [if_neg (by omega), if_pos (by omega), q_ul, Nat.sub_self]
      rfl
    · rw [q_un c]
      by_cases c2 : a + 1 ≤ j ∧ j < a + 1 + L.length
      · rw [if_pos c2, if_pos (by omega), show j - a = (j - (a + 1)) + 1 by omega]
        rfl
      · rw [if_neg c2, if_neg (by omega)]
theorem s_putExtent {f : Nat → Int32} {s k : Nat} {x : Int32} (hs : s < 6) (hk : k < 4) : m_X2_putExtent f (nI s) (nI k) x = some (upd f (7 * s + 3 + k) x) := by
  unfold m_X2_putExtent
  simp only [q_c0, q_c1, q_c2, q_c3, q_c4, q_c5, q_c6, q_c7, q_c31, q_c32, q_c42, q_c44, q_c45, q_c46, q_c63, q_c64, q_c99, q_c109, q_c110, q_c111, q_c112, q_c113, q_c192, q_c331, q_c332, nI_add, pk_mul]
  rw [q_ast (by omega) (by omega), Option.bind_some]
theorem s_putLength {f : Nat → Int32} {s : Nat} {x : Int32} (hs : s < 6) : m_X2_putLength f (nI s) x = some (upd f (7 * s + 2) x) := by
  unfold m_X2_putLength
  simp only [q_c0, q_c1, q_c2, q_c3, q_c4, q_c5, q_c6, q_c7, q_c31, q_c32, q_c42, q_c44, q_c45, q_c46, q_c63, q_c64, q_c99, q_c109, q_c110, q_c111, q_c112, q_c113, q_c192, q_c331, q_c332, nI_add, pk_mul]
  rw [q_ast (by omega) (by omega), Option.bind_some]
theorem s_need {n : Nat} (h : n ≤ 1000) : (nI n + (1 : Int32)) / (2 : Int32) = nI ((n + 1) / 2) := by
  rw [show nI n + (1 : Int32) = nI (n + 1) from nI_1 n]
  exact pk_div (a := n + 1) (d := 2) (by omega) (by omega) (by omega)
theorem gro_ok : ∀ {k : Nat} {m : Int32} {bl nd : Nat}, (gro k m bl nd).2.1.length ≤ k ∧ (∀ e, e ∈ (gro k m bl nd).2.1 → okE e = true ∧ 0 < e) ∧ bl ≤ (gro k m bl nd).2.2 ∧ (bl < nd → nd ≤ 32 → (gro k m bl nd).2.2 < nd + 32)
  | 0, m, bl, nd => ⟨Nat.le_refl _, fun e h => absurd h List.not_mem_nil, Nat.le_refl _, fun h _ => by show bl < _; omega⟩
  | k + 1, m, bl, nd => by
    rw [gro]
    by_cases c : nd ≤ bl
    · rw [if_pos c]
      exact ⟨Nat.zero_le _, fun e h => absurd h List.not_mem_nil, Nat.le_refl _, fun h => absurd c (by omega)⟩
    · rw [if_neg c]
      cases h : chs m (ordN (nd - bl) + 1) with
      | none => exact ⟨Nat.zero_le _, fun e h => absurd h List.not_mem_nil, Nat.le_refl _, fun h _ => by show bl < _; omega⟩
      | some br =>
        obtain ⟨b, r⟩ := br
        have h1 := chs_ok (by have := ordN_lt (nd - bl); omega) h
        have h2 := r_cell b h1.2.2.1 r h1.2.1 h1.2.2.2.1
        have ih := gro_ok (k := k) (m := m ||| mbE (1 + b + 32 * r)) (bl := bl + 2 ^ r) (nd := nd)
        refine ⟨?_, ?_, ?_, ?_⟩
        · show (_ :: _).length ≤ _
          rw [List.length_cons]; omega
        · intro e he
          rcases List.mem_cons.mp he with q | q
          · rw [q]; exact ⟨h2.1, by omega⟩
          · exact ih.2.1 e q
        · exact Nat.le_trans (by omega) ih.2.2.1
        · intro h3 h4
          show (gro k _ (bl + 2 ^ r) nd).2.2 < _
          rcases Nat.lt_or_ge (bl + 2 ^ r) nd with q | q
          · exact ih.2.2.2 q h4
          · have : gro k (m ||| mbE (1 + b + 32 * r)) (bl + 2 ^ r) nd = (m ||| mbE (1 + b + 32 * r), [], bl + 2 ^ r) := by
              cases k with
              | zero => rfl
              | succ k => rw [gro, if_pos q]
            rw [this]
            show bl + 2 ^ r < _
            omega
theorem sm_head {g : Nat → Nat} : ∀ {n : Nat}, sm g (n + 1) = g 0 + sm (fun i => g (i + 1)) n
  | 0 => by simp [sm]
  | n + 1 => by rw [sm, sm_head, sm]; omega
theorem s_takes {s nd : Nat} (hs : s < 6) (hn : nd ≤ 32) : ∀ (k cnt bl : Nat) (f : Nat → Int32) (N : Nat), cnt + k = 4 → bl ≤ 200 → k < N →
    ∃ R, g_loop (fun q => m_X2_takeRuns_L10 (nI s) (nI nd) q.1 q.2.1 q.2.2) N (nI bl, nI cnt, f) = some R ∧
      (R = .inr (nI (gro k (f 45) bl nd).2.2, upd (putL f (7 * s + 3 + cnt) (gro k (f 45) bl nd).2.1) 45 (gro k (f 45) bl nd).1) ∨
       (R = .inl (-8, upd (putL f (7 * s + 3 + cnt) (gro k (f 45) bl nd).2.1) 45 (gro k (f 45) bl nd).1) ∧ (gro k (f 45) bl nd).2.2 < nd)) := by
  intro k
  induction k with
  | zero =>
    intro cnt bl f N h1 h2 h3
    obtain ⟨N, rfl⟩ : ∃ z, N = z + 1 := ⟨N - 1, by omega⟩
    have : cnt = 4 := by omega
    subst this
    refine ⟨_, q_inr (r := .inr (nI bl, f)) rfl, Or.inl ?_⟩
    show _ = Sum.inr (nI bl, upd f 45 (f 45))
    rw [upd_same]
  | succ k ih =>
    intro cnt bl f N h1 h2 h3
    obtain ⟨N, rfl⟩ : ∃ z, N = z + 1 := ⟨N - 1, by omega⟩
    have e : m_X2_takeRuns_L10 (nI s) (nI nd) (nI bl) (nI cnt) f = if nd ≤ bl then some (.inr (.inr (nI bl, f))) else match chs (f 45) (ordN (nd - bl) + 1) with
        | none => some (.inr (.inl (-8, f)))
        | some (b, r) => some (.inl (nI (bl + 2 ^ r), nI (cnt + 1), upd (tkm f b r) (7 * s + 3 + cnt) (nI (1 + b + 32 * r)))) := by
      unfold m_X2_takeRuns_L10
      rw [show (4 : Int32) = nI 4 from rfl, i_nle (by omega) (by omega)]
      by_cases c : nd ≤ bl
      · rw [i_le c (by omega), if_pos c]
      · rw [i_nle (by omega) (by omega), if_neg c, pk_sub (by omega), s_takeRunFor (by omega), Option.bind_some]
        cases h : chs (f 45) (ordN (nd - bl) + 1) with
        | none => rfl
        | some br =>
          obtain ⟨b, r⟩ := br
          have h4 := chs_ok (by have := ordN_lt (nd - bl); omega) h
          have h5 := r_cell b h4.2.2.1 r h4.2.1 h4.2.2.2.1
          show (if nI (1 + b + 32 * r) = (0 : Int32) then _ else _) = _
          rw [show (0 : Int32) = nI 0 from rfl, i_ne (by omega) (by omega) (by omega), s_putExtent hs (by omega), Option.bind_some, r_blocksOf _ (by omega), Option.bind_some, h5.2.1]
          rw [nI_add, show nI cnt + (1 : Int32) = nI (cnt + 1) from nI_1 cnt]
    rw [gro]
    by_cases c : nd ≤ bl
    · rw [if_pos c] at e ⊢
      refine ⟨_, q_inr e, Or.inl ?_⟩
      show _ = Sum.inr (nI bl, upd f 45 (f 45))
      rw [upd_same]
    · rw [if_neg c] at e ⊢
      cases h : chs (f 45) (ordN (nd - bl) + 1) with
      | none =>
        rw [h] at e
        refine ⟨_, q_inr e, Or.inr ⟨?_, by show bl < nd; omega⟩⟩
        show _ = Sum.inl (-8, upd f 45 (f 45))
        rw [upd_same]
      | some br =>
        obtain ⟨b, r⟩ := br
        rw [h] at e
        have h4 := chs_ok (by have := ordN_lt (nd - bl); omega) h
        have h5 := r_cell b h4.2.2.1 r h4.2.1 h4.2.2.2.1
        have e45 : upd (tkm f b r) (7 * s + 3 + cnt) (nI (1 + b + 32 * r)) 45 = f 45 ||| mbE (1 + b + 32 * r) := by
          rw [q_un (by omega)]
          exact q_ul
        obtain ⟨R, h6, h7⟩ := ih (cnt + 1) (bl + 2 ^ r) (upd (tkm f b r) (7 * s + 3 + cnt) (nI (1 + b + 32 * r))) N (by omega) (by omega) (by omega)
        rw [e45] at h7
        have e2 : ∀ (L : List Nat) (m' : Int32), upd (putL (upd (tkm f b r) (7 * s + 3 + cnt) (nI (1 + b + 32 * r))) (7 * s + 3 + (cnt + 1)) L) 45 m' = upd (putL f (7 * s + 3 + cnt) ((1 + b + 32 * r) :: L)) 45 m' := by
          intro L m'
          apply upd_ext
          intro j hj
          rw [putL, putL_at, putL_at, show 7 * s + 3 + (cnt + 1) = 7 * s + 3 + cnt + 1 by omega]
          by_cases c3 : 7 * s + 3 + cnt + 1 ≤ j ∧ j < 7 * s + 3 + cnt + 1 + L.length
          · rw [if_pos c3, if_pos c3]
          · rw [if_neg c3, if_neg c3]
            by_cases c4 : j = 7 * s + 3 + cnt
            · subst c4; rw [q_ul, q_ul]
            · rw [q_un c4, q_un c4]
              exact q_un hj
        rw [e2] at h7
        rw [q_inl (s' := (nI (bl + 2 ^ r), nI (cnt + 1), upd (tkm f b r) (7 * s + 3 + cnt) (nI (1 + b + 32 * r)))) e]
        exact ⟨R, h6, h7⟩

/-- the extents of a file with more runs behind its own -/
def exL (E : Nat → Nat) (r : Nat) (L : List Nat) : Nat → Nat := fun k => if k < r then E k else L.getD (k - r) 0
theorem gro_sum : ∀ {k : Nat} {m : Int32} {bl nd : Nat}, (gro k m bl nd).2.2 = bl + sm (fun i => szN ((gro k m bl nd).2.1.getD i 0)) (gro k m bl nd).2.1.length
  | 0, m, bl, nd => rfl
  | k + 1, m, bl, nd => by
    rw [gro]
    by_cases c : nd ≤ bl
    · rw [if_pos c]; rfl
    · rw [if_neg c]
      cases h : chs m (ordN (nd - bl) + 1) with
      | none => rfl
      | some br =>
        obtain ⟨b, r⟩ := br
        have h1 := chs_ok (by have := ordN_lt (nd - bl); omega) h
        have h2 := r_cell b h1.2.2.1 r h1.2.1 h1.2.2.2.1
        have ih := gro_sum (k := k) (m := m ||| mbE (1 + b + 32 * r)) (bl := bl + 2 ^ r) (nd := nd)
        show (gro k (m ||| mbE (1 + b + 32 * r)) (bl + 2 ^ r) nd).2.2 = bl + sm (fun i => szN (((1 + b + 32 * r) :: (gro k (m ||| mbE (1 + b + 32 * r)) (bl + 2 ^ r) nd).2.1).getD i 0)) ((gro k (m ||| mbE (1 + b + 32 * r)) (bl + 2 ^ r) nd).2.1.length + 1)
        rw [ih, sm_head]
        show _ = bl + (szN (1 + b + 32 * r) + sm (fun i => szN ((gro k (m ||| mbE (1 + b + 32 * r)) (bl + 2 ^ r) nd).2.1.getD i 0)) _)
        rw [h2.2.1]
        omega
theorem exL_pre {E : Nat → Nat} {r : Nat} {L : List Nat} (hr : r + L.length ≤ 4) (hz : ∀ k, k < 4 → (E k ≠ 0 ↔ k < r)) : pre (exL E r L) 4 = pre E 4 + sm (fun i => szN (L.getD i 0)) L.length := by
  have h0 : ∀ d, r + d ≤ 4 → pre E (r + d) = pre E r := by
    intro d
    induction d with
    | zero => intro _; rfl
    | succ d ih =>
      intro h
      have h1 := ih (by omega)
      have h2 := hz (r + d) (by omega)
      have : E (r + d) = 0 := by
        rcases Nat.eq_zero_or_pos (E (r + d)) with q | q
        · exact q
        · have := h2.mp (by omega); omega
      show pre E (r + d) + szN (E (r + d)) = _
      rw [this, h1]; rfl
  have h1 : ∀ d, r + d ≤ 4 → pre (exL E r L) (r + d) = pre E r + sm (fun i => szN (L.getD i 0)) d := by
    intro d
    induction d with
    | zero =>
      intro _
      show sm _ r = sm _ r + 0
      exact sm_cong (fun k hk => by show szN (exL E r L k) = _; unfold exL; rw [if_pos hk])
    | succ d ih =>
      intro h
      have h1 := ih (by omega)
      show pre (exL E r L) (r + d) + szN (exL E r L (r + d)) = _ + (_ + _)
      rw [h1]
      have : exL E r L (r + d) = L.getD d 0 := by
        unfold exL; rw [if_neg (by omega), show r + d - r = d by omega]
      rw [this, Nat.add_assoc]
  have h2 : ∀ d, L.length + d ≤ 4 → sm (fun i => szN (L.getD i 0)) (L.length + d) = sm (fun i => szN (L.getD i 0)) L.length := by
    intro d
    induction d with
    | zero => intro _; rfl
    | succ d ih =>
      intro h
      have h1 := ih (by omega)
      show sm _ (L.length + d) + szN (L.getD (L.length + d) 0) = _
      rw [h1, List.getD_eq_getElem?_getD, List.getElem?_eq_none (by omega)]
      rfl
  have h3 := h1 (4 - r) (by omega)
  have h4 := h0 (4 - r) (by omega)
  have h5 := h2 (4 - r - L.length) (by omega)
  rw [show r + (4 - r) = 4 by omega] at h3 h4
  rw [show L.length + (4 - r - L.length) = 4 - r by omega] at h5
  rw [h3, h4, h5]

theorem s_takeRuns {f : Nat → Int32} {s nd r : Nat} {E : Nat → Nat} (hs : s < 6) (hn : nd ≤ 32) (hE : ∀ k, k < 4 → f (7 * s + 3 + k) = nI (E k)) (hO : ∀ k, k < 4 → okE (E k) = true) (hr : r ≤ 4) :
    m_X2_takeRuns f (nI s) (nI r) (nI nd) = some (if (gro (4 - r) (f 45) (pre E 4) nd).2.2 < nd then -8 else 0, upd (putL f (7 * s + 3 + r) (gro (4 - r) (f 45) (pre E 4) nd).2.1) 45 (gro (4 - r) (f 45) (pre E 4) nd).1) := by
  unfold m_X2_takeRuns
  have hb := pre_le (k := 4) hO
  rw [e_blocks, s_blocks hs hE hO, Option.bind_some]
  obtain ⟨R, h1, h2⟩ := s_takes (s := s) hs hn (4 - r) r (pre E 4) f 1000 (by omega) (by omega) (by omega)
  rw [h1, Option.bind_some]
  generalize hg : gro (4 - r) (f 45) (pre E 4) nd = g at h2 ⊢
  have hsz : g.2.2 < 2 ^ 31 := by
    have := gro_ok (k := 4 - r) (m := f 45) (bl := pre E 4) (nd := nd)
    rw [hg] at this
    rcases Nat.lt_or_ge (pre E 4) nd with q | q
    · have := this.2.2.2 q hn; omega
    · have h3 : g.2.2 = pre E 4 := by
        rw [← hg]
        cases h : 4 - r with
        | zero => rfl
        | succ k => rw [gro, if_pos q]
      omega
  rcases h2 with h2 | ⟨h2, h3⟩
  · rw [h2]
    show (if nI nd ≤ nI g.2.2 then _ else _) = _
    by_cases c : g.2.2 < nd
    · rw [i_nle c (by omega), if_pos c]
    · rw [i_le (by omega) hsz, if_neg c]
  · rw [h2, if_pos h3]
    rfl
theorem s_quotaOf {f : Nat → Int32} {o : Nat} (ho : o ≤ 2) : m_X2_quotaOf f (nI o) = some (f (42 + o)) := by
  unfold m_X2_quotaOf
  simp only [q_c0, q_c1, q_c2, q_c3, q_c4, q_c5, q_c6, q_c7, q_c31, q_c32, q_c42, q_c44, q_c45, q_c46, q_c63, q_c64, q_c99, q_c109, q_c110, q_c111, q_c112, q_c113, q_c192, q_c331, q_c332, nI_add, pk_mul]
  rw [q_ald (by omega) (by omega), Option.bind_some]
theorem s_ownerOf {f : Nat → Int32} {s : Nat} (hs : s < 6) : m_X2_ownerOf f (nI s) = some (f (7 * s + 1)) := by
  unfold m_X2_ownerOf
  simp only [q_c0, q_c1, q_c2, q_c3, q_c4, q_c5, q_c6, q_c7, q_c31, q_c32, q_c42, q_c44, q_c45, q_c46, q_c63, q_c64, q_c99, q_c109, q_c110, q_c111, q_c112, q_c113, q_c192, q_c331, q_c332, nI_add, pk_mul]
  rw [q_ald (by omega) (by omega), Option.bind_some]
theorem s_lengthOf {f : Nat → Int32} {s : Nat} (hs : s < 6) : m_X2_lengthOf f (nI s) = some (f (7 * s + 2)) := by
  unfold m_X2_lengthOf
  simp only [q_c0, q_c1, q_c2, q_c3, q_c4, q_c5, q_c6, q_c7, q_c31, q_c32, q_c42, q_c44, q_c45, q_c46, q_c63, q_c64, q_c99, q_c109, q_c110, q_c111, q_c112, q_c113, q_c192, q_c331, q_c332, nI_add, pk_mul]
  rw [q_ald (by omega) (by omega), Option.bind_some]
theorem s_undo {s : Nat} {f : Nat → Int32} (hs : s < 6) : ∀ (d k N : Nat) (g : Nat → Int32), k + d = 4 → d < N → (∀ j, ¬ (7 * s + 3 + k ≤ j ∧ j < 7 * s + 7) → g j = f j) → (∀ j, 7 * s + 3 + k ≤ j → j < 7 * s + 7 → f j = 0) → g_loop (fun q => m_X2_grow_L83 (nI s) q.1 q.2) N (nI k, g) = some f := by
  intro d
  induction d with
  | zero =>
    intro k N g h1 h2 h3 h4
    obtain ⟨N, rfl⟩ : ∃ z, N = z + 1 := ⟨N - 1, by omega⟩
    have : k = 4 := by omega
    subst this
    have : g = f := funext (fun j => h3 j (by omega))
    subst this
    exact q_inr rfl
  | succ d ih =>
    intro k N g h1 h2 h3 h4
    obtain ⟨N, rfl⟩ : ∃ z, N = z + 1 := ⟨N - 1, by omega⟩
    have e : m_X2_grow_L83 (nI s) (nI k) g = some (.inl (nI (k + 1), upd g (7 * s + 3 + k) 0)) := by
      unfold m_X2_grow_L83
      rw [show (4 : Int32) = nI 4 from rfl, i_nle (by omega) (by omega), s_putExtent hs (by omega), Option.bind_some]
      rw [show nI k + (1 : Int32) = nI (k + 1) from nI_1 k]
    rw [q_inl (s' := (nI (k + 1), upd g (7 * s + 3 + k) 0)) e]
    refine ih (k + 1) N _ (by omega) (by omega) ?_ (fun j h5 h6 => h4 j (by omega) h6)
    intro j hj
    by_cases c : j = 7 * s + 3 + k
    · subst c
      rw [q_ul, h4 _ (Nat.le_refl _) (by omega)]
    · rw [q_un c]
      exact h3 j (by omega)
theorem Slo.same {f g : Nat → Int32} {s n o l r : Nat} {E : Nat → Nat} (h : Slo f s n o l r E) (hg : ∀ i, i < 7 → g (7 * s + i) = f (7 * s + i)) : Slo g s n o l r E := by
  obtain ⟨⟨h1, h2, h3, h4⟩, h5⟩ := h
  refine ⟨⟨?_, ?_, ?_, fun k hk => ?_⟩, h5⟩
  · rw [← h1]; exact hg 0 (by omega)
  · rw [← h2]; exact hg 1 (by omega)
  · rw [← h3]; exact hg 2 (by omega)
  · rw [← h4 k hk, Nat.add_assoc]; exact hg (3 + k) (by omega)
theorem Slo.zero {f : Nat → Int32} {s n o l r : Nat} {E : Nat → Nat} (h : Slo f s n o l r E) {k : Nat} (hk : r ≤ k) (hk4 : k < 4) : E k = 0 := by
  have := h.2.2.2.1 k hk4
  rcases Nat.eq_zero_or_pos (E k) with q | q
  · exact q
  · have := this.mp (by omega); omega
/-- what growing answers, and what it makes of the memory -/
def growR (f : Nat → Int32) (s len r bl u q : Nat) : Int32 × (Nat → Int32) :=
  if (gro (4 - r) (f 45) bl ((len + 1) / 2)).2.2 < (len + 1) / 2 then (-8, f)
  else if q < u - bl + (gro (4 - r) (f 45) bl ((len + 1) / 2)).2.2 then (-9, f)
  else (0, upd (upd (putL f (7 * s + 3 + r) (gro (4 - r) (f 45) bl ((len + 1) / 2)).2.1) 45 (gro (4 - r) (f 45) bl ((len + 1) / 2)).1) (7 * s + 2) (nI len))
def va1 {α : Type} (g : Nat → α) (k : Nat) (v : α) : Nat → α := fun j => if j = k then v else g j
theorem va1_s {α : Type} {g : Nat → α} {k : Nat} {v : α} : va1 g k v k = v := if_pos rfl
theorem va1_n {α : Type} {g : Nat → α} {k j : Nat} {v : α} (h : j ≠ k) : va1 g k v j = g j := if_neg h
theorem usg_va1 {O : Nat → Nat} {E : Nat → Nat → Nat} {s : Nat} {E' : Nat → Nat} (hs : s < 6) : usg O (va1 E s E') (O s) + pre (E s) 4 = usg O E (O s) + pre E' 4 := by
  have h := sm_upd (g := fun t => if O t = O s then pre (E t) 4 else 0) (v := pre E' 4) (i := s) (n := 6) hs
  have e : (fun k => if k = s then pre E' 4 else if O k = O s then pre (E k) 4 else 0) = (fun t => if O t = O s then pre (va1 E s E' t) 4 else 0) := by
    funext t
    by_cases c : t = s
    · subst c; rw [if_pos rfl, if_pos rfl, va1_s]
    · rw [if_neg c, va1_n c]
  rw [e] at h
  rw [if_pos rfl] at h
  exact h
