theorem getD_mem {L : List Nat} {i : Nat} (h : i < L.length) : L.getD i 0 ∈ L := by
  rw [List.getD_eq_getElem?_getD, List.getElem?_eq_getElem h]
  exact List.getElem_mem h
theorem Slo.grow {f : Nat → Int32} {s n o l r : Nat} {E : Nat → Nat} {L : List Nat} {m : Int32} (h : Slo f s n o l r E) (hs : s < 6) (hn : n ≠ 0) (hr : r + L.length ≤ 4) (hL : ∀ e, e ∈ L → okE e = true ∧ 0 < e) : Slo (upd (putL f (7 * s + 3 + r) L) 45 m) s n o l (r + L.length) (exL E r L) := by
  have hz := fun {k : Nat} => h.zero (k := k)
  obtain ⟨⟨h1, h2, h3, h4⟩, ⟨h5, h6, h7, h8⟩, h9, h10, h11⟩ := h
  refine ⟨⟨?_, ?_, ?_, fun k hk => ?_⟩, ⟨h5, h6, h7, hr⟩, fun k hk => ?_, fun k hk => ?_, fun q => absurd q hn⟩
  · rw [q_un (by omega), putL_at, if_neg (by omega), h1]
  · rw [q_un (by omega), putL_at, if_neg (by omega), h2]
  · rw [q_un (by omega), putL_at, if_neg (by omega), h3]
  · rw [q_un (by omega), putL_at]
    unfold exL
    by_cases c : k < r
    · rw [if_neg (by omega), if_pos c, h4 k hk]
    · rw [if_neg c]
      by_cases c2 : k < r + L.length
      · rw [if_pos (by omega), show 7 * s + 3 + k - (7 * s + 3 + r) = k - r by omega]
      · rw [if_neg (by omega), h4 k hk, hz (by omega) hk, List.getD_eq_getElem?_getD, List.getElem?_eq_none (by omega)]
        rfl
  · unfold exL
    by_cases c : k < r
    · rw [if_pos c]; exact h9 k hk
    · rw [if_neg c]
      by_cases c2 : k < r + L.length
      · exact (hL _ (getD_mem (by omega))).1
      · rw [List.getD_eq_getElem?_getD, List.getElem?_eq_none (by omega)]; rfl
  · unfold exL
    by_cases c : k < r
    · rw [if_pos c]; have := h10 k hk; omega
    · rw [if_neg c]
      by_cases c2 : k < r + L.length
      · have := (hL _ (getD_mem (i := k - r) (by omega))).2; omega
      · rw [List.getD_eq_getElem?_getD, List.getElem?_eq_none (by omega)]
        show 0 ≠ 0 ↔ _
        omega
theorem usg_lt {O : Nat → Nat} {E : Nat → Nat → Nat} {o : Nat} (h : ∀ s, s < 6 → ∀ k, k < 4 → okE (E s k) = true) : usg O E o ≤ 768 := usg_le (n := 6) h
theorem usg_ge {O : Nat → Nat} {E : Nat → Nat → Nat} {s : Nat} (hs : s < 6) : pre (E s) 4 ≤ usg O E (O s) := by
  have h := sm_part (g := fun t => if O t = O s then pre (E t) 4 else 0) hs
  have e : (if O s = O s then pre (E s) 4 else 0) = pre (E s) 4 := if_pos rfl
  unfold usg
  omega
theorem s_grow2 {f : Nat → Int32} {N O L R Q : Nat → Nat} {E : Nat → Nat → Nat} {s len : Nat} (hS : ∀ s, s < 6 → Slo f s (N s) (O s) (L s) (R s) (E s)) (hQ : ∀ o, o ≤ 2 → f (42 + o) = nI (Q o) ∧ Q o ≤ 32) (hs : s < 6) (hlen : len ≤ 64) (hN : N s ≠ 0) :
    m_X2_grow f (nI s) (nI len) = some (growR f s len (R s) (pre (E s) 4) (usg O E (O s)) (Q (O s))) := by
  obtain ⟨⟨h1, h2, h3, h4⟩, ⟨h5, h6, h7, h8⟩, h9, h10, h11⟩ := id (hS s hs)
  unfold m_X2_grow growR
  rw [show (45 : Int32) = nI 45 from rfl, q_ald (by omega) (by omega), Option.bind_some, s_runs2 hs h4 h9 h8 h10, Option.bind_some]
  rw [show m_X2_needOf (nI len) = some (nI ((len + 1) / 2)) from by unfold m_X2_needOf; rw [s_need (by omega)], Option.bind_some]
  rw [s_takeRuns hs (by omega) h4 h9 h8, q_k2]
  have hg := gro_ok (k := 4 - R s) (m := f 45) (bl := pre (E s) 4) (nd := (len + 1) / 2)
  have hg2 := gro_sum (k := 4 - R s) (m := f 45) (bl := pre (E s) 4) (nd := (len + 1) / 2)
  generalize gro (4 - R s) (f 45) (pre (E s) 4) ((len + 1) / 2) = g at hg hg2 ⊢
  have hz := fun {k : Nat} => (hS s hs).zero (k := k)
  have hundo : ∀ m', g_loop (fun q => m_X2_grow_L83 (nI s) q.1 q.2) 1000 (nI (R s), upd (upd (putL f (7 * s + 3 + R s) g.2.1) 45 m') 45 (f 45)) = some f := by
    intro m'
    refine s_undo hs (4 - R s) (R s) 1000 _ (by omega) (by omega) ?_ ?_
    · intro j hj
      rw [upd_upd]
      by_cases c : j = 45
      · subst c; exact q_ul
      · rw [q_un c, putL_at, if_neg (by omega)]
    · intro j hj1 hj2
      have h12 := h4 (j - (7 * s + 3)) (by omega)
      rw [show 7 * s + 3 + (j - (7 * s + 3)) = j by omega] at h12
      rw [h12, hz (by omega) (by omega)]
      rfl
  by_cases c : g.2.2 < (len + 1) / 2
  · rw [if_pos c, if_pos c]
    rw [if_neg (show ¬ (-8 : Int32) = 0 by decide), q_k1, if_neg (show ¬ (-8 : Int32) = 0 by decide), q_ast (by omega) (by omega), Option.bind_some, hundo, q_k1]
  · rw [if_neg c, if_neg c]
    have hS' : ∀ t, t < 6 → Slo (upd (putL f (7 * s + 3 + R s) g.2.1) 45 g.1) t (N t) (O t) (L t) (va1 R s (R s + g.2.1.length) t) (va1 E s (exL (E s) (R s) g.2.1) t) := by
      intro t ht
      by_cases c2 : t = s
      · subst c2
        rw [va1_s, va1_s]
        exact (hS t ht).grow hs hN (by omega) hg.2.1
      · rw [va1_n c2, va1_n c2]
        refine (hS t ht).same (fun i hi => ?_)
        rw [q_un (by omega), putL_at, if_neg (by omega)]
    have hu := usg_va1 (O := O) (E := E) (s := s) (E' := exL (E s) (R s) g.2.1) hs
    rw [exL_pre (by omega) h10] at hu
    have hul := usg_lt (O := O) (o := O s) (fun t ht => (hS' t ht).2.2.1)
    have hge := usg_ge (O := O) (E := E) hs
    rw [if_pos (show (0 : Int32) = 0 from rfl), s_ownerOf hs, Option.bind_some, (hS' s hs).1.2.1, s_usage hS' h6, Option.bind_some, Option.bind_some, s_quotaOf h6, Option.bind_some]
    have e42 : upd (putL f (7 * s + 3 + R s) g.2.1) 45 g.1 (42 + O s) = nI (Q (O s)) := by rw [q_un (by omega), putL_at, if_neg (by omega), (hQ _ h6).1]
    rw [e42]
    have hq := (hQ _ h6).2
    by_cases c3 : Q (O s) < usg O E (O s) - pre (E s) 4 + g.2.2
    · rw [if_pos c3, i_nle (by omega) (by omega), q_k1, if_neg (show ¬ (-9 : Int32) = 0 by decide), q_ast (by omega) (by omega), Option.bind_some, hundo, q_k1]
    · rw [if_neg c3, i_le (by omega) (by omega), q_k1, if_pos (show (0 : Int32) = 0 from rfl), s_putLength hs, Option.bind_some]
/-- the reference's runs for trying -/
theorem s_try {len : Nat} (hlen : len ≤ 64) : ∀ (k cnt bl : Nat) (m : Int32) (te : Nat → Int32) (N : Nat), cnt + k = 4 → bl ≤ 200 → k < N →
    ∃ R, g_loop (fun q => m_X5_tryGrow_L62 (nI len) q.1 q.2.1 q.2.2.1 q.2.2.2) N (nI bl, te, m, nI cnt) = some R ∧
      (((len + 1) / 2 ≤ (gro k m bl ((len + 1) / 2)).2.2 ∧ R = .inr (nI (gro k m bl ((len + 1) / 2)).2.2, putL te cnt (gro k m bl ((len + 1) / 2)).2.1, (gro k m bl ((len + 1) / 2)).1, nI (cnt + (gro k m bl ((len + 1) / 2)).2.1.length))) ∨
       ((gro k m bl ((len + 1) / 2)).2.2 < (len + 1) / 2 ∧ ∃ te' tm' tc', R = .inl (-8, te', tm', tc'))) := by
  intro k
  have e : ∀ (bl cnt : Nat) (m : Int32) (te : Nat → Int32), cnt ≤ 4 → bl ≤ 200 → m_X5_tryGrow_L62 (nI len) (nI bl) te m (nI cnt) = if (len + 1) / 2 ≤ bl then some (.inr (.inr (nI bl, te, m, nI cnt))) else
      if cnt = 4 then some (.inr (.inl (-8, te, m, nI cnt))) else match chs m (ordN ((len + 1) / 2 - bl) + 1) with
        | none => some (.inr (.inl (-8, te, m, nI cnt)))
        | some (b, r) => some (.inl (nI (bl + 2 ^ r), upd te cnt (nI (1 + b + 32 * r)), m ||| mbE (1 + b + 32 * r), nI (cnt + 1))) := by
    intro bl cnt m te h1 h2
    unfold m_X5_tryGrow_L62
    rw [s_need (by omega)]
    by_cases c : (len + 1) / 2 ≤ bl
    · rw [i_le c (by omega), if_pos c]
    · rw [i_nle (by omega) (by omega), if_neg c]
      have e1 : (fun q => m_X5_tryGrow_L71 (nI len) (nI bl) q) = (fun q => if nI ((len + 1) / 2 - bl) ≤ g_shl (1 : Int32) q then (some (.inr q) : Option (Int32 ⊕ Int32)) else some (.inl (q + (1 : Int32)))) := by
        funext q
        unfold m_X5_tryGrow_L71
        rw [s_need (by omega), pk_sub (by omega)]
      have e2 := s_ser (m := m) (ordN ((len + 1) / 2 - bl) + 1) 1000 (by have := ordN_lt ((len + 1) / 2 - bl); omega) (by have := ordN_lt ((len + 1) / 2 - bl); omega)
      rw [nI_mm] at e2
      rw [e1, show (0 : Int32) = nI 0 from rfl, show (4 : Int32) = nI 4 from rfl, s_ord5 _ (by omega), q_k1, e2, q_k1]
      by_cases c4 : cnt = 4
      · rw [i_eq c4, if_pos c4]
      · rw [if_neg c4, i_ne c4 (by omega) (by omega)]
        cases h : chs m (ordN ((len + 1) / 2 - bl) + 1) with
        | none => rfl
        | some br =>
          obtain ⟨b, r⟩ := br
          have h4 := chs_ok (by have := ordN_lt ((len + 1) / 2 - bl); omega) h
          have h5 := r_cell b h4.2.2.1 r h4.2.1 h4.2.2.2.1
          have h6 := chs_plc (by have := ordN_lt ((len + 1) / 2 - bl); omega) h
          have hp := s_place (m := m) h4.2.1
          rw [h6] at hp
          show (if nI 0 ≤ nI r then _ else _) = _
          rw [i_le (Nat.zero_le _) (by omega), hp, Option.bind_some, show (((1 : Int32) + nI b) + ((32 : Int32) * nI r)) = nI (1 + b + 32 * r) from by simp only [q_c0, q_c1, q_c2, q_c3, q_c4, q_c5, q_c6, q_c7, q_c31, q_c32, q_c42, q_c44, q_c45, q_c46, q_c63, q_c64, q_c99, q_c109, q_c110, q_c111, q_c112, q_c113, q_c192, q_c331, q_c332, nI_add, pk_mul], q_ast (by omega) (by omega), Option.bind_some, r_bits5 b h4.2.2.1 r h4.2.1 h4.2.2.2.1, Option.bind_some, r_shl1 r h4.2.1, nI_add, show nI cnt + (1 : Int32) = nI (cnt + 1) from nI_1 cnt]
  induction k with
  | zero =>
    intro cnt bl m te N h1 h2 h3
    obtain ⟨N, rfl⟩ : ∃ z, N = z + 1 := ⟨N - 1, by omega⟩
    have e1 := e bl cnt m te (by omega) h2
    rw [gro]
    by_cases c : (len + 1) / 2 ≤ bl
    · rw [if_pos c] at e1
      exact ⟨_, q_inr e1, Or.inl ⟨c, rfl⟩⟩
    · rw [if_neg c, if_pos (by omega)] at e1
      exact ⟨_, q_inr e1, Or.inr ⟨by show bl < _; omega, _, _, _, rfl⟩⟩
  | succ k ih =>
    intro cnt bl m te N h1 h2 h3
    obtain ⟨N, rfl⟩ : ∃ z, N = z + 1 := ⟨N - 1, by omega⟩
    have e1 := e bl cnt m te (by omega) h2
    rw [gro]
    by_cases c : (len + 1) / 2 ≤ bl
    · rw [if_pos c] at e1 ⊢
      exact ⟨_, q_inr e1, Or.inl ⟨c, rfl⟩⟩
    · rw [if_neg c, if_neg (by omega)] at e1
      rw [if_neg c]
      cases h : chs m (ordN ((len + 1) / 2 - bl) + 1) with
      | none =>
        rw [h] at e1
        exact ⟨_, q_inr e1, Or.inr ⟨by show bl < _; omega, _, _, _, rfl⟩⟩
      | some br =>
        obtain ⟨b, r⟩ := br
        rw [h] at e1
        have h4 := chs_ok (by have := ordN_lt ((len + 1) / 2 - bl); omega) h
        have h5 := r_cell b h4.2.2.1 r h4.2.1 h4.2.2.2.1
        obtain ⟨R, h6, h7⟩ := ih (cnt + 1) (bl + 2 ^ r) (m ||| mbE (1 + b + 32 * r)) (upd te cnt (nI (1 + b + 32 * r))) N (by omega) (by omega) (by omega)
        rw [q_inl (s' := (nI (bl + 2 ^ r), upd te cnt (nI (1 + b + 32 * r)), m ||| mbE (1 + b + 32 * r), nI (cnt + 1))) e1]
        refine ⟨R, h6, ?_⟩
        rcases h7 with ⟨h7, h8⟩ | h7
        · refine Or.inl ⟨h7, ?_⟩
          rw [h8, show cnt + 1 + (gro k (m ||| mbE (1 + b + 32 * r)) (bl + 2 ^ r) ((len + 1) / 2)).2.1.length = cnt + ((gro k (m ||| mbE (1 + b + 32 * r)) (bl + 2 ^ r) ((len + 1) / 2)).2.1.length + 1) by omega]
          rfl
        · exact Or.inr h7

/-- the reference's copy of the extents -/
theorem s_te {f : Nat → Int32} {s : Nat} (hs : s < 6) (te : Nat → Int32) : ∃ te0, g_loop (fun q => m_X5_tryGrow_L36 (nI s) f q.1 q.2) 1000 (nI 0, te) = some te0 ∧ ∀ k, k < 4 → te0 k = f (7 * s + 3 + k) := by
  refine q_for (st := fun q => m_X5_tryGrow_L36 (nI s) f q.1 q.2) (fun i (a : Nat → Int32) => (nI i, a)) 4 (fun i a => ∀ k, k < i → a k = f (7 * s + 3 + k)) (fun r => ∀ k, k < 4 → r k = f (7 * s + 3 + k)) ?_ ?_ 4 0 te 1000 rfl (fun k h => absurd h (Nat.not_lt_zero _)) (by omega)
  · intro i a hi ha
    left
    refine ⟨upd a i (f (7 * s + 3 + i)), ?_, ?_⟩
    · show m_X5_tryGrow_L36 (nI s) f (nI i) a = _
      unfold m_X5_tryGrow_L36
      rw [show (4 : Int32) = nI 4 from rfl, i_nle (by omega) (by omega), s_extentOf hs hi, Option.bind_some, q_ast (by omega) (by omega), Option.bind_some, show nI i + (1 : Int32) = nI (i + 1) from nI_1 i]
    · intro k hk
      by_cases c : k = i
      · subst c; exact q_ul
      · rw [q_un c]; exact ha k (by omega)
  · intro a ha
    refine ⟨a, ?_, ha⟩
    show m_X5_tryGrow_L36 (nI s) f (nI 4) a = _
    unfold m_X5_tryGrow_L36
    rw [show (4 : Int32) = nI 4 from rfl, i_le (Nat.le_refl _) (by omega)]
/-- and back -/
theorem s_tb {f : Nat → Int32} {s : Nat} (hs : s < 6) (te : Nat → Int32) : g_loop (fun q => m_X5_grow_L14 (nI s) te q.1 q.2) 1000 (nI 0, f) = some (fun j => if 7 * s + 3 ≤ j ∧ j < 7 * s + 7 then te (j - (7 * s + 3)) else f j) := by
  refine q_some (q_for (st := fun q => m_X5_grow_L14 (nI s) te q.1 q.2) (fun i (a : Nat → Int32) => (nI i, a)) 4 (fun i a => a = fun j => if 7 * s + 3 ≤ j ∧ j < 7 * s + 3 + i then te (j - (7 * s + 3)) else f j) (fun r => r = fun j => if 7 * s + 3 ≤ j ∧ j < 7 * s + 7 then te (j - (7 * s + 3)) else f j) ?_ ?_ 4 0 f 1000 rfl ?_ (by omega)) (fun r h => h)
  · intro i a hi ha
    left
    refine ⟨upd a (7 * s + 3 + i) (te i), ?_, ?_⟩
    · show m_X5_grow_L14 (nI s) te (nI i) a = _
      unfold m_X5_grow_L14
      rw [show (4 : Int32) = nI 4 from rfl, i_nle (by omega) (by omega), q_ald (by omega) (by omega), Option.bind_some]
      simp only [q_c0, q_c1, q_c2, q_c3, q_c4, q_c5, q_c6, q_c7, q_c31, q_c32, q_c42, q_c44, q_c45, q_c46, q_c63, q_c64, q_c99, q_c109, q_c110, q_c111, q_c112, q_c113, q_c192, q_c331, q_c332, nI_add, pk_mul]
      rw [q_ast (by omega) (by omega), Option.bind_some]
    · subst ha
      funext j
      by_cases c : j = 7 * s + 3 + i
      · subst c
        rw [q_ul, if_pos (by omega), show 7 * s + 3 + i - (7 * s + 3) = i by omega]
      · rw [q_un c]
        by_cases c2 : 7 * s + 3 ≤ j ∧ j < 7 * s + 3 + i
        · rw [if_pos c2, if_pos (by omega)]
        · rw [if_neg c2, if_neg (by omega)]
  · intro a ha
    refine ⟨a, ?_, ha⟩
    show m_X5_grow_L14 (nI s) te (nI 4) a = _
    unfold m_X5_grow_L14
    rw [show (4 : Int32) = nI 4 from rfl, i_le (Nat.le_refl _) (by omega)]
  · funext j
    rw [if_neg (by omega)]
theorem s_grow5 {f : Nat → Int32} {N O L R Q : Nat → Nat} {E : Nat → Nat → Nat} {s len : Nat} (te : Nat → Int32) (tm tc : Int32) (hS : ∀ s, s < 6 → Slo f s (N s) (O s) (L s) (R s) (E s)) (hQ : ∀ o, o ≤ 2 → f (42 + o) = nI (Q o) ∧ Q o ≤ 32) (hs : s < 6) (hlen : len ≤ 64) :
    ∃ te' tm' tc', m_X5_grow f te tm tc (nI s) (nI len) = some ((growR f s len (R s) (pre (E s) 4) (usg O E (O s)) (Q (O s))).1, (growR f s len (R s) (pre (E s) 4) (usg O E (O s)) (Q (O s))).2, te', tm', tc') := by
  obtain ⟨⟨h1, h2, h3, h4⟩, ⟨h5, h6, h7, h8⟩, h9, h10, h11⟩ := id (hS s hs)
  have hb := pre_le (k := 4) h9
  unfold m_X5_grow m_X5_tryGrow growR
  obtain ⟨te0, ht1, ht2⟩ := s_te (f := f) hs te
  obtain ⟨X, hx1, hx2⟩ := s_try (len := len) hlen (4 - R s) (R s) (pre (E s) 4) (f 45) te0 1000 (by omega) (by omega) (by omega)
  rw [s_blocks hs h4 h9, Option.bind_some, show (45 : Int32) = nI 45 from rfl, q_ald (by omega) (by omega), Option.bind_some, s_runs5 hs h4 h9 h8 h10, Option.bind_some, show (0 : Int32) = nI 0 from rfl, ht1, q_k1, hx1]
  have hg := gro_ok (k := 4 - R s) (m := f 45) (bl := pre (E s) 4) (nd := (len + 1) / 2)
  have hg3 : ¬ pre (E s) 4 < (len + 1) / 2 → (gro (4 - R s) (f 45) (pre (E s) 4) ((len + 1) / 2)).2.2 = pre (E s) 4 := by
    intro q
    cases h : 4 - R s with
    | zero => rfl
    | succ k => rw [gro, if_pos (by omega)]
  have hge := usg_ge (O := O) (E := E) hs
  have hul := usg_lt (O := O) (o := O s) (fun t ht => (hS t ht).2.2.1)
  generalize gro (4 - R s) (f 45) (pre (E s) 4) ((len + 1) / 2) = g at hg hg3 hx2 ⊢
  rcases hx2 with ⟨hx2, hx3⟩ | ⟨hx2, te', tm', tc', hx3⟩
  · rw [hx3, q_sr, q_e4]
    have hgl : g.2.2 ≤ 200 := by
      rcases Nat.lt_or_ge (pre (E s) 4) ((len + 1) / 2) with q | q
      · have := hg.2.2.2 q (by omega); omega
      · have := hg3 (by omega); omega
    simp only [q_c0, q_c1, q_c2, q_c3, q_c4, q_c5, q_c6, q_c7, q_c31, q_c32, q_c42, q_c44, q_c45, q_c46, q_c63, q_c64, q_c99, q_c109, q_c110, q_c111, q_c112, q_c113, q_c192, q_c331, q_c332, nI_add, pk_mul]
    rw [q_ald (by omega) (by omega), Option.bind_some, h2, s_used hS h6, Option.bind_some, Option.bind_some]
    simp only [q_c0, q_c1, q_c2, q_c3, q_c4, q_c5, q_c6, q_c7, q_c31, q_c32, q_c42, q_c44, q_c45, q_c46, q_c63, q_c64, q_c99, q_c109, q_c110, q_c111, q_c112, q_c113, q_c192, q_c331, q_c332, nI_add, pk_mul]
    rw [q_ald (by omega) (by omega), Option.bind_some, (hQ _ h6).1, pk_sub hge, nI_add, if_neg (by omega : ¬ g.2.2 < (len + 1) / 2)]
    have hq := (hQ _ h6).2
    by_cases c3 : Q (O s) < usg O E (O s) - pre (E s) 4 + g.2.2
    · rw [if_pos c3, i_nle (by omega) (by omega), q_k4, if_neg (show ¬ (-9 : Int32) = nI 0 by decide)]
      exact ⟨_, _, _, rfl⟩
    · rw [if_neg c3, i_le (by omega) (by omega), q_k4, if_pos rfl, s_tb hs, q_k1, q_ast (by omega) (by omega), Option.bind_some, q_ast (by omega) (by omega), Option.bind_some]
      have e : (fun j => if 7 * s + 3 ≤ j ∧ j < 7 * s + 7 then putL te0 (R s) g.2.1 (j - (7 * s + 3)) else f j) = putL f (7 * s + 3 + R s) g.2.1 := by
        funext j
        rw [putL_at, putL_at]
        by_cases c : 7 * s + 3 ≤ j ∧ j < 7 * s + 7
        · rw [if_pos c]
          by_cases c2 : R s ≤ j - (7 * s + 3) ∧ j - (7 * s + 3) < R s + g.2.1.length
          · rw [if_pos c2, if_pos (by omega), show j - (7 * s + 3) - R s = j - (7 * s + 3 + R s) by omega]
          · rw [if_neg c2, if_neg (by omega), ht2 _ (by omega), show 7 * s + 3 + (j - (7 * s + 3)) = j by omega]
        · rw [if_neg c, if_neg (by omega)]
      rw [e]
      exact ⟨_, _, _, rfl⟩
  · rw [hx3, q_sl, if_pos hx2, q_k4, if_neg (show ¬ (-8 : Int32) = nI 0 by decide)]
    exact ⟨_, _, _, rfl⟩
