/-! handles, names and ranges: both look them up alike -/
def HR (ha ma ha' : Nat → Int32) : Prop := ∀ h, h < 4 → (ha h = -1 ∧ ha' h = 0) ∨ ∃ s, s < 6 ∧ ha h = nI s ∧ ha' h = nI (s + 1) ∧ ma (7 * s) ≠ 0
theorem HR.mem {ha ma ma2 ha' : Nat → Int32} (H : HR ha ma ha') (h2 : ∀ t, t < 6 → (∃ h, h < 4 ∧ ha h = nI t) → ma (7 * t) ≠ 0 → ma2 (7 * t) ≠ 0) : HR ha ma2 ha' := by
  intro h hh
  rcases H h hh with q | ⟨s, s1, a1, a2, a3⟩
  · exact Or.inl q
  · exact Or.inr ⟨s, s1, a1, a2, h2 s s1 ⟨h, hh, a1⟩ a3⟩
theorem u01 : ¬ (1 : Int32) = 0 := by decide
theorem w_rng (p : Int32) (lo hi : Nat) (hh : hi < 2 ^ 31) (hlo : lo < 2 ^ 31) : ((p < nI lo ∨ nI hi < p) ∧ m_X5_within p (nI lo) (nI hi) = some 0) ∨ ∃ j, lo ≤ j ∧ j ≤ hi ∧ p = nI j ∧ m_X5_within p (nI lo) (nI hi) = some 1 := by
  unfold m_X5_within
  by_cases c1 : p < nI lo
  · rw [if_pos c1]; exact Or.inl ⟨Or.inl c1, rfl⟩
  · rw [if_neg c1]
    by_cases c2 : nI hi < p
    · rw [if_pos c2]; exact Or.inl ⟨Or.inr c2, rfl⟩
    · rw [if_neg c2]
      have c0 : ¬ p < nI 0 := by
        intro q
        apply c1
        rw [fa_lt, nI_toInt (by omega)] at q
        rw [fa_lt, nI_toInt hlo]
        omega
      obtain ⟨j, j1, j2⟩ := q_rng hh c0 c2
      refine Or.inr ⟨j, ?_, j1, j2, rfl⟩
      rw [j2] at c1
      rcases Nat.lt_or_ge j lo with z | z
      · exact absurd (nI_lt z hlo) c1
      · exact z
theorem e_isName (p : Int32) : m_X4_isName p = m_X5_within p (nI 1) (nI 99) := rfl
theorem e_isOwner (p : Int32) : m_X4_isOwner p = m_X5_within p (nI 0) (nI 2) := by
  unfold m_X4_isOwner m_X5_within
  have h1 : ((3 : Int32) ≤ p) ↔ (nI 2 < p) := by
    rw [fa_le, fa_lt, nI_toInt (by omega)]
    have h1 : (3 : Int32).toInt = 3 := by decide
    omega
  by_cases c0 : p < (0 : Int32)
  · rw [if_pos c0, if_pos (show p < nI 0 from c0)]
  · rw [if_neg c0, if_neg (show ¬ p < nI 0 from c0)]
    by_cases c : nI 2 < p
    · rw [if_pos c, if_pos (h1.mpr c)]
    · rw [if_neg c, if_neg (fun q => c (h1.mp q))]
theorem s_handle {ha ma ha' : Nat → Int32} (H : HR ha ma ha') (p : Int32) : (m_X4_isOpen ha p = some 0 ∧ m_X5_slotAt ha' 1 p = some (-6)) ∨ ∃ h s, h < 4 ∧ s < 6 ∧ p = nI h ∧ m_X4_isOpen ha p = some 1 ∧ g_ald 4 ha p = some (nI s) ∧ m_X5_slotAt ha' 1 p = some (nI s) ∧ ma (7 * s) ≠ 0 := by
  unfold m_X4_isOpen m_X5_slotAt
  rw [if_neg u01]
  rcases w_rng p 0 3 (by omega) (by omega) with ⟨c, w⟩ | ⟨h, -, h1, h2, w⟩
  · left
    have w : m_X5_within p (0 : Int32) (3 : Int32) = some 0 := w
    rw [w]
    refine ⟨?_, rfl⟩
    by_cases c1 : p < (0 : Int32)
    · rw [if_pos c1]
    · have c2 : nI 3 < p := c.resolve_left c1
      have c3 : (4 : Int32) ≤ p := by
        rw [fa_lt, nI_toInt (by omega)] at c2
        rw [fa_le]
        have h1 : (4 : Int32).toInt = 4 := by decide
        omega
      rw [if_neg c1, if_pos c3]
  · have w : m_X5_within p (0 : Int32) (3 : Int32) = some 1 := w
    rw [w]
    subst h2
    rw [Option.bind_some, if_neg u01, show (0 : Int32) = nI 0 from rfl, show (4 : Int32) = nI 4 from rfl, i_nlt (by omega) (by omega), i_nle (by omega) (by omega), q_ald (by omega) (by omega), Option.bind_some, q_ald (f := ha') (by omega) (by omega), Option.bind_some, Option.bind_some]
    rcases H h (by omega) with ⟨a1, a2⟩ | ⟨s, s1, a1, a2, a3⟩
    · left
      rw [a1, a2]
      exact ⟨rfl, rfl⟩
    · right
      refine ⟨h, s, by omega, s1, rfl, ?_, ?_, ?_, a3⟩
      · rw [a1, if_neg (nI_nm (by omega))]
      · rw [a1]
      · rw [a2, i_nle (by omega) (by omega), show nI (s + 1) - (1 : Int32) = nI s from nI_pred s]
theorem HR.iff {ha ma ha' : Nat → Int32} (H : HR ha ma ha') {h s : Nat} (hh : h < 4) (hs : s < 6) : ha h = nI s ↔ ha' h = nI (s + 1) := by
  rcases H h hh with ⟨a1, a2⟩ | ⟨t, t1, a1, a2, a3⟩
  · rw [a1, a2]
    constructor
    · intro q; exact absurd q.symm (nI_nm (by omega))
    · intro q; exact absurd q.symm (nI_ne0 (by omega) (by omega))
  · rw [a1, a2, nI_eq (by omega) (by omega), nI_eq (by omega) (by omega)]
    omega
theorem s_use {ha ma ha' : Nat → Int32} (H : HR ha ma ha') {s : Nat} (hs : s < 6) : ∃ v : Bool, m_X4_isInUse ha (nI s) = some (bi v) ∧ m_X5_isOpen ha' (nI s) = some (bi v) ∧ (v = false → ∀ h, h < 4 → ha h ≠ nI s) := by
  obtain ⟨r, x1, x2⟩ := q_for (st := fun q => m_X4_isInUse_L2 (nI s) ha q) (fun i (_ : Unit) => nI i) 4 (fun i _ => ∀ h, h < i → ha h ≠ nI s) (fun r => (r = .inr () ∧ ∀ h, h < 4 → ha h ≠ nI s) ∨ (r = .inl 1 ∧ ∃ h, h < 4 ∧ ha h = nI s))
    (by
      intro i a hi hI
      have e : m_X4_isInUse_L2 (nI s) ha (nI i) = if ha i = nI s then some (.inr (.inl 1)) else some (.inl (nI (i + 1))) := by
        unfold m_X4_isInUse_L2
        rw [show (4 : Int32) = nI 4 from rfl, i_nle hi (by omega), q_ald hi (by omega), Option.bind_some, show nI i + (1 : Int32) = nI (i + 1) from nI_1 i]
      by_cases c : ha i = nI s
      · exact Or.inr ⟨_, e.trans (if_pos c), Or.inr ⟨rfl, i, hi, c⟩⟩
      · refine Or.inl ⟨(), e.trans (if_neg c), fun h hh => ?_⟩
        rcases Nat.lt_or_ge h i with z | z
        · exact hI h z
        · have : h = i := by omega
          subst this; exact c)
    (by
      intro a hI
      exact ⟨.inr (), rfl, Or.inl ⟨rfl, hI⟩⟩)
    4 0 () 1000 rfl (fun h hh => absurd hh (Nat.not_lt_zero _)) (by omega)
  obtain ⟨r', y1, v, y2, y3⟩ := q_for (st := fun q => m_X5_isOpen_L4 (nI s) ha' q.1 q.2) (fun i (a : Bool) => (bi a, nI i)) 4 (fun i a => a = true ↔ ∃ h, h < i ∧ ha h = nI s) (fun r => ∃ v : Bool, r = bi v ∧ (v = true ↔ ∃ h, h < 4 ∧ ha h = nI s))
    (by
      intro i a hi hI
      left
      have e : m_X5_isOpen_L4 (nI s) ha' (bi a) (nI i) = if a = true then some (.inl (1, nI (i + 1))) else if ha' i = nI (s + 1) then some (.inl (1, nI (i + 1))) else some (.inl (0, nI (i + 1))) := by
        unfold m_X5_isOpen_L4
        rw [show (4 : Int32) = nI 4 from rfl, i_nle hi (by omega), i_bi, q_ald hi (by omega), Option.bind_some, show nI i + (1 : Int32) = nI (i + 1) from nI_1 i, show nI s + (1 : Int32) = nI (s + 1) from nI_1 s]
      cases a with
      | true =>
        refine ⟨true, e.trans (if_pos rfl), fun _ => ?_, fun _ => rfl⟩
        obtain ⟨h, h1, h2⟩ := hI.mp rfl
        exact ⟨h, by omega, h2⟩
      | false =>
        rw [if_neg (by decide)] at e
        by_cases c : ha' i = nI (s + 1)
        · exact ⟨true, e.trans (if_pos c), fun _ => ⟨i, by omega, (H.iff hi hs).mpr c⟩, fun _ => rfl⟩
        · refine ⟨false, e.trans (if_neg c), fun q => (by cases q), fun q => ?_⟩
          obtain ⟨h, h1, h2⟩ := q
          rcases Nat.lt_or_ge h i with z | z
          · exact hI.mpr ⟨h, z, h2⟩
          · have : h = i := by omega
            subst this
            exact absurd ((H.iff hi hs).mp h2) c)
    (by
      intro a hI
      exact ⟨bi a, rfl, a, rfl, hI⟩)
    4 0 false 1000 rfl ⟨fun q => (by cases q), fun ⟨h, h1, _⟩ => absurd h1 (Nat.not_lt_zero _)⟩ (by omega)
  have x1 : g_loop (fun q => m_X4_isInUse_L2 (nI s) ha q) 1000 (0 : Int32) = some r := x1
  have y1 : g_loop (fun q => m_X5_isOpen_L4 (nI s) ha' q.1 q.2) 1000 ((0 : Int32), (0 : Int32)) = some r' := y1
  refine ⟨v, ?_, ?_, ?_⟩
  · unfold m_X4_isInUse
    rw [x1]
    rcases x2 with ⟨q1, q2⟩ | ⟨q1, q2⟩
    · rw [q1]
      cases v with
      | false => rfl
      | true =>
        obtain ⟨h, h1, h2⟩ := y3.mp rfl
        exact absurd h2 (q2 h h1)
    · rw [q1, y3.mpr q2]; rfl
  · unfold m_X5_isOpen
    rw [y1, y2]
    cases v <;> rfl
  · intro q h hh z
    rw [y3.mpr ⟨h, hh, z⟩] at q; cases q
theorem Cln.nm {f : Nat → Int32} {N O L R Q : Nat → Nat} {E : Nat → Nat → Nat} (h : Cln f N O L R Q E) {s : Nat} (hs : s < 6) : f (7 * s) = nI (N s) ∧ N s ≤ 99 := ⟨(h.1 s hs).1.1, (h.1 s hs).2.1.1⟩
theorem Cln.nz {f : Nat → Int32} {N O L R Q : Nat → Nat} {E : Nat → Nat → Nat} (h : Cln f N O L R Q E) {s : Nat} (hs : s < 6) : f (7 * s) ≠ 0 ↔ N s ≠ 0 := by
  obtain ⟨a1, a2⟩ := h.nm hs
  rw [a1]
  constructor
  · intro q z; rw [z] at q; exact q rfl
  · intro q; exact nI_ne0 (by omega) (by omega)
theorem s_slotOf {f : Nat → Int32} {N O L R Q : Nat → Nat} {E : Nat → Nat → Nat} (h : Cln f N O L R Q E) (p : Int32) : ((m_X2_slotOf f p = some (-1) ∧ m_X5_slotOf f p = some (-1)) ∧ ∀ s, s < 6 → ¬ p = 0 → f (7 * s) ≠ p) ∨ ∃ s, s < 6 ∧ N s ≠ 0 ∧ f (7 * s) = p ∧ m_X2_slotOf f p = some (nI s) ∧ m_X5_slotOf f p = some (nI s) := by
  obtain ⟨r, r', x1, x2, x3⟩ := q_for2 (st := fun q => m_X2_slotOf_L2 p f q) (st' := fun q => m_X5_slotOf_L2 p f q) (fun i (_ : Unit) => nI i) (fun i (_ : Unit) => nI i) 6 (fun i _ => ∀ s, s < i → ¬ p = 0 → f (7 * s) ≠ p) (fun r r' => (r = .inr () ∧ r' = .inr () ∧ ∀ s, s < 6 → ¬ p = 0 → f (7 * s) ≠ p) ∨ ∃ s, s < 6 ∧ N s ≠ 0 ∧ f (7 * s) = p ∧ r = .inl (nI s) ∧ r' = .inl (nI s))
    (by
      intro i a hi hI
      obtain ⟨n1, n2⟩ := h.nm hi
      have e1 : m_X2_slotOf_L2 p f (nI i) = if p = 0 then some (.inl (nI (i + 1))) else if f (7 * i) = p then some (.inr (.inl (nI i))) else some (.inl (nI (i + 1))) := by
        unfold m_X2_slotOf_L2
        rw [show (6 : Int32) = nI 6 from rfl, i_nle hi (by omega), s_nameOf hi, Option.bind_some, show nI i + (1 : Int32) = nI (i + 1) from nI_1 i]
      have e2 : m_X5_slotOf_L2 p f (nI i) = if p ≤ 0 then some (.inl (nI (i + 1))) else if f (7 * i) = p then some (.inr (.inl (nI i))) else some (.inl (nI (i + 1))) := by
        unfold m_X5_slotOf_L2
        rw [show (6 : Int32) = nI 6 from rfl, i_nle hi (by omega), show (7 : Int32) * nI i = nI (7 * i) from pk_mul 7 i, q_ald (by omega) (by omega), Option.bind_some, show nI i + (1 : Int32) = nI (i + 1) from nI_1 i]
      by_cases c : ¬ p = 0 ∧ f (7 * i) = p
      · obtain ⟨c1, c2⟩ := c
        have hN : N i ≠ 0 := by
          intro z
          rw [n1, z] at c2
          exact c1 c2.symm
        have c3 : ¬ p ≤ 0 := by
          rw [← c2, n1]; exact nI_nle (by omega) (by omega)
        exact Or.inr ⟨.inl (nI i), .inl (nI i), by show m_X2_slotOf_L2 p f (nI i) = _; rw [e1, if_neg c1, if_pos c2], by show m_X5_slotOf_L2 p f (nI i) = _; rw [e2, if_neg c3, if_pos c2], Or.inr ⟨i, hi, hN, c2, rfl, rfl⟩⟩
      · refine Or.inl ⟨(), ?_, ?_, fun s hs hp => ?_⟩
        · show m_X2_slotOf_L2 p f (nI i) = _
          rw [e1]
          by_cases c1 : p = 0
          · rw [if_pos c1]
          · rw [if_neg c1, if_neg (fun q => c ⟨c1, q⟩)]
        · show m_X5_slotOf_L2 p f (nI i) = _
          rw [e2]
          by_cases c1 : p ≤ 0
          · rw [if_pos c1]
          · have c2 : ¬ p = 0 := fun q => c1 (by rw [q]; decide)
            rw [if_neg c1, if_neg (fun q => c ⟨c2, q⟩)]
        · rcases Nat.lt_or_ge s i with z | z
          · exact hI s z hp
          · have : s = i := by omega
            subst this
            exact fun q => c ⟨hp, q⟩)
    (by
      intro a hI
      exact ⟨.inr (), .inr (), rfl, rfl, Or.inl ⟨rfl, rfl, hI⟩⟩)
    6 0 () 1000 rfl (fun s hs => absurd hs (Nat.not_lt_zero _)) (by omega)
  have x1 : g_loop (fun q => m_X2_slotOf_L2 p f q) 1000 (0 : Int32) = some r := x1
  have x2 : g_loop (fun q => m_X5_slotOf_L2 p f q) 1000 (0 : Int32) = some r' := x2
  unfold m_X2_slotOf m_X5_slotOf
  rw [x1, x2]
  rcases x3 with ⟨q1, q2, q3⟩ | ⟨s, s1, s2, s3, q1, q2⟩
  · rw [q1, q2]; exact Or.inl ⟨⟨rfl, rfl⟩, q3⟩
  · rw [q1, q2]; exact Or.inr ⟨s, s1, s2, s3, rfl, rfl⟩
theorem s_makeFile {f : Nat → Int32} {s : Nat} {x y : Int32} (hs : s < 6) : m_X2_makeFile f (nI s) x y = some (upd (upd f (7 * s) x) (7 * s + 1) y) := by
  unfold m_X2_makeFile
  rw [show (7 : Int32) * nI s = nI (7 * s) from pk_mul 7 s, q_ast (by omega) (by omega), Option.bind_some, show nI (7 * s) + (1 : Int32) = nI (7 * s + 1) from nI_1 _, q_ast (by omega) (by omega), Option.bind_some]
theorem s_nameFile {f : Nat → Int32} {s : Nat} {x : Int32} (hs : s < 6) : m_X2_nameFile f (nI s) x = some (upd f (7 * s) x) := by
  unfold m_X2_nameFile
  rw [show (7 : Int32) * nI s = nI (7 * s) from pk_mul 7 s, q_ast (by omega) (by omega), Option.bind_some]
theorem s_empty {f : Nat → Int32} {N O L R Q : Nat → Nat} {E : Nat → Nat → Nat} (h : Cln f N O L R Q E) (p q : Int32) : (m_X2_emptySlot f = some (-1) ∧ g_loop (fun z => m_X5_create_L44 p q f z) 1000 (0 : Int32) = some (.inr ())) ∨ ∃ s, s < 6 ∧ N s = 0 ∧ m_X2_emptySlot f = some (nI s) ∧ g_loop (fun z => m_X5_create_L44 p q f z) 1000 (0 : Int32) = some (.inl (nI s, upd (upd f (7 * s) p) (7 * s + 1) q)) := by
  obtain ⟨r, r', x1, x2, x3⟩ := q_for2 (st := fun z => m_X2_emptySlot_L2 f z) (st' := fun z => m_X5_create_L44 p q f z) (fun i (_ : Unit) => nI i) (fun i (_ : Unit) => nI i) 6 (fun i _ => True) (fun r r' => (r = .inr () ∧ r' = .inr ()) ∨ ∃ s, s < 6 ∧ N s = 0 ∧ r = .inl (nI s) ∧ r' = .inl (nI s, upd (upd f (7 * s) p) (7 * s + 1) q))
    (by
      intro i a hi hI
      obtain ⟨n1, n2⟩ := h.nm hi
      have e1 : m_X2_emptySlot_L2 f (nI i) = if nI (N i) = nI 0 then some (.inr (.inl (nI i))) else some (.inl (nI (i + 1))) := by
        unfold m_X2_emptySlot_L2
        rw [show (6 : Int32) = nI 6 from rfl, i_nle hi (by omega), s_nameOf hi, Option.bind_some, n1, show nI i + (1 : Int32) = nI (i + 1) from nI_1 i]
        rfl
      have e2 : m_X5_create_L44 p q f (nI i) = if nI (N i) = nI 0 then some (.inr (.inl (nI i, upd (upd f (7 * i) p) (7 * i + 1) q))) else some (.inl (nI (i + 1))) := by
        unfold m_X5_create_L44
        rw [show (6 : Int32) = nI 6 from rfl, i_nle hi (by omega), show (7 : Int32) * nI i = nI (7 * i) from pk_mul 7 i, q_ald (by omega) (by omega), Option.bind_some, n1, q_ast (by omega) (by omega), Option.bind_some, show nI (7 * i) + (1 : Int32) = nI (7 * i + 1) from nI_1 _, q_ast (by omega) (by omega), Option.bind_some, show nI i + (1 : Int32) = nI (i + 1) from nI_1 i]
        rfl
      by_cases c : N i = 0
      · exact Or.inr ⟨_, _, e1.trans (i_eq c), e2.trans (i_eq c), Or.inr ⟨i, hi, c, rfl, rfl⟩⟩
      · exact Or.inl ⟨(), e1.trans (i_ne c (by omega) (by omega)), e2.trans (i_ne c (by omega) (by omega)), trivial⟩)
    (by
      intro a hI
      exact ⟨.inr (), .inr (), rfl, rfl, Or.inl ⟨rfl, rfl⟩⟩)
    6 0 () 1000 rfl trivial (by omega)
  have x1 : g_loop (fun z => m_X2_emptySlot_L2 f z) 1000 (0 : Int32) = some r := x1
  have x2 : g_loop (fun z => m_X5_create_L44 p q f z) 1000 (0 : Int32) = some r' := x2
  unfold m_X2_emptySlot
  rw [x1, x2]
  rcases x3 with ⟨q1, q2⟩ | ⟨s, s1, s2, q1, q2⟩
  · rw [q1, q2]; exact Or.inl ⟨rfl, rfl⟩
  · rw [q1, q2]; exact Or.inr ⟨s, s1, s2, rfl, rfl⟩
theorem s_closed {ha ma ha' : Nat → Int32} (H : HR ha ma ha') (x : Int32) : (m_X4_closedHandle ha = some (-1) ∧ g_loop (fun z => m_X5_open_L25 ha' x z) 1000 (0 : Int32) = some (.inr ())) ∨ ∃ h, h < 4 ∧ m_X4_closedHandle ha = some (nI h) ∧ g_loop (fun z => m_X5_open_L25 ha' x z) 1000 (0 : Int32) = some (.inl (nI h, upd ha' h (x + 1))) := by
  obtain ⟨r, r', x1, x2, x3⟩ := q_for2 (st := fun z => m_X4_closedHandle_L2 ha z) (st' := fun z => m_X5_open_L25 ha' x z) (fun i (_ : Unit) => nI i) (fun i (_ : Unit) => nI i) 4 (fun i _ => True) (fun r r' => (r = .inr () ∧ r' = .inr ()) ∨ ∃ h, h < 4 ∧ r = .inl (nI h) ∧ r' = .inl (nI h, upd ha' h (x + 1)))
    (by
      intro i a hi hI
      have e1 : m_X4_closedHandle_L2 ha (nI i) = if ha i = -1 then some (.inr (.inl (nI i))) else some (.inl (nI (i + 1))) := by
        unfold m_X4_closedHandle_L2
        rw [show (4 : Int32) = nI 4 from rfl, i_nle hi (by omega), q_ald hi (by omega), Option.bind_some, show nI i + (1 : Int32) = nI (i + 1) from nI_1 i]
      have e2 : m_X5_open_L25 ha' x (nI i) = if ha' i = 0 then some (.inr (.inl (nI i, upd ha' i (x + 1)))) else some (.inl (nI (i + 1))) := by
        unfold m_X5_open_L25
        rw [show (4 : Int32) = nI 4 from rfl, i_nle hi (by omega), q_ald hi (by omega), Option.bind_some, q_ast hi (by omega), Option.bind_some, show nI i + (1 : Int32) = nI (i + 1) from nI_1 i]
      rcases H i hi with ⟨a1, a2⟩ | ⟨s, s1, a1, a2, -⟩
      · exact Or.inr ⟨_, _, e1.trans (if_pos a1), e2.trans (if_pos a2), Or.inr ⟨i, hi, rfl, rfl⟩⟩
      · exact Or.inl ⟨(), e1.trans (if_neg (by rw [a1]; exact nI_nm (by omega))), e2.trans (if_neg (by rw [a2]; exact nI_ne0 (by omega) (by omega))), trivial⟩)
    (by
      intro a hI
      exact ⟨.inr (), .inr (), rfl, rfl, Or.inl ⟨rfl, rfl⟩⟩)
    4 0 () 1000 rfl trivial (by omega)
  have x1 : g_loop (fun z => m_X4_closedHandle_L2 ha z) 1000 (0 : Int32) = some r := x1
  have x2 : g_loop (fun z => m_X5_open_L25 ha' x z) 1000 (0 : Int32) = some r' := x2
  unfold m_X4_closedHandle
  rw [x1, x2]
  rcases x3 with ⟨q1, q2⟩ | ⟨s, s1, q1, q2⟩
  · rw [q1, q2]; exact Or.inl ⟨rfl, rfl⟩
  · rw [q1, q2]; exact Or.inr ⟨s, s1, rfl, rfl⟩
theorem s_freeRuns {f : Nat → Int32} {r : Nat} (hr : r < 6) : ∃ v, m_X2_freeRunsOf f (nI r) = some v ∧ m_X5_countFree (f 45) (nI r) = some v := by
  have hp := r_pow r hr
  obtain ⟨w, w', x1, x2, x3⟩ := q_for2 (st := fun q => m_X2_freeRunsOf_L4 (nI r) f q.1 q.2) (st' := fun q => m_X5_countFree_L4 (f 45) (nI r) q.1 q.2) (fun j (a : Int32) => (a, nI j)) (fun j (a : Int32) => (a, nI (j * 2 ^ r))) (2 ^ (5 - r)) (fun _ _ => True) (fun w w' => w' = w)
    (by
      intro j a hj hI
      left
      have h1 := r_mul_lt hr hj
      have h2 : j * 2 ^ r % 2 ^ r = 0 := Nat.mul_mod_left _ _
      have h3 : nI (j * 2 ^ r) + g_shl (1 : Int32) (nI r) = nI ((j + 1) * 2 ^ r) := by
        rw [r_shl1 r hr, nI_add, Nat.succ_mul]
      have e1 : m_X2_freeRunsOf_L4 (nI r) f a (nI j) = some (.inl (if isFr (f 45) (j * 2 ^ r) r = true then a + 1 else a, nI (j + 1))) := by
        unfold m_X2_freeRunsOf_L4
        rw [r_shr32 r hr, i_nle hj (by omega), r_shlj j (by omega) r hr, s_isFree2 h1.1 hr h2, Option.bind_some, i_bi, show nI j + (1 : Int32) = nI (j + 1) from nI_1 j]
        cases isFr (f 45) (j * 2 ^ r) r <;> rfl
      have e2 : m_X5_countFree_L4 (f 45) (nI r) a (nI (j * 2 ^ r)) = some (.inl (if isFr (f 45) (j * 2 ^ r) r = true then a + 1 else a, nI ((j + 1) * 2 ^ r))) := by
        unfold m_X5_countFree_L4
        rw [show (32 : Int32) = nI 32 from rfl, i_nle h1.1 (by omega), s_isFree5 h1.1 hr h2, Option.bind_some, i_bi, h3]
        cases isFr (f 45) (j * 2 ^ r) r <;> rfl
      exact ⟨_, e1, e2, trivial⟩)
    (by
      intro a hI
      refine ⟨a, a, ?_, ?_, rfl⟩
      · show m_X2_freeRunsOf_L4 (nI r) f a (nI (2 ^ (5 - r))) = _
        unfold m_X2_freeRunsOf_L4
        rw [r_shr32 r hr, i_le (Nat.le_refl _) (by omega)]
      · show m_X5_countFree_L4 (f 45) (nI r) a (nI (2 ^ (5 - r) * 2 ^ r)) = _
        unfold m_X5_countFree_L4
        rw [hp.1, show (32 : Int32) = nI 32 from rfl, i_le (by omega) (by omega)])
    (2 ^ (5 - r)) 0 (0 : Int32) 1000 (by omega) trivial (by omega)
  have x1 : g_loop (fun q => m_X2_freeRunsOf_L4 (nI r) f q.1 q.2) 1000 ((0 : Int32), nI 0) = some w := x1
  rw [Nat.zero_mul] at x2
  unfold m_X2_freeRunsOf m_X5_countFree
  rw [show ((0 : Int32), (0 : Int32)) = ((0 : Int32), nI 0) from rfl, x1, x2, x3]
  exact ⟨w, rfl, rfl⟩
