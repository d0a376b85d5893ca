/-! shrinking: words that go, runs that are given back -/
def zw (E : Nat → Nat) : Nat → Nat → (Nat → Int32) → Nat → Int32
  | 0, _, f => f
  | d + 1, a, f => zw E d (a + 1) (match idx E 4 0 a with | some w => upd f (46 + w) 0 | none => f)
theorem zw_or {E : Nat → Nat} : ∀ {d a j : Nat} {f : Nat → Int32}, f j = 0 → zw E d a f j = 0
  | 0, a, j, f, h => h
  | d + 1, a, j, f, h => by
    rw [zw]
    refine zw_or ?_
    cases idx E 4 0 a with
    | none => exact h
    | some w =>
      by_cases c : j = 46 + w
      · subst c; exact q_ul
      · show upd f (46 + w) 0 j = 0
        rw [q_un c]; exact h
theorem zw_in {E : Nat → Nat} : ∀ {d a p w : Nat} {f : Nat → Int32}, a ≤ p → p < a + d → idx E 4 0 p = some w → zw E d a f (46 + w) = 0
  | 0, a, p, w, f, h1, h2, _ => absurd h2 (by omega)
  | d + 1, a, p, w, f, h1, h2, h3 => by
    rw [zw]
    rcases Nat.lt_or_ge a p with q | q
    · exact zw_in (by omega) (by omega) h3
    · have : p = a := by omega
      subst this
      refine zw_or ?_
      rw [h3]
      exact q_ul
theorem zw_out {E : Nat → Nat} : ∀ {d a j : Nat} {f : Nat → Int32}, (∀ p w, a ≤ p → p < a + d → idx E 4 0 p = some w → j ≠ 46 + w) → zw E d a f j = f j
  | 0, a, j, f, _ => rfl
  | d + 1, a, j, f, h => by
    rw [zw, zw_out (fun p w h1 h2 h3 => h p w (by omega) (by omega) h3)]
    cases c : idx E 4 0 a with
    | none => rfl
    | some w => exact q_un (h a w (Nat.le_refl _) (by omega) c)
theorem s_putWord {f : Nat → Int32} {s p : Nat} {x : Int32} {E : Nat → Nat} (hs : s < 6) (hE : ∀ k, k < 4 → f (7 * s + 3 + k) = nI (E k)) (hO : ∀ k, k < 4 → okE (E k) = true) (hp : p ≤ 1000) : m_X2_putWord f (nI s) (nI p) x = some (match idx E 4 0 p with | some w => upd f (46 + w) x | none => f) := by
  unfold m_X2_putWord
  rw [s_wordIndex hs hE hO hp, Option.bind_some]
  cases h : idx E 4 0 p with
  | none => rfl
  | some w =>
    have hw := idx_lt hO h
    show (if nI w = (-1 : Int32) then _ else _) = _
    have : ¬ nI w = (-1 : Int32) := by
      intro q
      rw [fa_eq, nI_toInt (by omega)] at q
      have : (-1 : Int32).toInt = -1 := by decide
      omega
    rw [if_neg this]
    simp only [q_c0, q_c1, q_c2, q_c3, q_c4, q_c5, q_c6, q_c7, q_c31, q_c32, q_c42, q_c44, q_c45, q_c46, q_c63, q_c64, q_c99, q_c109, q_c110, q_c111, q_c112, q_c113, q_c192, q_c331, q_c332, nI_add, pk_mul]
    rw [q_ast (by omega) (by omega), Option.bind_some]
theorem s_shrW {s l : Nat} {E : Nat → Nat} (hs : s < 6) (hl : l ≤ 64) (hO : ∀ k, k < 4 → okE (E k) = true) : ∀ (d a N : Nat) (f : Nat → Int32), a + d = l → (∀ k, k < 4 → f (7 * s + 3 + k) = nI (E k)) → d < N → g_loop (fun q => m_X2_shrink_L9 (nI s) (nI l) q.1 q.2) N (nI a, f) = some (zw E d a f) := by
  intro d
  induction d with
  | zero =>
    intro a N f h1 h2 h3
    obtain ⟨N, rfl⟩ : ∃ z, N = z + 1 := ⟨N - 1, by omega⟩
    refine q_inr ?_
    show m_X2_shrink_L9 (nI s) (nI l) (nI a) f = _
    unfold m_X2_shrink_L9
    rw [i_le (by omega) (by omega)]
    rfl
  | succ d ih =>
    intro a N f h1 h2 h3
    obtain ⟨N, rfl⟩ : ∃ z, N = z + 1 := ⟨N - 1, by omega⟩
    have e : m_X2_shrink_L9 (nI s) (nI l) (nI a) f = some (.inl (nI (a + 1), match idx E 4 0 a with | some w => upd f (46 + w) 0 | none => f)) := by
      unfold m_X2_shrink_L9
      rw [i_nle (by omega) (by omega), s_putWord hs h2 hO (by omega), Option.bind_some, show nI a + (1 : Int32) = nI (a + 1) from nI_1 a]
    rw [q_inl (s' := (nI (a + 1), match idx E 4 0 a with | some w => upd f (46 + w) 0 | none => f)) e, zw]
    refine ih (a + 1) N _ (by omega) ?_ (by omega)
    intro k hk
    rw [← h2 k hk]
    cases idx E 4 0 a with
    | none => rfl
    | some w => exact q_un (by omega)
def clr (m : Int32) (e : Nat) : Int32 := m &&& (mbE e ^^^ (-1))
/-- runs kept, and the map, when runs are given back from the last one on -/
def gbk (E : Nat → Nat) (nd : Nat) : Nat → Int32 → Nat × Int32
  | 0, m => (0, m)
  | k + 1, m => if nd ≤ pre E k then gbk E nd k (clr m (E k)) else (k + 1, m)
theorem gbk_ok {E : Nat → Nat} {nd : Nat} : ∀ {k : Nat} {m : Int32}, nd ≤ pre E k → (gbk E nd k m).1 ≤ k ∧ nd ≤ pre E (gbk E nd k m).1 ∧ ∀ i, i < (gbk E nd k m).1 → i + 1 = (gbk E nd k m).1 → pre E i < nd
  | 0, m, h => ⟨Nat.le_refl _, h, fun i hi => absurd hi (Nat.not_lt_zero _)⟩
  | k + 1, m, h => by
    rw [gbk]
    by_cases c : nd ≤ pre E k
    · rw [if_pos c]
      have := gbk_ok (k := k) (m := clr m (E k)) c
      exact ⟨by omega, this.2⟩
    · rw [if_neg c]
      refine ⟨Nat.le_refl _, h, fun i _ h2 => ?_⟩
      have : i = k := by omega
      subst this
      omega
theorem pre_r {E : Nat → Nat} {r : Nat} (hr : r ≤ 4) (hz : ∀ k, k < 4 → (E k ≠ 0 ↔ k < r)) : pre E 4 = pre E r := by
  have h0 : ∀ d, r + d ≤ 4 → pre E (r + d) = pre E r := by
    intro d
    induction d with
    | zero => intro _; rfl
    | succ d ih =>
      intro h
      have h1 := ih (by omega)
      have h2 := hz (r + d) (by omega)
      have : E (r + d) = 0 := by
        rcases Nat.eq_zero_or_pos (E (r + d)) with q | q
        · exact q
        · have := h2.mp (by omega); omega
      show pre E (r + d) + szN (E (r + d)) = _
      rw [this, h1]; rfl
  have := h0 (4 - r) (by omega)
  rw [show r + (4 - r) = 4 by omega] at this
  exact this
theorem s_gbL {s nd : Nat} {E : Nat → Nat} (hs : s < 6) (hn : nd ≤ 32) (hO : ∀ k, k < 4 → okE (E k) = true) : ∀ (k N : Nat) (f : Nat → Int32), k ≤ 4 → k < N → (∀ i, i < k → f (7 * s + 3 + i) = nI (E i)) →
    ∃ R, g_loop (fun q => m_X2_giveBackRuns_L15 (nI s) (nI nd) q.1 q.2.1 q.2.2) N (nI (pre E k), nI k + (-1 : Int32), f) = some R ∧ ∃ f', (R = .inl f' ∨ R = .inr f') ∧ f' 45 = (gbk E nd k (f 45)).2 ∧ ∀ j, j ≠ 45 → f' j = if 7 * s + 3 + (gbk E nd k (f 45)).1 ≤ j ∧ j < 7 * s + 3 + k then 0 else f j := by
  intro k
  induction k with
  | zero =>
    intro N f h1 h2 h3
    obtain ⟨N, rfl⟩ : ∃ z, N = z + 1 := ⟨N - 1, by omega⟩
    refine ⟨.inr f, q_inr rfl, f, Or.inr rfl, rfl, fun j hj => ?_⟩
    rw [if_neg (by omega)]
  | succ k ih =>
    intro N f h1 h2 h3
    obtain ⟨N, rfl⟩ : ∃ z, N = z + 1 := ⟨N - 1, by omega⟩
    have ho := hO k (by omega)
    have hb := pre_le (k := k + 1) (fun i hi => hO i (by omega))
    have hp : pre E (k + 1) = pre E k + szN (E k) := rfl
    have e : m_X2_giveBackRuns_L15 (nI s) (nI nd) (nI (pre E (k + 1))) (nI k) f = if nd ≤ pre E k then some (.inl (nI (pre E k), nI k + (-1 : Int32), upd (upd f 45 (clr (f 45) (E k))) (7 * s + 3 + k) 0)) else some (.inr (.inl f)) := by
      have h4 := ok_lt ho
      unfold m_X2_giveBackRuns_L15
      rw [show (0 : Int32) = nI 0 from rfl, i_nlt (Nat.zero_le _) (by omega), e_extentOf, s_extentOf hs (by omega), h3 k (by omega), Option.bind_some, r_blocksOf _ (by omega), Option.bind_some, pk_sub (by omega), show pre E (k + 1) - szN (E k) = pre E k by omega]
      by_cases c : nd ≤ pre E k
      · rw [i_le c (by omega), if_pos c, show (45 : Int32) = nI 45 from rfl, q_ald (by omega) (by omega), Option.bind_some, r_bitsOf _ h4 ho, Option.bind_some, q_ast (by omega) (by omega), Option.bind_some, s_putExtent hs (by omega), Option.bind_some]
        rfl
      · rw [i_nle (by omega) (by omega), if_neg c]
    rw [nI_mm, gbk]
    by_cases c : nd ≤ pre E k
    · rw [if_pos c] at e ⊢
      obtain ⟨R, h4, f', h5, h6, h7⟩ := ih N (upd (upd f 45 (clr (f 45) (E k))) (7 * s + 3 + k) 0) (by omega) (by omega) (fun i hi => by rw [q_un (by omega), q_un (by omega)]; exact h3 i (by omega))
      have e45 : upd (upd f 45 (clr (f 45) (E k))) (7 * s + 3 + k) 0 45 = clr (f 45) (E k) := by rw [q_un (by omega)]; exact q_ul
      rw [e45] at h6 h7
      refine ⟨R, ?_, f', h5, h6, ?_⟩
      · rw [q_inl (s' := (nI (pre E k), nI k + (-1 : Int32), upd (upd f 45 (clr (f 45) (E k))) (7 * s + 3 + k) 0)) e]
        exact h4
      · intro j hj
        rw [h7 j hj]
        have hK := gbk_ok (k := k) (m := clr (f 45) (E k)) c
        by_cases c2 : 7 * s + 3 + (gbk E nd k (clr (f 45) (E k))).1 ≤ j ∧ j < 7 * s + 3 + k
        · rw [if_pos c2, if_pos (by omega)]
        · rw [if_neg c2]
          by_cases c3 : j = 7 * s + 3 + k
          · subst c3
            rw [q_ul, if_pos (by omega)]
          · rw [q_un c3, q_un hj, if_neg (by omega)]
    · rw [if_neg c] at e ⊢
      refine ⟨_, q_inr e, f, Or.inl rfl, rfl, fun j hj => ?_⟩
      rw [if_neg (by omega)]
theorem s_gbR {s nd r : Nat} {E : Nat → Nat} {f : Nat → Int32} (hs : s < 6) (hn : nd ≤ 32) (hE : ∀ k, k < 4 → f (7 * s + 3 + k) = nI (E k)) (hO : ∀ k, k < 4 → okE (E k) = true) (hr : r ≤ 4) (hz : ∀ k, k < 4 → (E k ≠ 0 ↔ k < r)) :
    ∃ f', m_X2_giveBackRuns f (nI s) (nI nd) = some f' ∧ f' 45 = (gbk E nd r (f 45)).2 ∧ ∀ j, j ≠ 45 → f' j = if 7 * s + 3 + (gbk E nd r (f 45)).1 ≤ j ∧ j < 7 * s + 3 + r then 0 else f j := by
  obtain ⟨R, h1, f', h2, h3⟩ := s_gbL (s := s) hs hn hO r 1000 f hr (by omega) (fun i hi => hE i (by omega))
  refine ⟨f', ?_, h3⟩
  unfold m_X2_giveBackRuns
  rw [e_blocks, s_blocks hs hE hO, Option.bind_some, s_runs2 hs hE hO hr hz, Option.bind_some, pre_r hr hz]
  rw [show nI r - (1 : Int32) = nI r + (-1 : Int32) from Int32.sub_eq_add_neg _ _, h1]
  rcases h2 with h2 | h2
  · rw [h2]; rfl
  · rw [h2]; rfl
/-- the reference's giving back of one run -/
def zr (f : Nat → Int32) (a n : Nat) : Nat → Int32 := fun j => if 46 + a ≤ j ∧ j < 46 + a + n then 0 else f j
def gb1 (f : Nat → Int32) (s k e : Nat) : Nat → Int32 := upd (upd (zr f (2 * stN e) (2 * szN e)) 45 (clr (f 45) e)) (7 * s + 3 + k) 0
theorem s_zr {f : Nat → Int32} {e : Nat} (he : okE e = true) (h0 : 0 < e) : g_loop (fun q => m_X5_giveBack_L28 (nI e) q.1 q.2) 1000 (nI (2 * stN e), f) = some (zr f (2 * stN e) (2 * szN e)) := by
  have h1 := ok_lt he
  have h2 := r_ok e h1 he
  have e1 : ∀ (i : Nat) (a : Nat → Int32), i ≤ 2 * szN e → m_X5_giveBack_L28 (nI e) (nI (2 * stN e + i)) a = if i = 2 * szN e then some (.inr a) else some (.inl (nI (2 * stN e + (i + 1)), upd a (46 + (2 * stN e + i)) 0)) := by
    intro i a hi
    unfold m_X5_giveBack_L28
    rw [r_start _ (by omega) h0, Option.bind_some, r_size _ (by omega), Option.bind_some]
    simp only [q_c0, q_c1, q_c2, q_c3, q_c4, q_c5, q_c6, q_c7, q_c31, q_c32, q_c42, q_c44, q_c45, q_c46, q_c63, q_c64, q_c99, q_c109, q_c110, q_c111, q_c112, q_c113, q_c192, q_c331, q_c332, nI_add, pk_mul]
    by_cases c : i = 2 * szN e
    · rw [if_pos c, i_le (by omega) (by omega)]
    · rw [if_neg c, i_nle (by omega) (by omega), q_ast (by omega) (by omega), Option.bind_some, Nat.add_assoc]
  refine q_some (q_for (st := fun q => m_X5_giveBack_L28 (nI e) q.1 q.2) (fun i (a : Nat → Int32) => (nI (2 * stN e + i), a)) (2 * szN e) (fun i a => a = zr f (2 * stN e) i) (fun r => r = zr f (2 * stN e) (2 * szN e)) ?_ ?_ (2 * szN e) 0 f 1000 (by omega) ?_ (by omega)) (fun r h => h)
  · intro i a hi ha
    left
    refine ⟨upd a (46 + (2 * stN e + i)) 0, ?_, ?_⟩
    · have := e1 i a (by omega)
      rw [if_neg (by omega)] at this
      exact this
    · subst ha
      funext j
      unfold zr
      by_cases c : j = 46 + (2 * stN e + i)
      · subst c
        rw [q_ul, if_pos (by omega)]
      · rw [q_un c]
        by_cases c2 : 46 + 2 * stN e ≤ j ∧ j < 46 + 2 * stN e + i
        · rw [if_pos c2, if_pos (by omega)]
        · rw [if_neg c2, if_neg (by omega)]
  · intro a ha
    refine ⟨a, ?_, ha⟩
    have := e1 (2 * szN e) a (Nat.le_refl _)
    rw [if_pos rfl] at this
    exact this
  · funext j
    unfold zr
    rw [if_neg (by omega)]
theorem s_giveBack {f : Nat → Int32} {s k : Nat} {E : Nat → Nat} (hs : s < 6) (hk : k < 4) (hE : ∀ i, i < 4 → f (7 * s + 3 + i) = nI (E i)) (hO : ∀ i, i < 4 → okE (E i) = true) (hz : ∀ i, i < 4 → (E i ≠ 0 ↔ i < k + 1)) : m_X5_giveBack f (nI s) = some (gb1 f s k (E k)) := by
  unfold m_X5_giveBack gb1
  have h0 : 0 < E k := by have := (hz k hk).mpr (by omega); omega
  have ho := hO k hk
  have h1 := ok_lt ho
  have h2 := r_ok _ h1 ho
  have h3 := h2.2.2.2 h0
  rw [s_runs5 hs hE hO (by omega) hz, Option.bind_some]
  simp only [q_c0, q_c1, q_c2, q_c3, q_c4, q_c5, q_c6, q_c7, q_c31, q_c32, q_c42, q_c44, q_c45, q_c46, q_c63, q_c64, q_c99, q_c109, q_c110, q_c111, q_c112, q_c113, q_c192, q_c331, q_c332, nI_add, pk_mul]
  rw [q_ald (by omega) (by omega), Option.bind_some, show 7 * s + 2 + (k + 1) = 7 * s + 3 + k by omega, hE k hk, r_start _ (by omega) h0, Option.bind_some]
  simp only [q_c0, q_c1, q_c2, q_c3, q_c4, q_c5, q_c6, q_c7, q_c31, q_c32, q_c42, q_c44, q_c45, q_c46, q_c63, q_c64, q_c99, q_c109, q_c110, q_c111, q_c112, q_c113, q_c192, q_c331, q_c332, nI_add, pk_mul]
  rw [s_zr ho h0, q_k1, q_ald (by omega) (by omega), Option.bind_some, Option.bind_some, r_order _ (by omega) h0, Option.bind_some, r_bits5 _ h2.2.2.1 _ h3.2.2.1 h3.2.2.2.2, Option.bind_some, ← h3.2.1, q_ast (by omega) (by omega), Option.bind_some, q_ast (by omega) (by omega), Option.bind_some]
  have : zr f (2 * stN (E k)) (2 * szN (E k)) 45 = f 45 := if_neg (by omega)
  rw [this]
  rfl

def trE (E : Nat → Nat) (k : Nat) : Nat → Nat := fun i => if i < k then E i else 0
theorem trE_pre {E : Nat → Nat} {k : Nat} (hk : k ≤ 4) : pre (trE E k) 4 = pre E k := by
  have h0 : ∀ d, k + d ≤ 4 → pre (trE E k) (k + d) = pre E k := by
    intro d
    induction d with
    | zero => intro _; exact sm_cong (fun i hi => by show szN (trE E k i) = _; unfold trE; rw [if_pos (show i < k from hi)])
    | succ d ih =>
      intro h
      show pre (trE E k) (k + d) + szN (trE E k (k + d)) = _
      rw [ih (by omega)]
      have : trE E k (k + d) = 0 := if_neg (by omega)
      rw [this]; rfl
  have := h0 (4 - k) (by omega)
  rw [show k + (4 - k) = 4 by omega] at this
  exact this
theorem trE_ok {E : Nat → Nat} {k : Nat} (h : ∀ i, i < 4 → okE (E i) = true) : ∀ i, i < 4 → okE (trE E k i) = true := by
  intro i hi
  unfold trE
  by_cases c : i < k
  · rw [if_pos c]; exact h i hi
  · rw [if_neg c]; rfl
theorem trE_nz {E : Nat → Nat} {k : Nat} (h : ∀ i, i < k → E i ≠ 0) : ∀ i, i < 4 → (trE E k i ≠ 0 ↔ i < k) := by
  intro i hi
  unfold trE
  by_cases c : i < k
  · rw [if_pos c]; exact ⟨fun _ => c, fun _ => h i c⟩
  · rw [if_neg c]; exact ⟨fun q => absurd rfl q, fun q => absurd q c⟩
def inW (E : Nat → Nat) (i w : Nat) : Prop := 2 * stN (E i) ≤ w ∧ w < 2 * stN (E i) + 2 * szN (E i)
theorem s_shL {s nd : Nat} {E : Nat → Nat} (hs : s < 6) (hO : ∀ k, k < 4 → okE (E k) = true) {st : (Nat → Int32) → Option ((Nat → Int32) ⊕ (Nat → Int32))}
    (h0 : ∀ g : Nat → Int32, (∀ i, i < 4 → g (7 * s + 3 + i) = nI (trE E 0 i)) → st g = some (.inr g))
    (h1 : ∀ (k : Nat) (g : Nat → Int32), k < 4 → (∀ i, i < k + 1 → E i ≠ 0) → (∀ i, i < 4 → g (7 * s + 3 + i) = nI (trE E (k + 1) i)) → st g = if nd ≤ pre E k then some (.inl (gb1 g s k (E k))) else some (.inr g)) :
    ∀ (k N : Nat) (g : Nat → Int32), k ≤ 4 → k < N → (∀ i, i < k → E i ≠ 0) → (∀ i, i < 4 → g (7 * s + 3 + i) = nI (trE E k i)) →
    ∃ g', g_loop st N g = some g' ∧ g' 45 = (gbk E nd k (g 45)).2 ∧ (∀ i, i < 4 → g' (7 * s + 3 + i) = nI (trE E (gbk E nd k (g 45)).1 i)) ∧ (∀ j, j < 45 ∨ 110 ≤ j → ¬ (7 * s + 3 ≤ j ∧ j < 7 * s + 7) → g' j = g j) ∧
      (∀ w, w < 64 → (∃ i, (gbk E nd k (g 45)).1 ≤ i ∧ i < k ∧ inW E i w) → g' (46 + w) = 0) ∧ (∀ w, w < 64 → (¬ ∃ i, (gbk E nd k (g 45)).1 ≤ i ∧ i < k ∧ inW E i w) → g' (46 + w) = g (46 + w)) := by
  intro k
  induction k with
  | zero =>
    intro N g hk hN hz hg
    obtain ⟨N, rfl⟩ : ∃ z, N = z + 1 := ⟨N - 1, by omega⟩
    exact ⟨g, q_inr (h0 g hg), rfl, hg, fun _ _ _ => rfl, fun w _ ⟨i, _, h, _⟩ => absurd h (Nat.not_lt_zero _), fun _ _ _ => rfl⟩
  | succ k ih =>
    intro N g hk hN hz hg
    obtain ⟨N, rfl⟩ : ∃ z, N = z + 1 := ⟨N - 1, by omega⟩
    have e := h1 k g (by omega) hz hg
    rw [gbk]
    by_cases c : nd ≤ pre E k
    · rw [if_pos c] at e ⊢
      have ho := hO k (by omega)
      have h2 := r_ok _ (ok_lt ho) ho
      have e45 : gb1 g s k (E k) 45 = clr (g 45) (E k) := by
        unfold gb1
        rw [q_un (by omega)]
        exact q_ul
      have eoth : ∀ j, j ≠ 45 → j ≠ 7 * s + 3 + k → gb1 g s k (E k) j = zr g (2 * stN (E k)) (2 * szN (E k)) j := by
        intro j h3 h4
        unfold gb1
        rw [q_un h4, q_un h3]
      have hgx : ∀ i, i < 4 → gb1 g s k (E k) (7 * s + 3 + i) = nI (trE E k i) := by
        intro i hi
        by_cases c2 : i = k
        · subst c2
          unfold gb1
          rw [q_ul]
          unfold trE
          rw [if_neg (by omega)]
          rfl
        · rw [eoth _ (by omega) (by omega)]
          unfold zr
          rw [if_neg (by omega), hg i hi]
          unfold trE
          by_cases c3 : i < k
          · rw [if_pos (by omega), if_pos c3]
          · rw [if_neg (by omega), if_neg c3]
      obtain ⟨g', h3, h4, h5, h6, h7, h8⟩ := ih N (gb1 g s k (E k)) (by omega) (by omega) (fun i hi => hz i (by omega)) hgx
      rw [e45] at h4 h5 h7 h8
      have hK := gbk_ok (k := k) (m := clr (g 45) (E k)) c
      have ew : ∀ w, w < 64 → gb1 g s k (E k) (46 + w) = zr g (2 * stN (E k)) (2 * szN (E k)) (46 + w) := fun w hw => eoth _ (by omega) (by omega)
      refine ⟨g', by rw [q_inl e]; exact h3, h4, h5, fun j hj1 hj2 => ?_, fun w hw hi => ?_, fun w hw hi => ?_⟩
      · rw [h6 j hj1 hj2, eoth j (by omega) (by omega)]
        unfold zr
        rw [if_neg (by omega)]
      · obtain ⟨i, h9, h10, h11⟩ := hi
        by_cases c2 : ∃ i, (gbk E nd k (clr (g 45) (E k))).1 ≤ i ∧ i < k ∧ inW E i w
        · exact h7 w hw c2
        · rw [h8 w hw c2, ew w hw]
          have : i = k := by
            rcases Nat.lt_or_ge i k with q | q
            · exact absurd ⟨i, h9, q, h11⟩ c2
            · omega
          subst this
          unfold zr
          unfold inW at h11
          rw [if_pos (by omega)]
      · rw [h8 w hw (fun ⟨i, h9, h10, h11⟩ => hi ⟨i, h9, by omega, h11⟩), ew w hw]
        unfold zr
        have : ¬ inW E k w := fun q => hi ⟨k, hK.1, by omega, q⟩
        unfold inW at this
        rw [if_neg (by omega)]
    · rw [if_neg c] at e ⊢
      exact ⟨g, q_inr e, rfl, hg, fun _ _ _ => rfl, fun w _ ⟨i, h2, h3, _⟩ => absurd h3 (by omega), fun _ _ _ => rfl⟩
theorem s_sh6 {s len : Nat} {E : Nat → Nat} (hs : s < 6) (hlen : len ≤ 64) (hO : ∀ k, k < 4 → okE (E k) = true) :
    (∀ g : Nat → Int32, (∀ i, i < 4 → g (7 * s + 3 + i) = nI (trE E 0 i)) → m_X5_shrink_L6 (nI s) (nI len) g = some (.inr g)) ∧
    (∀ (k : Nat) (g : Nat → Int32), k < 4 → (∀ i, i < k + 1 → E i ≠ 0) → (∀ i, i < 4 → g (7 * s + 3 + i) = nI (trE E (k + 1) i)) → m_X5_shrink_L6 (nI s) (nI len) g = if (len + 1) / 2 ≤ pre E k then some (.inl (gb1 g s k (E k))) else some (.inr g)) := by
  constructor
  · intro g hg
    unfold m_X5_shrink_L6
    rw [s_runs5 hs hg (trE_ok hO) (Nat.zero_le _) (trE_nz (fun i hi => absurd hi (Nat.not_lt_zero _))), Option.bind_some]
    rfl
  · intro k g hk hz hg
    unfold m_X5_shrink_L6
    have ho := hO k hk
    have h1 := ok_lt ho
    have hb := pre_le (k := k + 1) (fun i hi => hO i (by omega))
    have hp : pre E (k + 1) = pre E k + szN (E k) := rfl
    have ek : trE E (k + 1) k = E k := if_pos (by omega)
    rw [s_runs5 hs hg (trE_ok hO) (by omega) (trE_nz hz), Option.bind_some, show (0 : Int32) = nI 0 from rfl, i_nle (by omega) (by omega), s_blocks hs hg (trE_ok hO), Option.bind_some, Option.bind_some, show nI (k + 1) - (1 : Int32) = nI k from nI_pred k, s_extentOf hs hk, Option.bind_some, hg k hk, ek, r_size _ (by omega), Option.bind_some, trE_pre (by omega), pk_sub (by omega), s_need (by omega), show pre E (k + 1) - szN (E k) = pre E k by omega]
    have hgb := s_giveBack (f := g) hs hk hg (trE_ok hO) (trE_nz hz)
    rw [ek] at hgb
    by_cases c : (len + 1) / 2 ≤ pre E k
    · rw [i_nlt c (by omega), if_pos c, hgb, Option.bind_some]
    · rw [i_lt (by omega) (by omega), if_neg c]
theorem s_ta0 {s : Nat} {E : Nat → Nat} (hs : s < 6) (hO : ∀ k, k < 4 → okE (E k) = true) :
    (∀ g : Nat → Int32, (∀ i, i < 4 → g (7 * s + 3 + i) = nI (trE E 0 i)) → m_X5_takeAway_L0 (nI s) g = some (.inr g)) ∧
    (∀ (k : Nat) (g : Nat → Int32), k < 4 → (∀ i, i < k + 1 → E i ≠ 0) → (∀ i, i < 4 → g (7 * s + 3 + i) = nI (trE E (k + 1) i)) → m_X5_takeAway_L0 (nI s) g = if 0 ≤ pre E k then some (.inl (gb1 g s k (E k))) else some (.inr g)) := by
  constructor
  · intro g hg
    unfold m_X5_takeAway_L0
    rw [s_runs5 hs hg (trE_ok hO) (Nat.zero_le _) (trE_nz (fun i hi => absurd hi (Nat.not_lt_zero _))), Option.bind_some]
    rfl
  · intro k g hk hz hg
    unfold m_X5_takeAway_L0
    have ek : trE E (k + 1) k = E k := if_pos (by omega)
    have hgb := s_giveBack (f := g) hs hk hg (trE_ok hO) (trE_nz hz)
    rw [ek] at hgb
    rw [s_runs5 hs hg (trE_ok hO) (by omega) (trE_nz hz), Option.bind_some, show (0 : Int32) = nI 0 from rfl, i_nle (by omega) (by omega), if_pos (Nat.zero_le _), hgb, Option.bind_some]
