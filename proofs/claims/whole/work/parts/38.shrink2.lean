theorem trE_pre2 {E : Nat → Nat} {K : Nat} : ∀ {j : Nat}, pre (trE E K) j = pre E (min j K)
  | 0 => by rw [show min 0 K = 0 by omega]; rfl
  | j + 1 => by
    have ih := trE_pre2 (E := E) (K := K) (j := j)
    show pre (trE E K) j + szN (trE E K j) = _
    rw [ih]
    unfold trE
    by_cases c : j < K
    · rw [if_pos c, show min j K = j by omega, show min (j + 1) K = j + 1 by omega]; rfl
    · rw [if_neg c, show min j K = K by omega, show min (j + 1) K = K by omega]; rfl
theorem trE_idx {E : Nat → Nat} {K p w : Nat} (hK : K ≤ 4) : idx (trE E K) 4 0 p = some w ↔ p < 2 * pre E K ∧ idx E 4 0 p = some w := by
  rw [idx_iff, idx_iff]
  constructor
  · rintro ⟨j, h1, h2, h3, h4⟩
    rw [trE_pre2] at h2 h3 h4
    have hj : j < K := by
      rcases Nat.lt_or_ge j K with q | q
      · exact q
      · rw [show min j K = K by omega] at h2
        rw [show min (j + 1) K = K by omega] at h3
        omega
    rw [show min j K = j by omega] at h2 h4
    rw [show min (j + 1) K = j + 1 by omega] at h3
    have he : trE E K j = E j := if_pos hj
    rw [he] at h4
    have : pre E (j + 1) ≤ pre E K := sm_mono (by omega)
    exact ⟨by omega, j, h1, h2, h3, h4⟩
  · rintro ⟨h0, j, h1, h2, h3, h4⟩
    have hj : j < K := by
      rcases Nat.lt_or_ge j K with q | q
      · exact q
      · have : pre E K ≤ pre E j := sm_mono q
        omega
    refine ⟨j, h1, ?_, ?_, ?_⟩
    · rw [trE_pre2, show min j K = j by omega]; exact h2
    · rw [trE_pre2, show min (j + 1) K = j + 1 by omega]; exact h3
    · have he : trE E K j = E j := if_pos hj
      rw [trE_pre2, show min j K = j by omega, he]; exact h4
theorem s_L62 {s K : Nat} {E : Nat → Nat} (hs : s < 6) (hK : K ≤ 4) (hO : ∀ k, k < 4 → okE (E k) = true) : ∀ (d a N : Nat) (g : Nat → Int32), a + d = 2 * pre E K → (∀ i, i < 4 → g (7 * s + 3 + i) = nI (trE E K i)) → d < N → g_loop (fun q => m_X5_shrink_L62 (nI s) q.1 q.2) N (nI a, g) = some (zw (trE E K) d a g) := by
  have hb := pre_le (k := K) (fun i hi => hO i (by omega))
  intro d
  induction d with
  | zero =>
    intro a N g h1 h2 h3
    obtain ⟨N, rfl⟩ : ∃ z, N = z + 1 := ⟨N - 1, by omega⟩
    refine q_inr ?_
    show m_X5_shrink_L62 (nI s) (nI a) g = _
    unfold m_X5_shrink_L62
    rw [s_blocks hs h2 (trE_ok hO), Option.bind_some, trE_pre hK]
    simp only [q_c0, q_c1, q_c2, q_c3, q_c4, q_c5, q_c6, q_c7, q_c31, q_c32, q_c42, q_c44, q_c45, q_c46, q_c63, q_c64, q_c99, q_c109, q_c110, q_c111, q_c112, q_c113, q_c192, q_c331, q_c332, nI_add, pk_mul]
    rw [i_le (by omega) (by omega)]
    rfl
  | succ d ih =>
    intro a N g h1 h2 h3
    obtain ⟨N, rfl⟩ : ∃ z, N = z + 1 := ⟨N - 1, by omega⟩
    obtain ⟨w, hw⟩ := idx_some (E := trE E K) (p := a) (by rw [trE_pre hK]; omega)
    have hw2 := idx_lt (trE_ok hO) hw
    have e : m_X5_shrink_L62 (nI s) (nI a) g = some (.inl (nI (a + 1), upd g (46 + w) 0)) := by
      unfold m_X5_shrink_L62
      rw [s_blocks hs h2 (trE_ok hO), Option.bind_some, trE_pre hK]
      simp only [q_c0, q_c1, q_c2, q_c3, q_c4, q_c5, q_c6, q_c7, q_c31, q_c32, q_c42, q_c44, q_c45, q_c46, q_c63, q_c64, q_c99, q_c109, q_c110, q_c111, q_c112, q_c113, q_c192, q_c331, q_c332, nI_add, pk_mul]
      rw [i_nle (by omega) (by omega), s_wordCell hs h2 (trE_ok hO) (by omega), Option.bind_some, hw]
      show (g_ast 110 g (nI (46 + w)) (nI 0)).bind _ = _
      rw [q_ast (by omega) (by omega), Option.bind_some]
    rw [q_inl (s' := (nI (a + 1), upd g (46 + w) 0)) e, zw, hw]
    refine ih (a + 1) N _ (by omega) ?_ (by omega)
    intro i hi
    rw [← h2 i hi]
    exact q_un (by omega)
theorem s_shrink {f : Nat → Int32} {s n o l r len : Nat} {E : Nat → Nat} (hS : Slo f s n o l r E) (hs : s < 6) (hlen : len ≤ l) (hneed : (l + 1) / 2 ≤ pre E 4) (hW : ∀ p w, l ≤ p → p < 2 * pre E 4 → idx E 4 0 p = some w → f (46 + w) = 0) :
    ∃ f', m_X2_shrink f (nI s) (nI len) = some f' ∧ m_X5_shrink f (nI s) (nI len) = some f' ∧ f' 45 = (gbk E ((len + 1) / 2) r (f 45)).2 ∧ f' (7 * s + 2) = nI len ∧ (∀ i, i < 4 → f' (7 * s + 3 + i) = nI (trE E (gbk E ((len + 1) / 2) r (f 45)).1 i)) ∧
      (∀ j, (j < 45 ∨ 110 ≤ j) → ¬ (7 * s + 2 ≤ j ∧ j < 7 * s + 7) → f' j = f j) ∧ (∀ p w, len ≤ p → p < l → idx E 4 0 p = some w → f' (46 + w) = 0) ∧ (∀ w, w < 64 → f' (46 + w) = 0 ∨ f' (46 + w) = f (46 + w)) ∧ (∀ w, w < 64 → (∀ p, len ≤ p → p < l → idx E 4 0 p ≠ some w) → f' (46 + w) = f (46 + w)) := by
  have hz0 := fun {k : Nat} => hS.zero (k := k)
  obtain ⟨⟨h1, h2, h3, h4⟩, ⟨h5, h6, h7, h8⟩, h9, h10, h11⟩ := hS
  have hpr := pre_r h8 h10
  have hgk := gbk_ok (E := E) (nd := (len + 1) / 2) (k := r) (m := f 45) (by omega)
  -- the class
  have hf1 : ∀ j, (j < 46 ∨ 110 ≤ j) → zw E (l - len) len f j = f j := by
    intro j hj
    refine zw_out (fun p w _ _ h => ?_)
    have := idx_lt h9 h
    omega
  obtain ⟨f3, g1, g2, g3⟩ := s_gbR (s := s) (nd := (len + 1) / 2) (r := r) (E := E) (f := upd (zw E (l - len) len f) (7 * s + 2) (nI len)) hs (by omega) (fun k hk => by rw [q_un (by omega), hf1 _ (by omega)]; exact h4 k hk) h9 h8 h10
  have e45 : upd (zw E (l - len) len f) (7 * s + 2) (nI len) 45 = f 45 := by rw [q_un (by omega), hf1 _ (by omega)]
  rw [e45] at g2 g3
  have hc : m_X2_shrink f (nI s) (nI len) = some f3 := by
    unfold m_X2_shrink
    rw [s_lengthOf hs, Option.bind_some, h3, s_shrW (E := E) hs h7 h9 (l - len) len 1000 f (by omega) h4 (by omega), q_k1, s_putLength hs, Option.bind_some, show m_X2_needOf (nI len) = some (nI ((len + 1) / 2)) from by unfold m_X2_needOf; rw [s_need (by omega)], Option.bind_some, g1, Option.bind_some]
  -- the reference
  have hsh := s_sh6 (s := s) (len := len) (E := E) hs (by omega) h9
  have htr : ∀ i, i < 4 → f (7 * s + 3 + i) = nI (trE E r i) := by
    intro i hi
    rw [h4 i hi]
    unfold trE
    by_cases c : i < r
    · rw [if_pos c]
    · rw [if_neg c, hz0 (by omega) hi]
  obtain ⟨q1, m1, m2, m3, m4, m5, m6⟩ := s_shL (nd := (len + 1) / 2) hs h9 hsh.1 hsh.2 r 1000 f h8 (by omega) (fun i hi => (h10 i (by omega)).mpr hi) htr
  generalize hGe : gbk E ((len + 1) / 2) r (f 45) = G at *
  have hK4 : G.1 ≤ 4 := by omega
  have hm : m_X5_shrink f (nI s) (nI len) = some (zw (trE E G.1) (2 * pre E G.1 - len) len (upd q1 (7 * s + 2) (nI len))) := by
    unfold m_X5_shrink
    rw [show (fun q => m_X5_shrink_L6 (nI s) (nI len) q) = m_X5_shrink_L6 (nI s) (nI len) from rfl, m1, q_k1]
    simp only [q_c0, q_c1, q_c2, q_c3, q_c4, q_c5, q_c6, q_c7, q_c31, q_c32, q_c42, q_c44, q_c45, q_c46, q_c63, q_c64, q_c99, q_c109, q_c110, q_c111, q_c112, q_c113, q_c192, q_c331, q_c332, nI_add, pk_mul]
    rw [q_ast (by omega) (by omega), Option.bind_some, s_L62 hs hK4 h9 (2 * pre E G.1 - len) len 1000 _ (by omega) (fun i hi => by rw [q_un (by omega)]; exact m3 i hi) (by have := pre_le (k := G.1) (fun i hi => h9 i (by omega)); omega), q_k1]
  -- words
  have wz : ∀ w, w < 64 → (∃ p, len ≤ p ∧ p < 2 * pre E 4 ∧ idx E 4 0 p = some w) → f3 (46 + w) = 0 ∧ zw (trE E G.1) (2 * pre E G.1 - len) len (upd q1 (7 * s + 2) (nI len)) (46 + w) = 0 := by
    rintro w hw ⟨p, p1, p2, p3⟩
    constructor
    · rw [g3 _ (by omega), if_neg (by omega), q_un (by omega)]
      rcases Nat.lt_or_ge p l with q | q
      · exact zw_in p1 (by omega) p3
      · exact zw_or (hW p w q p2 p3)
    · rcases Nat.lt_or_ge p (2 * pre E G.1) with q | q
      · exact zw_in p1 (by omega) ((trE_idx hK4).mpr ⟨q, p3⟩)
      · refine zw_or ?_
        rw [q_un (by omega)]
        obtain ⟨j, j1, j2, j3, j4⟩ := idx_iff.mp p3
        refine m5 w hw ⟨j, ?_, ?_, ?_⟩
        · rcases Nat.lt_or_ge j G.1 with z | z
          · have : pre E (j + 1) ≤ pre E G.1 := sm_mono (by omega)
            omega
          · exact z
        · rcases Nat.lt_or_ge j r with z | z
          · exact z
          · have : pre E r ≤ pre E j := sm_mono z
            omega
        · have : pre E (j + 1) = pre E j + szN (E j) := rfl
          unfold inW
          omega
  have wn : ∀ w, w < 64 → (¬ ∃ p, len ≤ p ∧ p < 2 * pre E 4 ∧ idx E 4 0 p = some w) → f3 (46 + w) = f (46 + w) ∧ zw (trE E G.1) (2 * pre E G.1 - len) len (upd q1 (7 * s + 2) (nI len)) (46 + w) = f (46 + w) := by
    intro w hw hn
    constructor
    · rw [g3 _ (by omega), if_neg (by omega), q_un (by omega)]
      refine zw_out (fun p w' p1 p2 p3 => ?_)
      intro q
      have : w' = w := by omega
      subst this
      exact hn ⟨p, p1, by omega, p3⟩
    · rw [zw_out (fun p w' p1 p2 p3 => ?_), q_un (by omega), m6 w hw]
      · rintro ⟨i, i1, i2, i3⟩
        unfold inW at i3
        have h12 : pre E (i + 1) = pre E i + szN (E i) := rfl
        have h13 : pre E (i + 1) ≤ pre E 4 := sm_mono (by omega)
        have h14 : pre E G.1 ≤ pre E i := sm_mono i1
        refine hn ⟨2 * pre E i + (w - 2 * stN (E i)), by omega, by omega, idx_iff.mpr ⟨i, by omega, by omega, by omega, by omega⟩⟩
      · intro q
        have : w' = w := by omega
        subst this
        have := (trE_idx hK4).mp p3
        have h15 : pre E G.1 ≤ pre E 4 := sm_mono hK4
        exact hn ⟨p, p1, by omega, this.2⟩
  have hoff : ∀ j, (j < 46 ∨ 110 ≤ j) → zw (trE E G.1) (2 * pre E G.1 - len) len (upd q1 (7 * s + 2) (nI len)) j = upd q1 (7 * s + 2) (nI len) j := by
    intro j hj
    refine zw_out (fun p w _ _ h => ?_)
    have := idx_lt (trE_ok h9) h
    omega
  have he : zw (trE E G.1) (2 * pre E G.1 - len) len (upd q1 (7 * s + 2) (nI len)) = f3 := by
    funext j
    by_cases c1 : j = 45
    · subst c1
      rw [hoff _ (by omega), q_un (by omega), m2, g2]
    · by_cases c2 : 46 ≤ j ∧ j < 110
      · obtain ⟨w, rfl⟩ : ∃ w, j = 46 + w := ⟨j - 46, by omega⟩
        by_cases c3 : ∃ p, len ≤ p ∧ p < 2 * pre E 4 ∧ idx E 4 0 p = some w
        · have := wz w (by omega) c3
          rw [this.1, this.2]
        · have := wn w (by omega) c3
          rw [this.1, this.2]
      · rw [hoff _ (by omega), g3 _ c1]
        by_cases c4 : j = 7 * s + 2
        · subst c4
          rw [q_ul, if_neg (by omega), q_ul]
        · rw [q_un c4]
          by_cases c5 : 7 * s + 3 ≤ j ∧ j < 7 * s + 7
          · obtain ⟨i, rfl⟩ : ∃ i, j = 7 * s + 3 + i := ⟨j - (7 * s + 3), by omega⟩
            rw [m3 i (by omega)]
            unfold trE
            by_cases c6 : i < G.1
            · rw [if_pos c6, if_neg (by omega), q_un c4, hf1 _ (by omega), h4 i (by omega)]
            · rw [if_neg c6]
              by_cases c7 : i < r
              · rw [if_pos (by omega)]; rfl
              · rw [if_neg (by omega), q_un c4, hf1 _ (by omega), h4 i (by omega), hz0 (by omega) (by omega)]
          · rw [m4 j (by omega) c5, if_neg (by omega), q_un c4, hf1 _ (by omega)]
  rw [he] at hm
  refine ⟨f3, hc, hm, g2, ?_, ?_, ?_, ?_, ?_, ?_⟩
  · rw [g3 _ (by omega), if_neg (by omega), q_ul]
  · intro i hi
    rw [← he, hoff _ (by omega), q_un (by omega), m3 i hi]
  · intro j hj1 hj2
    rw [g3 _ (by omega), if_neg (by omega), q_un (by omega), hf1 _ (by omega)]
  · intro p w p1 p2 p3
    exact (wz w (idx_lt h9 p3).1 ⟨p, p1, by omega, p3⟩).1
  · intro w hw
    by_cases c3 : ∃ p, len ≤ p ∧ p < 2 * pre E 4 ∧ idx E 4 0 p = some w
    · exact Or.inl (wz w hw c3).1
    · exact Or.inr (wn w hw c3).1
  · intro w hw hn
    by_cases c3 : ∃ p, len ≤ p ∧ p < 2 * pre E 4 ∧ idx E 4 0 p = some w
    · obtain ⟨p, p1, p2, p3⟩ := c3
      rw [(wz w hw ⟨p, p1, p2, p3⟩).1]
      rcases Nat.lt_or_ge p l with q | q
      · exact absurd p3 (hn p p1 q)
      · exact (hW p w q p2 p3).symm
    · exact (wn w hw c3).1

theorem gbk0 {E : Nat → Nat} : ∀ {k : Nat} {m : Int32}, (gbk E 0 k m).1 = 0
  | 0, m => rfl
  | k + 1, m => by rw [gbk, if_pos (Nat.zero_le _)]; exact gbk0
theorem s_ta2 {s : Nat} (hs : s < 6) (g : Nat → Int32) : g_loop (fun q => m_X5_takeAway_L21 (nI s) q.1 q.2) 1000 (nI (7 * s), g) = some (fun j => if 7 * s ≤ j ∧ j < 7 * s + 7 then 0 else g j) := by
  refine q_some (q_for (st := fun q => m_X5_takeAway_L21 (nI s) q.1 q.2) (fun i (a : Nat → Int32) => (nI (7 * s + i), a)) 7 (fun i a => a = fun j => if 7 * s ≤ j ∧ j < 7 * s + i then 0 else g j) (fun r => r = fun j => if 7 * s ≤ j ∧ j < 7 * s + 7 then 0 else g j) ?_ ?_ 7 0 g 1000 rfl ?_ (by omega)) (fun r h => h)
  · intro i a hi ha
    left
    refine ⟨upd a (7 * s + i) 0, ?_, ?_⟩
    · show m_X5_takeAway_L21 (nI s) (nI (7 * s + i)) a = _
      unfold m_X5_takeAway_L21
      simp only [q_c0, q_c1, q_c2, q_c3, q_c4, q_c5, q_c6, q_c7, q_c31, q_c32, q_c42, q_c44, q_c45, q_c46, q_c63, q_c64, q_c99, q_c109, q_c110, q_c111, q_c112, q_c113, q_c192, q_c331, q_c332, nI_add, pk_mul]
      rw [i_nle (by omega) (by omega), q_ast (by omega) (by omega), Option.bind_some, Nat.add_assoc]
    · subst ha
      funext j
      by_cases c : j = 7 * s + i
      · subst c; rw [q_ul, if_pos (by omega)]
      · rw [q_un c]
        by_cases c2 : 7 * s ≤ j ∧ j < 7 * s + i
        · rw [if_pos c2, if_pos (by omega)]
        · rw [if_neg c2, if_neg (by omega)]
  · intro a ha
    refine ⟨a, ?_, ha⟩
    show m_X5_takeAway_L21 (nI s) (nI (7 * s + 7)) a = _
    unfold m_X5_takeAway_L21
    simp only [q_c0, q_c1, q_c2, q_c3, q_c4, q_c5, q_c6, q_c7, q_c31, q_c32, q_c42, q_c44, q_c45, q_c46, q_c63, q_c64, q_c99, q_c109, q_c110, q_c111, q_c112, q_c113, q_c192, q_c331, q_c332, nI_add, pk_mul]
    rw [i_le (by omega) (by omega)]
  · funext j
    rw [if_neg (by omega)]
theorem s_drop {f : Nat → Int32} {s n o l r : Nat} {E : Nat → Nat} (hS : Slo f s n o l r E) (hs : s < 6) (hneed : (l + 1) / 2 ≤ pre E 4) (hW : ∀ p w, l ≤ p → p < 2 * pre E 4 → idx E 4 0 p = some w → f (46 + w) = 0) :
    ∃ f', m_X2_dropFile f (nI s) = some f' ∧ m_X5_takeAway f (nI s) = some f' ∧ f' 45 = (gbk E 0 r (f 45)).2 ∧ (∀ i, i < 7 → f' (7 * s + i) = 0) ∧
      (∀ j, (j < 45 ∨ 110 ≤ j) → ¬ (7 * s ≤ j ∧ j < 7 * s + 7) → f' j = f j) ∧ (∀ p w, p < l → idx E 4 0 p = some w → f' (46 + w) = 0) ∧ (∀ w, w < 64 → f' (46 + w) = 0 ∨ f' (46 + w) = f (46 + w)) := by
  obtain ⟨f3, a1, -, a3, a4, a5, a6, a7, a8, a9⟩ := s_shrink (len := 0) hS hs (Nat.zero_le _) hneed hW
  have hz0 := fun {k : Nat} => hS.zero (k := k)
  obtain ⟨⟨h1, h2, h3, h4⟩, ⟨h5, h6, h7, h8⟩, h9, h10, h11⟩ := hS
  rw [show (0 + 1) / 2 = 0 from rfl] at a3 a5
  have hta := s_ta0 (s := s) (E := E) hs h9
  have htr : ∀ i, i < 4 → f (7 * s + 3 + i) = nI (trE E r i) := by
    intro i hi
    rw [h4 i hi]
    unfold trE
    by_cases c : i < r
    · rw [if_pos c]
    · rw [if_neg c, hz0 (by omega) hi]
  obtain ⟨q1, m1, m2, m3, m4, m5, m6⟩ := s_shL (nd := 0) hs h9 hta.1 hta.2 r 1000 f h8 (by omega) (fun i hi => (h10 i (by omega)).mpr hi) htr
  rw [gbk0] at a5 m3 m5 m6
  have hpr := pre_r h8 h10
  have hm : m_X5_takeAway f (nI s) = some (fun j => if 7 * s ≤ j ∧ j < 7 * s + 7 then 0 else q1 j) := by
    unfold m_X5_takeAway
    rw [show (fun q => m_X5_takeAway_L0 (nI s) q) = m_X5_takeAway_L0 (nI s) from rfl, m1, q_k1]
    simp only [q_c0, q_c1, q_c2, q_c3, q_c4, q_c5, q_c6, q_c7, q_c31, q_c32, q_c42, q_c44, q_c45, q_c46, q_c63, q_c64, q_c99, q_c109, q_c110, q_c111, q_c112, q_c113, q_c192, q_c331, q_c332, nI_add, pk_mul]
    rw [s_ta2 hs, q_k1]
    rfl
  have hc : m_X2_dropFile f (nI s) = some (upd (upd f3 (7 * s) 0) (7 * s + 1) 0) := by
    unfold m_X2_dropFile m_X2_makeFile
    rw [show (0 : Int32) = nI 0 from rfl, a1, Option.bind_some]
    simp only [q_c0, q_c1, q_c2, q_c3, q_c4, q_c5, q_c6, q_c7, q_c31, q_c32, q_c42, q_c44, q_c45, q_c46, q_c63, q_c64, q_c99, q_c109, q_c110, q_c111, q_c112, q_c113, q_c192, q_c331, q_c332, nI_add, pk_mul]
    rw [q_ast (by omega) (by omega), Option.bind_some, q_ast (by omega) (by omega), Option.bind_some, Option.bind_some]
  have hw1 : ∀ w, w < 64 → q1 (46 + w) = f3 (46 + w) := by
    intro w hw
    by_cases c : ∃ i, 0 ≤ i ∧ i < r ∧ inW E i w
    · rw [m5 w hw c]
      obtain ⟨i, -, i2, i3⟩ := c
      unfold inW at i3
      have h12 : pre E (i + 1) = pre E i + szN (E i) := rfl
      have h13 : pre E (i + 1) ≤ pre E 4 := sm_mono (by omega)
      have hx : idx E 4 0 (2 * pre E i + (w - 2 * stN (E i))) = some w := idx_iff.mpr ⟨i, by omega, by omega, by omega, by omega⟩
      rcases Nat.lt_or_ge (2 * pre E i + (w - 2 * stN (E i))) l with q | q
      · exact (a7 _ w (Nat.zero_le _) q hx).symm
      · have h14 := hW _ w q (by omega) hx
        rcases a8 w hw with z | z
        · exact z.symm
        · rw [z, h14]
    · rw [m6 w hw c]
      refine (a9 w hw (fun p _ p2 p3 => ?_)).symm
      obtain ⟨j, j1, j2, j3, j4⟩ := idx_iff.mp p3
      refine c ⟨j, Nat.zero_le _, ?_, ?_⟩
      · rcases Nat.lt_or_ge j r with z | z
        · exact z
        · have : pre E r ≤ pre E j := sm_mono z
          omega
      · have : pre E (j + 1) = pre E j + szN (E j) := rfl
        unfold inW
        omega
  have he : (fun j => if 7 * s ≤ j ∧ j < 7 * s + 7 then 0 else q1 j) = upd (upd f3 (7 * s) 0) (7 * s + 1) 0 := by
    funext j
    by_cases c1 : 7 * s ≤ j ∧ j < 7 * s + 7
    · rw [if_pos c1]
      by_cases c2 : j = 7 * s + 1
      · subst c2; rw [q_ul]
      · rw [q_un c2]
        by_cases c3 : j = 7 * s
        · subst c3; rw [q_ul]
        · rw [q_un c3]
          by_cases c4 : j = 7 * s + 2
          · subst c4; rw [a4]; rfl
          · obtain ⟨i, rfl⟩ : ∃ i, j = 7 * s + 3 + i := ⟨j - (7 * s + 3), by omega⟩
            rw [a5 i (by omega)]
            rfl
    · rw [if_neg c1, q_un (by omega), q_un (by omega)]
      by_cases c2 : 46 ≤ j ∧ j < 110
      · obtain ⟨w, rfl⟩ : ∃ w, j = 46 + w := ⟨j - 46, by omega⟩
        exact hw1 w (by omega)
      · by_cases c3 : j = 45
        · subst c3; rw [m2, a3]
        · rw [m4 j (by omega) (by omega), a6 j (by omega) (by omega)]
  rw [he] at hm
  refine ⟨_, hc, hm, ?_, ?_, ?_, ?_, ?_⟩
  · rw [q_un (by omega), q_un (by omega), a3]
  · intro i hi
    have := congrFun he (7 * s + i)
    rw [← this]
    exact if_pos (by omega)
  · intro j hj1 hj2
    rw [q_un (by omega), q_un (by omega)]
    exact a6 j hj1 (by omega)
  · intro p w p1 p2
    have := idx_lt h9 p2
    rw [q_un (by omega), q_un (by omega)]
    exact a7 p w (Nat.zero_le _) p1 p2
  · intro w hw
    rw [q_un (by omega), q_un (by omega)]
    exact a8 w hw
