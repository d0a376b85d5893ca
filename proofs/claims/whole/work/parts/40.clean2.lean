theorem trE_cin {E : Nat → Nat} {K b : Nat} (hK : K ≤ 4) : cin (trE E K) 4 b = cin E K b := by
  have h0 : ∀ d, K + d ≤ 4 → cin (trE E K) (K + d) b = cin E K b := by
    intro d
    induction d with
    | zero => intro _; exact sm_cong (fun i hi => by show (if inE (trE E K i) b = true then 1 else 0) = _; unfold trE; rw [if_pos (show i < K from hi)])
    | succ d ih =>
      intro h
      show cin (trE E K) (K + d) b + (if inE (trE E K (K + d)) b = true then 1 else 0) = _
      rw [ih (by omega)]
      have : trE E K (K + d) = 0 := if_neg (by omega)
      rw [this]; rfl
  have := h0 (4 - K) (by omega)
  rw [show K + (4 - K) = 4 by omega] at this
  exact this
theorem Cln.gb {f : Nat → Int32} {N O L R Q : Nat → Nat} {E : Nat → Nat → Nat} (h : Cln f N O L R Q E) {s nd : Nat} (hs : s < 6) :
    ∀ b, b < 32 → cov (va1 E s (trE (E s) (gbk (E s) nd (R s) (f 45)).1)) b ≤ 1 ∧ bt (gbk (E s) nd (R s) (f 45)).2 b = decide (cov (va1 E s (trE (E s) (gbk (E s) nd (R s) (f 45)).1)) b ≠ 0) := by
  obtain ⟨hr, hz, hok⟩ := h.ne hs
  obtain ⟨h1, h2, h3, h4, h5, h6, h7⟩ := h
  have hle : ∀ b, cin (E s) 4 b ≤ cov E b := fun b => sm_part (g := fun t => cin (E t) 4 b) hs
  have hc := gbk_cov (E := E s) (nd := nd) (c0 := fun b => cov E b - cin (E s) 4 b) hok (k := R s) (m := f 45) hr (fun b hb => by
    have := hle b
    have e : cov E b - cin (E s) 4 b + cin (E s) (R s) b = cov E b := by rw [← cin_nil hr hz]; omega
    show cov E b - cin (E s) 4 b + cin (E s) (R s) b ≤ 1 ∧ bt (f 45) b = decide (cov E b - cin (E s) 4 b + cin (E s) (R s) b ≠ 0)
    rw [e]
    exact ⟨h3 b hb, h5 b hb⟩)
  intro b hb
  have hK : (gbk (E s) nd (R s) (f 45)).1 ≤ 4 := by
    rcases Nat.lt_or_ge (pre (E s) (R s)) nd with q | q
    · have : ∀ {k : Nat} {m : Int32}, (gbk (E s) nd k m).1 ≤ k := by
        intro k
        induction k with
        | zero => intro m; exact Nat.le_refl _
        | succ k ih =>
          intro m
          rw [gbk]
          by_cases c : nd ≤ pre (E s) k
          · rw [if_pos c]; have := ih (m := clr m (E s k)); omega
          · rw [if_neg c]; exact Nat.le_refl _
      have := this (k := R s) (m := f 45); omega
    · have := (gbk_ok (k := R s) (m := f 45) q).1; omega
  have e : cov (va1 E s (trE (E s) (gbk (E s) nd (R s) (f 45)).1)) b = cov E b - cin (E s) 4 b + cin (E s) (gbk (E s) nd (R s) (f 45)).1 b := by
    have := cov_va1 (E := E) (s := s) (b := b) (E' := trE (E s) (gbk (E s) nd (R s) (f 45)).1) hs
    rw [trE_cin hK] at this
    have := hle b
    omega
  rw [e]
  exact hc b hb
/-- shrinking -/
theorem Cln.shrink {f f' : Nat → Int32} {N O L R Q : Nat → Nat} {E : Nat → Nat → Nat} (h : Cln f N O L R Q E) {s len : Nat} (hs : s < 6) (hN : N s ≠ 0) (hl : len ≤ L s)
    (a3 : f' 45 = (gbk (E s) ((len + 1) / 2) (R s) (f 45)).2) (a4 : f' (7 * s + 2) = nI len) (a5 : ∀ i, i < 4 → f' (7 * s + 3 + i) = nI (trE (E s) (gbk (E s) ((len + 1) / 2) (R s) (f 45)).1 i)) (a6 : ∀ j, (j < 45 ∨ 110 ≤ j) → ¬ (7 * s + 2 ≤ j ∧ j < 7 * s + 7) → f' j = f j)
    (a7 : ∀ p w, len ≤ p → p < L s → idx (E s) 4 0 p = some w → f' (46 + w) = 0) (a8 : ∀ w, w < 64 → f' (46 + w) = 0 ∨ f' (46 + w) = f (46 + w)) : Cl f' := by
  have hgb := h.gb (nd := (len + 1) / 2) hs
  obtain ⟨hr, hz, hok⟩ := h.ne hs
  obtain ⟨h1, h2, h3, h4, h5, h6, h7⟩ := h
  have hpr := pre_r hr hz
  have hgk := gbk_ok (E := E s) (nd := (len + 1) / 2) (k := R s) (m := f 45) (by have := (h4 s hs).1; omega)
  generalize gbk (E s) ((len + 1) / 2) (R s) (f 45) = G at *
  refine ⟨N, O, va1 L s len, va1 R s G.1, Q, va1 E s (trE (E s) G.1), fun t ht => ?_, h2, fun b hb => (hgb b hb).1, fun t ht => ?_, fun b hb => ?_, fun o ho => ?_, fun w hw => ?_⟩
  · by_cases c : t = s
    · subst c
      rw [va1_s, va1_s, va1_s]
      obtain ⟨⟨g1, g2, g3, g4⟩, ⟨g5, g6, g7, g8⟩, g9, g10, g11⟩ := h1 t ht
      refine ⟨⟨?_, ?_, a4, a5⟩, ⟨g5, g6, by omega, by omega⟩, trE_ok g9, trE_nz (fun i hi => (hz i (by omega)).mpr (by omega)), fun q => absurd q hN⟩
      · rw [a6 _ (by omega) (by omega)]; exact g1
      · rw [a6 _ (by omega) (by omega)]; exact g2
    · rw [va1_n c, va1_n c, va1_n c]
      exact (h1 t ht).same (fun i hi => a6 _ (by omega) (by omega))
  · by_cases c : t = s
    · subst c
      rw [va1_s, va1_s, va1_s]
      refine ⟨by rw [trE_pre (by omega)]; exact hgk.2.1, fun i hi => ?_⟩
      rw [trE_pre2, show min i G.1 = i by omega]
      exact hgk.2.2 i (by omega) hi
    · rw [va1_n c, va1_n c, va1_n c]; exact h4 t ht
  · rw [a3]; exact (hgb b hb).2
  · obtain ⟨g1, g2, g3⟩ := h6 o ho
    rw [a6 _ (by omega) (by omega)]
    refine ⟨g1, g2, Nat.le_trans (usg_mono (O := O) (E := E) (fun t ht => ?_)) g3⟩
    by_cases c : t = s
    · subst c
      rw [va1_s, trE_pre (by omega)]
      have : pre (E t) G.1 ≤ pre (E t) 4 := sm_mono (by omega)
      by_cases c2 : O t = o
      · rw [if_pos c2, if_pos c2]; exact this
      · rw [if_neg c2, if_neg c2]; exact Nat.le_refl _
    · rw [va1_n c]; exact Nat.le_refl _
  · rcases h7 w hw with ⟨t, t1, p, p1, p2⟩ | q
    · by_cases c : t = s
      · subst c
        rcases Nat.lt_or_ge p len with z | z
        · refine Or.inl ⟨t, t1, p, by rw [va1_s]; exact z, ?_⟩
          rw [va1_s]
          exact (trE_idx (by omega)).mpr ⟨by omega, p2⟩
        · exact Or.inr (a7 p w z p1 p2)
      · exact Or.inl ⟨t, t1, p, by rw [va1_n c]; exact p1, by rw [va1_n c]; exact p2⟩
    · rcases a8 w hw with z | z
      · exact Or.inr z
      · exact Or.inr (by rw [z, q])
/-- taking a file away -/
theorem Cln.drop {f f' : Nat → Int32} {N O L R Q : Nat → Nat} {E : Nat → Nat → Nat} (h : Cln f N O L R Q E) {s : Nat} (hs : s < 6)
    (a3 : f' 45 = (gbk (E s) 0 (R s) (f 45)).2) (a4 : ∀ i, i < 7 → f' (7 * s + i) = 0) (a6 : ∀ j, (j < 45 ∨ 110 ≤ j) → ¬ (7 * s ≤ j ∧ j < 7 * s + 7) → f' j = f j)
    (a7 : ∀ p w, p < L s → idx (E s) 4 0 p = some w → f' (46 + w) = 0) (a8 : ∀ w, w < 64 → f' (46 + w) = 0 ∨ f' (46 + w) = f (46 + w)) : Cln f' (va1 N s 0) (va1 O s 0) (va1 L s 0) (va1 R s 0) Q (va1 E s (fun _ => 0)) := by
  have hgb := h.gb (nd := 0) hs
  rw [gbk0] at hgb
  have e0 : trE (E s) 0 = fun _ => 0 := funext (fun i => if_neg (by omega))
  rw [e0] at hgb
  obtain ⟨h1, h2, h3, h4, h5, h6, h7⟩ := h
  refine ⟨fun t ht => ?_, fun t ht u hu hne => ?_, fun b hb => (hgb b hb).1, fun t ht => ?_, fun b hb => ?_, fun o ho => ?_, fun w hw => ?_⟩
  · by_cases c : t = s
    · subst c
      rw [va1_s, va1_s, va1_s, va1_s, va1_s]
      refine ⟨⟨a4 0 (by omega), a4 1 (by omega), a4 2 (by omega), fun k hk => ?_⟩, ⟨by omega, by omega, by omega, by omega⟩, fun k _ => rfl, fun k _ => ⟨fun q => absurd rfl q, fun q => absurd q (Nat.not_lt_zero _)⟩, fun _ => ⟨rfl, rfl, rfl⟩⟩
      rw [Nat.add_assoc]; exact a4 (3 + k) (by omega)
    · rw [va1_n c, va1_n c, va1_n c, va1_n c, va1_n c]
      exact (h1 t ht).same (fun i hi => a6 _ (by omega) (by omega))
  · by_cases c : t = s
    · subst c; rw [va1_s] at hne; exact absurd rfl hne
    · rw [va1_n c] at hne ⊢
      by_cases c2 : u = s
      · subst c2; rw [va1_s]; exact hne
      · rw [va1_n c2]; exact h2 t ht u hu hne
  · by_cases c : t = s
    · subst c
      rw [va1_s, va1_s, va1_s]
      exact ⟨Nat.zero_le _, fun i hi => absurd hi (by omega)⟩
    · rw [va1_n c, va1_n c, va1_n c]; exact h4 t ht
  · rw [a3]; exact (hgb b hb).2
  · obtain ⟨g1, g2, g3⟩ := h6 o ho
    rw [a6 _ (by omega) (by omega)]
    refine ⟨g1, g2, Nat.le_trans (usg_mono (O := O) (E := E) (fun t ht => ?_)) g3⟩
    by_cases c : t = s
    · subst c
      rw [va1_s, va1_s, show pre (fun _ => 0) 4 = 0 from rfl, ite_self]
      exact Nat.zero_le _
    · rw [va1_n c, va1_n c]; exact Nat.le_refl _
  · rcases h7 w hw with ⟨t, t1, p, p1, p2⟩ | q
    · by_cases c : t = s
      · subst c; exact Or.inr (a7 p w p1 p2)
      · exact Or.inl ⟨t, t1, p, by rw [va1_n c]; exact p1, by rw [va1_n c]; exact p2⟩
    · rcases a8 w hw with z | z
      · exact Or.inr z
      · exact Or.inr (by rw [z, q])
